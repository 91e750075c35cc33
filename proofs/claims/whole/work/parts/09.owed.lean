/-! what is owed -/
def i_Rel (k : Nat) (u : SX) (v : SY) : Prop := ∃ (lo hi fa bo on : Nat → Int32) (m : Nat), m ≤ 6 ∧ u = (nI m, ib_msk (ib_on on) m, lo, hi, fa, bo) ∧ v = (nI m, lo, hi, fa, bo, on)
theorem i_up {k : Nat} {u : SX} {v : SY} (h : i_Rel k u v) : i_Rel (k + 4) u v := h
theorem i_vc0 : wpX_init (fun u => wpY_init (fun v => i_Rel 0 u v)) := by
  refine ⟨4, ?_⟩
  refine br_f (by decide) ⟨ib_in3 (v := 0) (by omega), nm_e ⟨ib_in3 (v := 0) (by omega), nm_e (nm_r (e' := nI 1) (by decide) ?_)⟩⟩
  refine br_f (by decide) ⟨ib_in3 (v := 1) (by omega), nm_e ⟨ib_in3 (v := 1) (by omega), nm_e (nm_r (e' := nI 2) (by decide) ?_)⟩⟩
  refine br_f (by decide) ⟨ib_in3 (v := 2) (by omega), nm_e ⟨ib_in3 (v := 2) (by omega), nm_e (nm_r (e' := nI 3) (by decide) ?_)⟩⟩
  refine br_t (by decide) ?_
  refine ⟨4, ?_⟩
  refine br_f (by decide) ⟨ib_in3 (v := 0) (by omega), nm_e ⟨ib_in3 (v := 0) (by omega), nm_e (nm_r (e' := nI 1) (by decide) ?_)⟩⟩
  refine br_f (by decide) ⟨ib_in3 (v := 1) (by omega), nm_e ⟨ib_in3 (v := 1) (by omega), nm_e (nm_r (e' := nI 2) (by decide) ?_)⟩⟩
  refine br_f (by decide) ⟨ib_in3 (v := 2) (by omega), nm_e ⟨ib_in3 (v := 2) (by omega), nm_e (nm_r (e' := nI 3) (by decide) ?_)⟩⟩
  refine br_t (by decide) ?_
  exact ⟨_, _, _, _, _, 0, Nat.zero_le _, rfl, rfl⟩
theorem i_vc_range {k : Nat} {u : SX} {v : SY} (I : i_Rel k u v) (hk : k + 4 ≤ 2048) (v1 : Int32) (v2 : Int32) (v3 : Int32) : wpX_range (fun r u' => wpY_range (fun r' v' => r' = r ∧ i_Rel (k + 4) u' v') v v1 v2 v3) u v1 v2 v3 := by
  obtain ⟨lo, hi', fa, bo, on, m, hm, rfl, rfl⟩ := I
  have R : i_Rel (k + 4) (nI m, ib_msk (ib_on on) m, lo, hi', fa, bo) (nI m, lo, hi', fa, bo, on) := ⟨lo, hi', fa, bo, on, m, hm, rfl, rfl⟩
  unfold wpX_range wpY_range
  dsimp only
  rcases pk_ix v1 (n := 3) (by omega) with h | h | ⟨j, hj, rfl⟩
  · exact ib_xVarF (Or.inl h) (br_t rfl (br_t h ⟨rfl, R⟩))
  · exact ib_xVarF (Or.inr h) (br_t rfl (br_f (ib_nn h (by decide)) (br_f (ib_n2 h) ⟨rfl, R⟩)))
  · have e2 : nI j ≤ (2 : Int32) := nI_le (b := 2) (by omega) (by decide)
    have e0 : ¬ nI j < 0 := nI_pos (by omega)
    have h3 := ib_in3 hj
    refine ib_xVarT hj (br_f (by decide) ?_)
    by_cases c1 : v2 < -8
    · exact br_t c1 (br_f e0 (br_t e2 (br_t c1 ⟨rfl, R⟩)))
    by_cases c2 : v3 < v2
    · exact br_f c1 (br_t c2 (br_f e0 (br_t e2 (br_f c1 (br_t c2 ⟨rfl, R⟩)))))
    by_cases c3 : v3 ≤ 8
    · exact br_f c1 (br_f c2 (br_t c3 ⟨h3, nm_e ⟨h3, nm_e (br_f e0 (br_t e2 (br_f c1 (br_f c2 (br_t c3 ⟨h3, nm_e ⟨h3, nm_e ⟨rfl, _, _, _, _, _, m, hm, rfl, rfl⟩⟩⟩)))))⟩⟩))
    · exact br_f c1 (br_f c2 (br_f c3 (br_f e0 (br_t e2 (br_f c1 (br_f c2 (br_f c3 ⟨rfl, R⟩)))))))
theorem i_vc_limit {k : Nat} {u : SX} {v : SY} (I : i_Rel k u v) (hk : k + 4 ≤ 2048) (v1 : Int32) (v2 : Int32) : wpX_limit (fun r u' => wpY_limit (fun r' v' => r' = r ∧ i_Rel (k + 4) u' v') v v1 v2) u v1 v2 := by
  obtain ⟨lo, hi', fa, bo, on, m, hm, rfl, rfl⟩ := I
  have R : i_Rel (k + 4) (nI m, ib_msk (ib_on on) m, lo, hi', fa, bo) (nI m, lo, hi', fa, bo, on) := ⟨lo, hi', fa, bo, on, m, hm, rfl, rfl⟩
  unfold wpX_limit wpY_limit
  dsimp only
  refine ib_xAf (fun a => br_f (by decide) ?_) (fun a => br_t rfl (ib_yAfF a (br_t rfl ⟨rfl, R⟩)))
  by_cases hb : -100 ≤ v2 ∧ v2 ≤ 100
  · refine ib_xBdT hb (br_f (by decide) ?_)
    rcases (show m < 6 ∨ m = 6 by omega) with h | h
    · have h6 := ib_in6 h
      have ec : (nI m).toNatClampNeg = m := nI_clamp (by omega)
      refine br_t (nI_lt (b := 6) h (by decide)) ⟨h6, nm_e ⟨h6, nm_e (nm_e (nm_r (nI_1 m) (ib_yAfT a (br_f (by decide) (ib_yBdT hb (br_f (by decide) (br_f ?_ ⟨h6, nm_e ⟨h6, nm_e ⟨h6, nm_e (nm_r (nI_1 m) ⟨?_, ?_⟩)⟩⟩⟩)))))))⟩⟩
      · exact mt (nI_eq (a := m) (b := 6) (by omega) (by omega)).mp (by omega)
      · exact nI_pred m
      · rw [ec]
        exact ⟨lo, hi', upd fa m v1, upd bo m v2, upd on m (vp_nar .boolean 1), m + 1, by omega, by rw [ib_onLim on m _ (by decide)], rfl⟩
    · subst h
      exact br_f (by decide) (ib_yAfT a (br_f (by decide) (ib_yBdT hb (br_f (by decide) (br_t rfl ⟨rfl, R⟩)))))
  · exact ib_xBdF hb (br_t rfl (ib_yAfT a (br_f (by decide) (ib_yBdF hb (br_t rfl ⟨rfl, R⟩)))))
theorem i_vc_relax {k : Nat} {u : SX} {v : SY} (I : i_Rel k u v) (hk : k + 4 ≤ 2048) (v1 : Int32) (v2 : Int32) : wpX_relax (fun r u' => wpY_relax (fun r' v' => r' = r ∧ i_Rel (k + 4) u' v') v v1 v2) u v1 v2 := by
  obtain ⟨lo, hi', fa, bo, on, m, hm, rfl, rfl⟩ := I
  have R : i_Rel (k + 4) (nI m, ib_msk (ib_on on) m, lo, hi', fa, bo) (nI m, lo, hi', fa, bo, on) := ⟨lo, hi', fa, bo, on, m, hm, rfl, rfl⟩
  unfold wpX_relax wpY_relax
  dsimp only
  rcases pk_ix v1 (n := m) (by omega) with h | h | ⟨j, hj, rfl⟩
  · exact ib_xLimF (Or.inl h) (nI_pos' (by omega)) (br_t rfl (ib_yLimF (Or.inl h) (nI_pos' (by omega)) (br_t rfl ⟨rfl, R⟩)))
  · exact ib_xLimF (Or.inr h) (nI_pos' (by omega)) (br_t rfl (ib_yLimF (Or.inr h) (nI_pos' (by omega)) (br_t rfl ⟨rfl, R⟩)))
  · have h6 : vp_in (nI j) 6 := ib_in6 (by omega)
    refine ib_xLimT hj hm (br_f (by decide) ?_)
    by_cases hb : -100 ≤ v2 ∧ v2 ≤ 100
    · exact ib_xBdT hb (br_f (by decide) ⟨h6, nm_e ⟨h6, nm_e (ib_yLimT hj hm (br_f (by decide) (ib_yBdT hb (br_f (by decide) ⟨h6, nm_e ⟨h6, nm_e ⟨rfl, _, _, _, _, _, m, hm, rfl, rfl⟩⟩⟩))))⟩⟩)
    · exact ib_xBdF hb (br_t rfl (ib_yLimT hj hm (br_f (by decide) (ib_yBdF hb (br_t rfl ⟨rfl, R⟩)))))
theorem ib_turnY {lo hi' fa bo on : Nat → Int32} {k m j : Nat} {T r x : Int32} (hm : m ≤ 6) (hj : j < m) (hT : T = ib_msk (ib_on (upd on j (vp_nar .boolean x))) m) (hr : r = if on j = 0 then 0 else 1) : wpY_turn (fun r' v' => r' = r ∧ i_Rel k (nI m, T, lo, hi', fa, bo) v') (nI m, lo, hi', fa, bo, on) (nI j) x := by
  unfold wpY_turn
  dsimp only
  have ec : (nI j).toNatClampNeg = j := nI_clamp (by omega)
  have h6 : vp_in (nI j) 6 := ib_in6 (by omega)
  refine ib_yLimT hj hm (br_f (by decide) ⟨h6, ?_⟩)
  rw [ec]
  refine br_c (fun a => ⟨h6, nm_e ⟨?_, ?_⟩⟩) (fun a => ⟨h6, nm_e ⟨?_, ?_⟩⟩)
  · rw [hr, if_pos a]
  · rw [ec]
    exact ⟨lo, hi', fa, bo, upd on j (vp_nar .boolean x), m, hm, by rw [hT], rfl⟩
  · rw [hr, if_neg a]
  · rw [ec]
    exact ⟨lo, hi', fa, bo, upd on j (vp_nar .boolean x), m, hm, by rw [hT], rfl⟩
theorem i_vc_turn {k : Nat} {u : SX} {v : SY} (I : i_Rel k u v) (hk : k + 4 ≤ 2048) (v1 : Int32) (v2 : Int32) : wpX_turn (fun r u' => wpY_turn (fun r' v' => r' = r ∧ i_Rel (k + 4) u' v') v v1 (lw_bz v2)) u v1 (lw_bz v2) := by
  obtain ⟨lo, hi', fa, bo, on, m, hm, rfl, rfl⟩ := I
  have R : i_Rel (k + 4) (nI m, ib_msk (ib_on on) m, lo, hi', fa, bo) (nI m, lo, hi', fa, bo, on) := ⟨lo, hi', fa, bo, on, m, hm, rfl, rfl⟩
  rcases pk_ix v1 (n := m) (by omega) with h | h | ⟨j, hj, rfl⟩
  · unfold wpX_turn wpY_turn
    dsimp only
    exact ib_xLimF (Or.inl h) (nI_pos' (by omega)) (br_t rfl (ib_yLimF (Or.inl h) (nI_pos' (by omega)) (br_t rfl ⟨rfl, R⟩)))
  · unfold wpX_turn wpY_turn
    dsimp only
    exact ib_xLimF (Or.inr h) (nI_pos' (by omega)) (br_t rfl (ib_yLimF (Or.inr h) (nI_pos' (by omega)) (br_t rfl ⟨rfl, R⟩)))
  · unfold wpX_turn
    dsimp only
    refine ib_xLimT hj hm (br_f (by decide) (nm_r (ib_bitOn hm hj) (nm_e ?_)))
    rcases lw_bz_01 v2 with e | e <;> rw [e]
    · exact br_t rfl (ib_turnY hm hj (ib_onOff on (by omega) hj _ (by decide)).symm rfl)
    · exact br_f (by decide) (nm_e (ib_turnY hm hj (ib_onOn on (by omega) hj _ (by decide)).symm rfl))
theorem i_vc_drop {k : Nat} {u : SX} {v : SY} (I : i_Rel k u v) (hk : k + 4 ≤ 2048) : wpX_drop (fun r u' => wpY_drop (fun r' v' => r' = r ∧ i_Rel (k + 4) u' v') v) u := by
  obtain ⟨lo, hi', fa, bo, on, m, hm, rfl, rfl⟩ := I
  have R : i_Rel (k + 4) (nI m, ib_msk (ib_on on) m, lo, hi', fa, bo) (nI m, lo, hi', fa, bo, on) := ⟨lo, hi', fa, bo, on, m, hm, rfl, rfl⟩
  unfold wpX_drop wpY_drop
  dsimp only
  cases m with
  | zero => exact br_f (by decide) (br_t rfl ⟨rfl, R⟩)
  | succ q => exact br_t (nI_lt (a := 0) (by omega) (by omega)) (nm_r (nI_pred q) (nm_r (ib_onDrop on (by omega)) (br_f (nI_ne0 (by omega) (by omega)) (nm_r (nI_pred q) ⟨rfl, lo, hi', fa, bo, on, q, by omega, rfl, rfl⟩))))
theorem i_vc_points {k : Nat} {u : SX} {v : SY} (I : i_Rel k u v) (hk : k + 4 ≤ 2048) : wpX_points (fun r => wpY_points (fun r' => r' = r ∧ i_Rel (k + 4) u v) v) u := by
  obtain ⟨lo, hi', fa, bo, on, m, hm, rfl, rfl⟩ := I
  have R : i_Rel (k + 4) (nI m, ib_msk (ib_on on) m, lo, hi', fa, bo) (nI m, lo, hi', fa, bo, on) := ⟨lo, hi', fa, bo, on, m, hm, rfl, rfl⟩
  unfold wpX_points wpY_points
  dsimp only
  exact ib_xCnt hm (ib_yAll hm (ib_yCnt hm ⟨rfl, R⟩))
theorem i_vc_first {k : Nat} {u : SX} {v : SY} (I : i_Rel k u v) (hk : k + 4 ≤ 2048) (v1 : Int32) : wpX_first (fun r => wpY_first (fun r' => r' = r ∧ i_Rel (k + 4) u v) v v1) u v1 := by
  obtain ⟨lo, hi', fa, bo, on, m, hm, rfl, rfl⟩ := I
  have R : i_Rel (k + 4) (nI m, ib_msk (ib_on on) m, lo, hi', fa, bo) (nI m, lo, hi', fa, bo, on) := ⟨lo, hi', fa, bo, on, m, hm, rfl, rfl⟩
  rcases pk_ix v1 (n := 3) (by omega) with h | h | ⟨j, hj, rfl⟩
  · unfold wpX_first wpY_first
    dsimp only
    exact ib_xVarF (Or.inl h) (br_t rfl (br_t h ⟨rfl, R⟩))
  · unfold wpX_first wpY_first
    dsimp only
    exact ib_xVarF (Or.inr h) (br_t rfl (br_f (ib_nn h (by decide)) (br_f (ib_n2 h) ⟨rfl, R⟩)))
  · exact ib_xFst hm hj (fun n hn p mn => ib_yFirst hm hj (fun n' hn' p' mn' => ⟨by rw [ib_fst p' mn' p mn], R⟩) (fun al => nomatch p.symm.trans (al n hn))) (fun al => ib_yFirst hm hj (fun n hn p _ => nomatch p.symm.trans (al n hn)) (fun _ => ⟨rfl, R⟩))
theorem i_vc_greatest {k : Nat} {u : SX} {v : SY} (I : i_Rel k u v) (hk : k + 4 ≤ 2048) (v1 : Int32) : wpX_greatest (fun r => wpY_greatest (fun r' => r' = r ∧ i_Rel (k + 4) u v) v v1) u v1 := by
  obtain ⟨lo, hi', fa, bo, on, m, hm, rfl, rfl⟩ := I
  have R : i_Rel (k + 4) (nI m, ib_msk (ib_on on) m, lo, hi', fa, bo) (nI m, lo, hi', fa, bo, on) := ⟨lo, hi', fa, bo, on, m, hm, rfl, rfl⟩
  cases ha : ib_af v1
  · unfold wpX_greatest wpY_greatest
    dsimp only
    exact ib_xAf (fun b => nomatch ha.symm.trans b) (fun _ => br_t rfl (ib_yAfF ha (br_t rfl ⟨rfl, R⟩)))
  · exact ib_xGr hm ha (ib_yGr hm ha ⟨rfl, R⟩)
theorem i_vc_follows {k : Nat} {u : SX} {v : SY} (I : i_Rel k u v) (hk : k + 4 ≤ 2048) (v1 : Int32) (v2 : Int32) : wpX_follows (fun r => wpY_follows (fun r' => r' = r ∧ i_Rel (k + 4) u v) v v1 v2) u v1 v2 := by
  obtain ⟨lo, hi', fa, bo, on, m, hm, rfl, rfl⟩ := I
  have R : i_Rel (k + 4) (nI m, ib_msk (ib_on on) m, lo, hi', fa, bo) (nI m, lo, hi', fa, bo, on) := ⟨lo, hi', fa, bo, on, m, hm, rfl, rfl⟩
  cases ha : ib_af v1
  · unfold wpX_follows wpY_follows
    dsimp only
    exact ib_xAf (fun b => nomatch ha.symm.trans b) (fun _ => br_t rfl (ib_yAll hm (ib_yAfF ha (br_t rfl ⟨rfl, R⟩))))
  · exact ib_xFol hm ha (fun al => ib_yFol hm ha (fun _ => ⟨rfl, R⟩) (fun z => absurd al z)) (fun n hn p nb => ib_yFol hm ha (fun al => absurd (al n hn p) nb) (fun _ => ⟨rfl, R⟩))
theorem i_vc_numbers {k : Nat} {u : SX} {v : SY} (I : i_Rel k u v) (hk : k + 4 ≤ 2048) (v1 : Int32) : wpX_numbers (fun r => wpY_numbers (fun r' => r' = r ∧ i_Rel (k + 4) u v) v v1) u v1 := by
  obtain ⟨lo, hi', fa, bo, on, m, hm, rfl, rfl⟩ := I
  have R : i_Rel (k + 4) (nI m, ib_msk (ib_on on) m, lo, hi', fa, bo) (nI m, lo, hi', fa, bo, on) := ⟨lo, hi', fa, bo, on, m, hm, rfl, rfl⟩
  rcases pk_ix v1 (n := 3) (by omega) with h | h | ⟨j, hj, rfl⟩
  · unfold wpX_numbers wpY_numbers
    dsimp only
    exact ib_xVarF (Or.inl h) (br_t rfl (br_t h ⟨rfl, R⟩))
  · unfold wpX_numbers wpY_numbers
    dsimp only
    exact ib_xVarF (Or.inr h) (br_t rfl (br_f (ib_nn h (by decide)) (br_f (ib_n2 h) ⟨rfl, R⟩)))
  · exact ib_xNbs hm hj (ib_yNbs hm hj ⟨rfl, R⟩)
theorem i_vc_idle {k : Nat} {u : SX} {v : SY} (I : i_Rel k u v) (hk : k + 4 ≤ 2048) (v1 : Int32) : wpX_idle (fun r => wpY_idle (fun r' => r' = r ∧ i_Rel (k + 4) u v) v v1) u v1 := by
  obtain ⟨lo, hi', fa, bo, on, m, hm, rfl, rfl⟩ := I
  have R : i_Rel (k + 4) (nI m, ib_msk (ib_on on) m, lo, hi', fa, bo) (nI m, lo, hi', fa, bo, on) := ⟨lo, hi', fa, bo, on, m, hm, rfl, rfl⟩
  unfold wpX_idle wpY_idle
  dsimp only
  rcases pk_ix v1 (n := m) (by omega) with h | h | ⟨j, hj, rfl⟩
  · exact ib_xLimF (Or.inl h) (nI_pos' (by omega)) (br_t rfl (ib_yLimF (Or.inl h) (nI_pos' (by omega)) (br_t rfl ⟨rfl, R⟩)))
  · exact ib_xLimF (Or.inr h) (nI_pos' (by omega)) (br_t rfl (ib_yLimF (Or.inr h) (nI_pos' (by omega)) (br_t rfl ⟨rfl, R⟩)))
  · have ec : (nI j).toNatClampNeg = j := nI_clamp (by omega)
    have h6 : vp_in (nI j) 6 := ib_in6 (by omega)
    refine ib_xLimT hj hm (br_f (by decide) ?_)
    by_cases z : on j = 0
    · exact br_t (by rw [ib_bitOn hm hj, if_pos z]) (ib_yLimT hj hm (br_f (by decide) ⟨h6, br_t (by rw [ec]; exact z) ⟨rfl, R⟩⟩))
    · refine br_f (by rw [ib_bitOn hm hj, if_neg z]; decide) (ib_xCnt hm (ib_xCnt hm (br_c (fun a => ib_yLimT hj hm (br_f (by decide) ⟨h6, br_f (by rw [ec]; exact z) (ib_yAll hm (ib_yCnt hm (ib_yCnt hm (br_t a.symm ⟨rfl, R⟩))))⟩)) (fun a => ib_yLimT hj hm (br_f (by decide) ⟨h6, br_f (by rw [ec]; exact z) (ib_yAll hm (ib_yCnt hm (ib_yCnt hm (br_f (fun b => a b.symm) ⟨rfl, R⟩))))⟩)))))
theorem i_vc_core {k : Nat} {u : SX} {v : SY} (I : i_Rel k u v) (hk : k + 4 ≤ 2048) : wpX_core (fun r => wpY_core (fun r' => r' = r ∧ i_Rel (k + 4) u v) v) u := by
  obtain ⟨lo, hi', fa, bo, on, m, hm, rfl, rfl⟩ := I
  have R : i_Rel (k + 4) (nI m, ib_msk (ib_on on) m, lo, hi', fa, bo) (nI m, lo, hi', fa, bo, on) := ⟨lo, hi', fa, bo, on, m, hm, rfl, rfl⟩
  exact ib_xCore hm (ib_on6 on hm) (fun b0 => ib_yCore hm (fun a Y => ⟨ib_fin0 (fun t ht g => ib_bitT (fun n => ib_mkS hm _) 4913 b0 g.1 g.2) Y, R⟩)) (fun y X => ib_yCore hm (fun a Y => ⟨ib_fin X Y, R⟩))
theorem i_vc_tight {k : Nat} {u : SX} {v : SY} (I : i_Rel k u v) (hk : k + 4 ≤ 2048) (v1 : Int32) : wpX_tight (fun r => wpY_tight (fun r' => r' = r ∧ i_Rel (k + 4) u v) v v1) u v1 := by
  obtain ⟨lo, hi', fa, bo, on, m, hm, rfl, rfl⟩ := I
  have R : i_Rel (k + 4) (nI m, ib_msk (ib_on on) m, lo, hi', fa, bo) (nI m, lo, hi', fa, bo, on) := ⟨lo, hi', fa, bo, on, m, hm, rfl, rfl⟩
  rcases pk_ix v1 (n := m) (by omega) with h | h | ⟨j, hj, rfl⟩
  · unfold wpX_tight wpY_tight
    dsimp only
    exact ib_xLimF (Or.inl h) (nI_pos' (by omega)) (br_t rfl (ib_yLimF (Or.inl h) (nI_pos' (by omega)) (br_t rfl ⟨rfl, R⟩)))
  · unfold wpX_tight wpY_tight
    dsimp only
    exact ib_xLimF (Or.inr h) (nI_pos' (by omega)) (br_t rfl (ib_yLimF (Or.inr h) (nI_pos' (by omega)) (br_t rfl ⟨rfl, R⟩)))
  · exact ib_xTi hm hj (ib_yTi hm hj ⟨rfl, R⟩)
