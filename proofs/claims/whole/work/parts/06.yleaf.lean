/-! the reference's private methods against the pictures -/
section
variable {lo hi' fa bo on : Nat → Int32} {m n : Nat} {L S : Int32} {post : Int32 → Prop}
theorem ib_yFac {u : SY} {f v : Int32} (h : post (ib_fc f v)) : wpY_factor post u f v := h
theorem ib_yAfT {u : SY} {f : Int32} (ha : ib_af f = true) (h : post 1) : wpY_areFactors post u f := by
  obtain ⟨L, lo, hi', fa, bo, on⟩ := u
  unfold ib_af at ha
  rw [Bool.and_eq_true, Bool.and_eq_true, decide_eq_true_iff, decide_eq_true_iff, decide_eq_true_iff] at ha
  unfold wpY_areFactors
  dsimp only
  exact ib_yFac (br_f (Int32.not_lt.mpr ha.1) (ib_yFac (br_f (Int32.not_lt.mpr ha.2.1) (ib_yFac (br_f (Int32.not_lt.mpr ha.2.2) h)))))
theorem ib_yAfF {u : SY} {f : Int32} (ha : ib_af f = false) (h : post 0) : wpY_areFactors post u f := by
  obtain ⟨L, lo, hi', fa, bo, on⟩ := u
  unfold wpY_areFactors
  dsimp only
  refine ib_yFac (br_c (fun _ => h) (fun a => ib_yFac (br_c (fun _ => h) (fun b => ib_yFac (br_c (fun _ => h) (fun c => ?_))))))
  exact nomatch (ib_afT (Int32.not_lt.mp a) (Int32.not_lt.mp b) (Int32.not_lt.mp c)).symm.trans ha
theorem ib_yBdT {u : SY} {d : Int32} (h : -100 ≤ d ∧ d ≤ 100) (hp : post 1) : wpY_isNumber post u d := by
  obtain ⟨L, lo, hi', fa, bo, on⟩ := u
  unfold wpY_isNumber
  exact br_f (by rw [Int32.not_lt]; exact h.1) (br_f (by rw [Int32.not_lt]; exact h.2) hp)
theorem ib_yBdF {u : SY} {d : Int32} (h : ¬ (-100 ≤ d ∧ d ≤ 100)) (hp : post 0) : wpY_isNumber post u d := by
  obtain ⟨L, lo, hi', fa, bo, on⟩ := u
  unfold wpY_isNumber
  by_cases z : d < -100
  · exact br_t z hp
  · exact br_f z (br_t (by rw [Int32.not_lt] at z; rw [← Int32.not_le]; exact fun y => h ⟨z, y⟩) hp)
theorem ib_yLimF {v : Int32} (h : v < 0 ∨ L ≤ v) (h0 : 0 ≤ L) (hp : post 0) : wpY_isLimit post (L, lo, hi', fa, bo, on) v := by
  unfold wpY_isLimit
  rcases h with h | h
  · exact br_t h hp
  · exact br_f (by rw [Int32.not_lt]; exact Int32.le_trans h0 h) (br_t h hp)
theorem ib_yLimT {j : Nat} (h : j < m) (hm : m ≤ 6) (hp : post 1) : wpY_isLimit post (nI m, lo, hi', fa, bo, on) (nI j) := by
  unfold wpY_isLimit
  exact br_f (nI_pos (by omega)) (br_f (nI_ge h (by omega)) hp)
theorem ib_yNum {u : SY} {v : Nat} (hn : n < 4913) (hv : v < 3) (h : post (ib_nm n v)) : wpY_number post u (nI n) (nI v) := by
  obtain ⟨L, lo, hi', fa, bo, on⟩ := u
  unfold wpY_number
  dsimp only
  rcases (show v = 0 ∨ v = 1 ∨ v = 2 by omega) with z | z | z <;> subst z
  · refine br_t rfl ⟨by decide, ?_⟩
    rw [ib_d289 hn]
    exact h
  · refine br_f (by decide) (br_t rfl ⟨by decide, by decide, ?_⟩)
    rw [ib_d17 hn, ib_r17 (by omega)]
    exact h
  · refine br_f (by decide) (br_f (by decide) ⟨by decide, ?_⟩)
    rw [ib_r17 hn]
    exact h
theorem ib_yVal {u : SY} {f : Int32} (hn : n < 4913) (h : post (ib_val f n)) : wpY_value post u f (nI n) := by
  obtain ⟨L, lo, hi', fa, bo, on⟩ := u
  unfold wpY_value
  dsimp only
  exact ib_yFac (ib_yNum (v := 0) hn (by omega) (ib_yFac (ib_yNum (v := 1) hn (by omega) (ib_yFac (ib_yNum (v := 2) hn (by omega) h)))))
/-- the limits of a set, from the first -/
theorem ib_yKpL (hm : m ≤ 6) (hn : n < 4913) (hr : ib_inr lo hi' n = true) (h1 : ib_kp lo hi' fa bo m S n = true → post 1) (h0 : ib_kp lo hi' fa bo m S n = false → post 0) : ∃ k, wY_keeps_47 post (nI n) S (nI m) lo hi' fa bo on k 0 := by
  refine loop_0 (fun k i (_ : Unit) => wY_keeps_47 post (nI n) S (nI m) lo hi' fa bo on k (nI i)) (fun i _ => ∀ j, j < i → bt S j = true → ib_brk fa bo n j = false) m () (fun j hj => absurd hj (Nat.not_lt_zero j)) ?_ ?_
  · intro k s e
    exact br_t (Int32.le_refl _) (h1 (ib_kpTi hm hr e))
  · intro k i s hi e K
    have ec : (nI i).toNatClampNeg = i := nI_clamp (by omega)
    have h6 : vp_in (nI i) 6 := ib_in6 (by omega)
    refine br_f (nI_ge hi (by omega)) (br_c (fun a => nm_r (nI_1 i) (K () (lt_s e fun b => ?_))) (fun a => ⟨h6, ib_yVal hn ⟨h6, ?_⟩⟩))
    · rw [(ib_bit0 S (by omega)).mp a] at b
      exact nomatch b
    · rw [ec]
      refine br_c (fun b => nm_r (nI_1 i) (K () (lt_s e fun _ => ib_brkF b))) (fun b => h0 (ib_kpFi hm hi ?_ (ib_brkT b)))
      cases c : bt S i
      · exact absurd ((ib_bit0 S (by omega)).mpr c) a
      · rfl
theorem ib_yKp (hm : m ≤ 6) (hn : n < 4913) (h1 : ib_kp lo hi' fa bo m S n = true → post 1) (h0 : ib_kp lo hi' fa bo m S n = false → post 0) : wpY_keeps post (nI m, lo, hi', fa, bo, on) (nI n) S := by
  refine loop_0 (fun k i (_ : Unit) => wY_keeps_2 post (nI n) S (nI m) lo hi' fa bo on k (nI i)) (fun i _ => ∀ v, v < i → ib_in lo hi' n v = true) 3 () (fun j hj => absurd hj (Nat.not_lt_zero j)) ?_ ?_
  · intro k s e
    exact br_t (Int32.le_refl _) (ib_yKpL hm hn (ib_inrT e) h1 h0)
  · intro k i s hi e K
    have ec : (nI i).toNatClampNeg = i := nI_clamp (by omega)
    refine br_f (nI_ge (b := 3) hi (by decide)) (ib_yNum hn hi ⟨ib_in3 hi, ?_⟩)
    rw [ec]
    refine br_c (fun a => h0 (ib_kpF1 (ib_inrF hi (ib_inF1 a)))) (fun a => ib_yNum hn hi ⟨ib_in3 hi, ?_⟩)
    exact br_c (fun b => nm_r (nI_1 i) (K () (lt_s e (ib_inT a b)))) (fun b => h0 (ib_kpF1 (ib_inrF hi (ib_inF2 b))))
theorem ib_onT {i : Nat} (h : ¬ on i = 0) : ib_on on i = true := by unfold ib_on; exact decide_eq_true h
theorem ib_onF {i : Nat} (h : on i = 0) : ib_on on i = false := by unfold ib_on; exact decide_eq_false (fun z => z h)
theorem ib_yAll (hm : m ≤ 6) (h : post (ib_msk (ib_on on) m)) : wpY_allOn post (nI m, lo, hi', fa, bo, on) := by
  refine loop_0 (fun k i (s : Int32) => wY_allOn_4 post (nI m) lo hi' fa bo on k s (nI i)) (fun i s => s = ib_msk (ib_on on) i) m 0 rfl ?_ ?_
  · intro k s e
    subst e
    exact br_t (Int32.le_refl _) h
  · intro k i s hi e K
    subst e
    have ec : (nI i).toNatClampNeg = i := nI_clamp (by omega)
    refine br_f (nI_ge hi (by omega)) ⟨ib_in6 (by omega), ?_⟩
    rw [ec]
    refine br_c (fun a => nm_r (nI_1 i) (K _ ?_)) (fun a => nm_e (nm_r (nI_1 i) (K _ ?_)))
    · rw [ib_msk, ib_onF a, if_neg (by decide)]
    · rw [ib_msk, ib_onT a, if_pos rfl]
theorem ib_ySz {u : SY} {T : Int32} (h : post (nI (ib_sz T 6))) : wpY_size post u T := by
  obtain ⟨L, lo, hi', fa, bo, on⟩ := u
  refine loop_0 (fun k i (s : Int32) => wY_size_4 post T L lo hi' fa bo on k s (nI i)) (fun i s => s = nI (ib_sz T i)) 6 0 rfl ?_ ?_
  · intro k s e
    subst e
    exact br_t (Int32.le_refl _) h
  · intro k i s hi e K
    subst e
    exact br_f (nI_ge (b := 6) hi (by decide)) (nm_r (ib_szS T (by omega)) (nm_r (nI_1 i) (K _ rfl)))
end
