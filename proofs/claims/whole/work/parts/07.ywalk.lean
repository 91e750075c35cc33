/-! the reference's walks over the places -/
section
variable {lo hi' fa bo on : Nat → Int32} {m : Nat} {post : Int32 → Prop}
theorem ib_yCnt {T : Int32} (hm : m ≤ 6) (h : post (nI (ib_ct (ib_kp lo hi' fa bo m T) 4913))) : wpY_count post (nI m, lo, hi', fa, bo, on) T := by
  refine loop_0 (fun k i (s : Int32) => wY_count_4 post T (nI m) lo hi' fa bo on k s (nI i)) (fun i s => s = nI (ib_ct (ib_kp lo hi' fa bo m T) i)) 4913 0 rfl ?_ ?_
  · intro k s e
    subst e
    exact br_t ib_plE h
  · intro k i s hi e K
    subst e
    exact br_f (ib_pl hi) (ib_yKp hm hi (fun a => br_f (by decide) (nm_r (ib_ctT a) (nm_r (nI_1 i) (K _ rfl)))) (fun a => br_t rfl (nm_r (nI_1 i) (K _ (congrArg nI (ib_ctF a))))))
theorem ib_yFst {T : Int32} (hm : m ≤ 6) (h1 : ∀ n, n < 4913 → ib_kp lo hi' fa bo m T n = true → (∀ j, j < n → ib_kp lo hi' fa bo m T j = false) → post (nI n)) (h0 : (∀ n, n < 4913 → ib_kp lo hi' fa bo m T n = false) → post (-10000)) : wpY_firstOf post (nI m, lo, hi', fa, bo, on) T := by
  refine loop_0 (fun k i (_ : Unit) => wY_firstOf_2 post T (nI m) lo hi' fa bo on k (nI i)) (fun i _ => ∀ j, j < i → ib_kp lo hi' fa bo m T j = false) 4913 () (fun j hj => absurd hj (Nat.not_lt_zero j)) ?_ ?_
  · intro k s e
    exact br_t ib_plE (h0 e)
  · intro k i s hi e K
    exact br_f (ib_pl hi) (ib_yKp hm hi (fun a => br_f (by decide) (h1 i hi a e)) (fun a => br_t rfl (nm_r (nI_1 i) (K () (lt_s e a)))))
theorem ib_yGr {f : Int32} (hm : m ≤ 6) (ha : ib_af f = true) (h : post (ib_fd (ib_gst (ib_kp lo hi' fa bo m (ib_msk (ib_on on) m)) (ib_val f)) (-10000) 4913)) : wpY_greatest post (nI m, lo, hi', fa, bo, on) f := by
  unfold wpY_greatest
  dsimp only
  refine ib_yAfT ha (br_f (by decide) (ib_yAll hm ?_))
  refine loop_0 (fun k i (s : Int32) => wY_greatest_23 post f (ib_msk (ib_on on) m) (nI m) lo hi' fa bo on k s (nI i)) (fun i s => s = ib_fd (ib_gst (ib_kp lo hi' fa bo m (ib_msk (ib_on on) m)) (ib_val f)) (-10000) i) 4913 (-10000) rfl ?_ ?_
  · intro k s e
    subst e
    exact br_t ib_plE h
  · intro k i s hi e K
    subst e
    exact br_f (ib_pl hi) (ib_yKp hm hi (fun a => br_f (by decide) (ib_yVal hi (br_c (fun b => nm_r (nI_1 i) (K _ (ib_gstN a b).symm)) (fun b => ib_yVal hi (nm_r (nI_1 i) (K _ (ib_gstT a b).symm)))))) (fun a => br_t rfl (nm_r (nI_1 i) (K _ (ib_gstF a).symm))))
theorem ib_yNbs {v : Nat} (hm : m ≤ 6) (hv : v < 3) (h : post (ib_fd (ib_sn (ib_kp lo hi' fa bo m (ib_msk (ib_on on) m)) v) 0 4913)) : wpY_numbers post (nI m, lo, hi', fa, bo, on) (nI v) := by
  unfold wpY_numbers
  dsimp only
  refine br_f (nI_pos (by omega)) (br_t (nI_le (b := 2) (by omega) (by decide)) (ib_yAll hm ?_))
  refine loop_0 (fun k i (s : Int32) => wY_numbers_21 post (nI v) (ib_msk (ib_on on) m) (nI m) lo hi' fa bo on k s (nI i)) (fun i s => s = ib_fd (ib_sn (ib_kp lo hi' fa bo m (ib_msk (ib_on on) m)) v) 0 i) 4913 0 rfl ?_ ?_
  · intro k s e
    subst e
    exact br_t ib_plE h
  · intro k i s hi e K
    subst e
    exact br_f (ib_pl hi) (ib_yKp hm hi (fun a => br_f (by decide) (ib_yNum hi hv (nm_r (ib_snT a).symm (nm_r (nI_1 i) (K _ rfl))))) (fun a => br_t rfl (nm_r (nI_1 i) (K _ (ib_snF a).symm))))
theorem ib_yTi {l : Nat} (hm : m ≤ 6) (hl : l < m) (h : post (nI (ib_ct (ib_rim (ib_kp lo hi' fa bo m (ib_msk (ib_on on) m)) (fa l) (bo l)) 4913))) : wpY_tight post (nI m, lo, hi', fa, bo, on) (nI l) := by
  unfold wpY_tight
  dsimp only
  have ec : (nI l).toNatClampNeg = l := nI_clamp (by omega)
  have hl6 : vp_in (nI l) 6 := ib_in6 (by omega)
  refine ib_yLimT hl hm (br_f (by decide) (ib_yAll hm ?_))
  refine loop_0 (fun k i (s : Int32) => wY_tight_21 post (nI l) (ib_msk (ib_on on) m) (nI m) lo hi' fa bo on k s (nI i)) (fun i s => s = nI (ib_ct (ib_rim (ib_kp lo hi' fa bo m (ib_msk (ib_on on) m)) (fa l) (bo l)) i)) 4913 0 rfl ?_ ?_
  · intro k s e
    subst e
    exact br_t ib_plE h
  · intro k i s hi e K
    subst e
    refine br_f (ib_pl hi) (ib_yKp hm hi (fun a => br_f (by decide) ⟨hl6, ib_yVal hi ⟨hl6, ?_⟩⟩) (fun a => br_t rfl (nm_r (nI_1 i) (K _ (congrArg nI (ib_ctF (ib_rimF a)))))))
    rw [ec]
    exact br_c (fun b => nm_r (ib_ctT (ib_rimT a b)) (nm_r (nI_1 i) (K _ rfl))) (fun b => nm_r (nI_1 i) (K _ (congrArg nI (ib_ctF (ib_rimN b)))))
theorem ib_yCore (hm : m ≤ 6) (h : ∀ a, ib_YI (ib_G lo hi' fa bo m (ib_msk (ib_on on) m)) ib_szt 64 a → post a) : wpY_core post (nI m, lo, hi', fa, bo, on) := by
  unfold wpY_core
  dsimp only
  refine ib_yAll hm ?_
  generalize ib_msk (ib_on on) m = T at h ⊢
  refine loop_0 (fun k i (s : Int32) => wY_core_11 post T (nI m) lo hi' fa bo on k s (nI i)) (fun i s => ib_YI (ib_G lo hi' fa bo m T) ib_szt i s) 64 (-10000) ib_YI0 ?_ ?_
  · intro k s I
    exact br_t (Int32.le_refl _) (h s I)
  · intro k i s hi I K
    have h6 := ib_szt6 i
    have skip : (ib_G lo hi' fa bo m T i → ∃ y, s = nI y ∧ y ≤ 6 ∧ y ≤ ib_szt i) → wY_core_11 post T (nI m) lo hi' fa bo on k s (nI (i + 1)) := fun z => K _ (ib_YIn I z)
    have go : nI i &&& (T ^^^ (-1)) = 0 → (∀ y, s = nI y → y ≤ 6 → ib_szt i < y) → wY_core_38 post (wY_core_11 post T (nI m) lo hi' fa bo on k) T s (nI i) (nI m) lo hi' fa bo on := by
      intro a1 hy
      refine br_f (by decide) (ib_yFst hm (fun n hn p _ => br_t (nI_pos' (by omega)) (nm_r (nI_1 i) (skip fun g => ?_))) (fun a3 => br_f (by decide) (ib_ySz (nm_r (nI_1 i) (K _ (ib_YIt I ⟨a1, a3⟩ h6 hy))))))
      rw [g.2 n hn] at p
      exact nomatch p
    have no : (ib_G lo hi' fa bo m T i → ∃ y, s = nI y ∧ y ≤ 6 ∧ y ≤ ib_szt i) → wY_core_42 post (wY_core_11 post T (nI m) lo hi' fa bo on k) T s (nI i) (nI m) lo hi' fa bo on := fun z => br_t rfl (nm_r (nI_1 i) (skip z))
    refine br_f (nI_ge (b := 64) hi (by decide)) (br_c (fun a1 => br_c (fun a2 => go a1 fun y ey hy => ?_) (fun a2 => ib_ySz (br_c (fun a3 => no fun g => ?_) (fun a3 => go a1 fun y ey hy => ?_)))) (fun a1 => no fun g => absurd g.1 a1))
    · rw [ey] at a2
      exact absurd a2 (nI_pos (by omega))
    · rcases I with ⟨e, _⟩ | ⟨y, ey, hy, _⟩
      · rw [e] at a2
        exact absurd (by decide) a2
      · rw [ey] at a3
        exact ⟨y, ey, hy, (nI_leI (by omega) (by omega)).mp a3⟩
    · rw [ey] at a3
      have := mt (nI_leI (a := y) (b := ib_szt i) (by omega) (by omega)).mpr a3
      omega
end
