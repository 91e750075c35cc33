/-! what the owed rows ask of both sides -/
theorem ib_nn {v : Int32} {n : Nat} (h : nI n ≤ v) (hn : n < 2 ^ 31) : ¬ v < 0 := Int32.not_lt.mpr (Int32.le_trans (nI_pos' hn) h)
theorem ib_n2 {v : Int32} (h : nI 3 ≤ v) : ¬ v ≤ 2 := fun z => absurd (Int32.le_trans h z) (by decide)
section
variable {lo hi' fa bo on : Nat → Int32} {m : Nat} {post : Int32 → Prop}
theorem ib_bitOn {j : Nat} (hm : m ≤ 6) (hj : j < m) : (ib_msk (ib_on on) m >>> (nI j &&& 31)) &&& 1 = if on j = 0 then 0 else 1 := by
  rw [ib_bit _ (by omega), ib_mskB _ m (by omega) j (by omega), decide_eq_true hj, Bool.true_and]
  by_cases z : on j = 0
  · rw [ib_onF z, if_neg (by decide), if_pos z]
  · rw [ib_onT z, if_pos rfl, if_neg z]
theorem ib_yFirst {v : Nat} (hm : m ≤ 6) (hv : v < 3) (h1 : ∀ n, n < 4913 → ib_kp lo hi' fa bo m (ib_msk (ib_on on) m) n = true → (∀ j, j < n → ib_kp lo hi' fa bo m (ib_msk (ib_on on) m) j = false) → post (ib_nm n v)) (h0 : (∀ n, n < 4913 → ib_kp lo hi' fa bo m (ib_msk (ib_on on) m) n = false) → post (-10000)) : wpY_first post (nI m, lo, hi', fa, bo, on) (nI v) := by
  unfold wpY_first
  dsimp only
  exact br_f (nI_pos (by omega)) (br_t (nI_le (b := 2) (by omega) (by decide)) (ib_yAll hm (ib_yFst hm (fun n hn p mn => br_t (nI_pos' (by omega)) (ib_yNum hn hv (h1 n hn p mn))) (fun al => br_f (by decide) (h0 al)))))
theorem ib_yFol {f d : Int32} (hm : m ≤ 6) (ha : ib_af f = true) (h1 : (∀ n, n < 4913 → ib_kp lo hi' fa bo m (ib_msk (ib_on on) m) n = true → ib_val f n ≤ d) → post 1) (h0 : (¬ ∀ n, n < 4913 → ib_kp lo hi' fa bo m (ib_msk (ib_on on) m) n = true → ib_val f n ≤ d) → post 0) : wpY_follows post (nI m, lo, hi', fa, bo, on) f d := by
  unfold wpY_follows
  dsimp only
  refine ib_yAll hm (ib_yAfT ha (br_f (by decide) (ib_yFst hm (fun n hn p _ => br_f (nI_pos (by omega)) (ib_yGr hm ha (br_c (fun a => h0 fun z => ?_) (fun a => h1 ?_)))) (fun al => br_t (by decide) (h1 fun n hn p => nomatch (al n hn).symm.trans p)))))
  · exact absurd a (Int32.not_lt.mpr ((ib_fol _ f d hn p).mpr z))
  · exact (ib_fol _ f d hn p).mp (Int32.not_lt.mp a)
end
