/-! the component's private methods against the pictures -/
theorem ib_in3 {v : Nat} (h : v < 3) : vp_in (nI v) 3 := vp_in_nI h (by decide)
theorem ib_in6 {v : Nat} (h : v < 6) : vp_in (nI v) 6 := vp_in_nI h (by decide)
theorem ib_17 : ¬ (17 : Int32) = 0 := by decide
theorem ib_r17 {r : Nat} (hr : r < 4913) : nI r - nI r / 17 * 17 = nI (r % 17) := pk_rem (a := r) (d := 17) (by omega) (by omega) (by omega)
theorem ib_d17 {r : Nat} (hr : r < 4913) : nI r / 17 = nI (r / 17) := pk_div (a := r) (d := 17) (by omega) (by omega) (by omega)
theorem ib_d289 {r : Nat} (hr : r < 4913) : nI r / 289 = nI (r / 289) := pk_div (a := r) (d := 289) (by omega) (by omega) (by omega)
theorem ib_nm2 (n : Nat) : ib_nm n 2 = nI (n % 17) - 8 := rfl
theorem ib_nm1 (n : Nat) : ib_nm n 1 = nI (n / 17 % 17) - 8 := rfl
theorem ib_nm0 (n : Nat) : ib_nm n 0 = nI (n / 289) - 8 := rfl
theorem ib_nm0' {n : Nat} (hn : n < 4913) : ib_nm n 0 = nI (n / 17 / 17 % 17) - 8 := by
  rw [ib_nm0, show n / 17 / 17 % 17 = n / 289 by omega]
section
variable {lo hi fa bo : Nat → Int32} {m n : Nat} {L S : Int32} {post : Int32 → Prop}
theorem ib_xFac {f v : Int32} (h : post (ib_fc f v)) : wpX_factorOf post f v := h
theorem ib_xVarF {v : Int32} (h : v < 0 ∨ nI 3 ≤ v) (hp : post 0) : wpX_isVariable post v := by
  unfold wpX_isVariable
  rcases h with h | h
  · exact br_t h hp
  · exact br_f (by rw [Int32.not_lt]; exact Int32.le_trans (by decide) h) (br_t h hp)
theorem ib_xVarT {j : Nat} (h : j < 3) (hp : post 1) : wpX_isVariable post (nI j) := by
  unfold wpX_isVariable
  exact br_f (nI_pos (by omega)) (br_f (nI_ge (b := 3) h (by decide)) hp)
theorem ib_xLimF {v : Int32} (h : v < 0 ∨ L ≤ v) (h0 : 0 ≤ L) (hp : post 0) : wpX_isLimit post (L, S, lo, hi, fa, bo) v := by
  unfold wpX_isLimit
  rcases h with h | h
  · exact br_t h hp
  · exact br_f (by rw [Int32.not_lt]; exact Int32.le_trans h0 h) (br_t h hp)
theorem ib_xLimT {j : Nat} (h : j < m) (hm : m ≤ 6) (hp : post 1) : wpX_isLimit post (nI m, S, lo, hi, fa, bo) (nI j) := by
  unfold wpX_isLimit
  exact br_f (nI_pos (by omega)) (br_f (nI_ge h (by omega)) hp)
theorem ib_xBdT {d : Int32} (h : -100 ≤ d ∧ d ≤ 100) (hp : post 1) : wpX_isBound post d := by
  unfold wpX_isBound
  exact br_f (by rw [Int32.not_lt]; exact h.1) (br_f (by rw [Int32.not_lt]; exact h.2) hp)
theorem ib_xBdF {d : Int32} (h : ¬ (-100 ≤ d ∧ d ≤ 100)) (hp : post 0) : wpX_isBound post d := by
  unfold wpX_isBound
  by_cases z : d < -100
  · exact br_t z hp
  · exact br_f z (br_t (by rw [Int32.not_lt] at z; rw [← Int32.not_le]; exact fun y => h ⟨z, y⟩) hp)
/-- ranges: one digit -/
theorem ib_xInrS {k r v : Nat} (hr : r < 4913) (hv : v < 3) (e : ib_nm n v = nI (r % 17) - 8) (hF : ib_in lo hi n v = false → post 0) (hT : ib_in lo hi n v = true → wX_isInRanges_4 post L S lo hi fa bo k (nI (r / 17)) (nI v + (-1))) : wX_isInRanges_4 post L S lo hi fa bo (k + 1) (nI r) (nI v) := by
  have ex : (nI r - nI r / 17 * 17) + (-8) = ib_nm n v := by rw [ib_r17 hr, ib_p8, e]
  have ec : (nI v).toNatClampNeg = v := nI_clamp (by omega)
  refine br_f (nI_pos (by omega)) ⟨ib_17, nm_r ex ⟨ib_in3 hv, ?_⟩⟩
  rw [ec]
  refine br_c (fun a => hF (ib_inF1 a)) (fun a => ⟨ib_in3 hv, br_c (fun b => ⟨ib_17, nm_r (ib_d17 hr) (nm_e (hT (ib_inT a b)))⟩) (fun b => hF (ib_inF2 b))⟩)
theorem ib_xInr (hn : n < 4913) (h1 : ib_inr lo hi n = true → post 1) (h0 : ib_inr lo hi n = false → post 0) : wpX_isInRanges post (L, S, lo, hi, fa, bo) (nI n) := by
  refine ⟨4, ?_⟩
  refine ib_xInrS (v := 2) hn (by omega) (ib_nm2 n) (fun z => h0 (ib_inrF (by omega) z)) fun z2 => ?_
  refine ib_xInrS (v := 1) (by omega) (by omega) (ib_nm1 n) (fun z => h0 (ib_inrF (by omega) z)) fun z1 => ?_
  refine ib_xInrS (v := 0) (by omega) (by omega) (ib_nm0' hn) (fun z => h0 (ib_inrF (by omega) z)) fun z0 => ?_
  refine br_t (by decide) (h1 (ib_inrT fun v hv => ?_))
  rcases (show v = 0 ∨ v = 1 ∨ v = 2 by omega) with z | z | z <;> subst z
  · exact z0
  · exact z1
  · exact z2
/-- a sum: one digit -/
theorem ib_xSumS {f s : Int32} {k r v : Nat} (hr : r < 4913) (hv : v < 3) (e : ib_nm n v = nI (r % 17) - 8) (hT : wX_sumAt_7 post f k (nI (r / 17)) (s + ib_fc f (nI v) * ib_nm n v) (nI v + (-1))) : wX_sumAt_7 post f (k + 1) (nI r) s (nI v) := by
  have ex : (nI r - nI r / 17 * 17) + (-8) = ib_nm n v := by rw [ib_r17 hr, ib_p8, e]
  refine br_f (nI_pos (by omega)) (ib_xFac ⟨ib_17, ?_⟩)
  rw [ex]
  exact nm_e ⟨ib_17, nm_r (ib_d17 hr) (nm_e hT)⟩
theorem ib_xSum {f : Int32} (hn : n < 4913) (h : post (ib_val f n)) : wpX_sumAt post (nI n) f := by
  refine ⟨4, ?_⟩
  refine ib_xSumS (v := 2) hn (by omega) (ib_nm2 n) ?_
  refine ib_xSumS (v := 1) (by omega) (by omega) (ib_nm1 n) ?_
  refine ib_xSumS (v := 0) (by omega) (by omega) (ib_nm0' hn) ?_
  refine br_t (by decide) ?_
  have t := ib_valX f n
  exact t ▸ h
/-- the number of a variable at a place -/
theorem ib_xNum {v : Nat} (hn : n < 4913) (hv : v < 3) (h : post (ib_nm n v)) : wpX_numberAt post (nI n) (nI v) := by
  refine ⟨4, ?_⟩
  rcases (show v = 0 ∨ v = 1 ∨ v = 2 by omega) with z | z | z <;> subst z
  · refine br_f (by decide) ⟨ib_17, nm_r (ib_d17 hn) (nm_e ?_)⟩
    refine br_f (by decide) ⟨ib_17, nm_r (ib_d17 (by omega)) (nm_e ?_)⟩
    refine br_t (by decide) ⟨ib_17, ?_⟩
    rw [ib_r17 (by omega), ib_p8, ← ib_nm0' hn]
    exact h
  · refine br_f (by decide) ⟨ib_17, nm_r (ib_d17 hn) (nm_e ?_)⟩
    refine br_t (by decide) ⟨ib_17, ?_⟩
    rw [ib_r17 (by omega), ib_p8, ← ib_nm1]
    exact h
  · refine br_t (by decide) ⟨ib_17, ?_⟩
    rw [ib_r17 (by omega), ib_p8, ← ib_nm2]
    exact h
/-- the factors -/
theorem ib_xAf {f : Int32} (h1 : ib_af f = true → post 1) (h0 : ib_af f = false → post 0) : wpX_areFactors post f := by
  refine ⟨4, ?_⟩
  refine br_f (by decide) (ib_xFac (br_c (fun a0 => nm_r (e' := 1) (by decide) ?_) (fun a => h0 (ib_afF0 a))))
  refine br_f (by decide) (ib_xFac (br_c (fun a1 => nm_r (e' := 2) (by decide) ?_) (fun a => h0 (ib_afF1 a))))
  refine br_f (by decide) (ib_xFac (br_c (fun a2 => nm_r (e' := 3) (by decide) ?_) (fun a => h0 (ib_afF2 a))))
  exact br_t (by decide) (h1 (ib_afT a0 a1 a2))
/-- the mask of the broken limits -/
theorem ib_xBrk (hm : m ≤ 6) (hn : n < 4913) (h : post (ib_mk fa bo m n)) : wpX_brokenAt post (nI m, S, lo, hi, fa, bo) (nI n) := by
  refine loop_0 (fun k i (s : Int32) => wX_brokenAt_4 post (nI n) (nI m) S lo hi fa bo k s (nI i)) (fun i s => s = ib_msk (ib_brk fa bo n) i) m 0 rfl ?_ ?_
  · intro k s e
    subst e
    exact br_t (nI_le (Nat.le_refl m) (by omega)) h
  · intro k i s hi e K
    subst e
    have ec : (nI i).toNatClampNeg = i := nI_clamp (by omega)
    refine br_f (nI_ge hi (by omega)) (br_f (nI_ge (b := 6) (by omega) (by decide)) ⟨ib_in6 (by omega), ib_xSum hn ⟨ib_in6 (by omega), ?_⟩⟩)
    rw [ec]
    refine br_c (fun a => nm_r (nI_1 i) (K _ ?_)) (fun a => nm_e (nm_r (nI_1 i) (K _ ?_)))
    · rw [ib_msk, ib_brkF a, if_neg (by decide)]
    · rw [ib_msk, ib_brkT a, if_pos rfl]
/-- a point -/
theorem ib_xPt (hm : m ≤ 6) (hn : n < 4913) (h1 : ib_kp lo hi fa bo m S n = true → post 1) (h0 : ib_kp lo hi fa bo m S n = false → post 0) : wpX_isPoint post (nI m, S, lo, hi, fa, bo) (nI n) := by
  unfold wpX_isPoint
  dsimp only
  refine ib_xInr hn (fun a => br_f (by decide) (ib_xBrk hm hn (br_c (fun b => h1 (ib_kpT a b)) (fun b => h0 (ib_kpF2 b))))) (fun a => br_t rfl (h0 (ib_kpF1 a)))
/-- the size of a set -/
theorem ib_xSz {T : Int32} (h : post (nI (ib_sz T 6))) : wpX_sizeOf post T := by
  refine loop_0 (fun k i (s : Int32) => wX_sizeOf_4 post T k s (nI i)) (fun i s => s = nI (ib_sz T i)) 6 0 rfl ?_ ?_
  · intro k s e
    subst e
    exact br_t (by decide) h
  · intro k i s hi e K
    subst e
    exact br_f (nI_ge (b := 6) hi (by decide)) (nm_r (ib_szS T (by omega)) (nm_r (nI_1 i) (K _ rfl)))
end
