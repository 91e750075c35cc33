/-! the component's walks over the places -/
theorem ib_gstT {p : Nat → Bool} {w : Nat → Int32} {n : Nat} {g : Int32} (h : p n = true) (a : ¬ w n ≤ g) : ib_gst p w n g = w n := by unfold ib_gst; rw [if_pos h, if_neg a]
theorem ib_gstN {p : Nat → Bool} {w : Nat → Int32} {n : Nat} {g : Int32} (h : p n = true) (a : w n ≤ g) : ib_gst p w n g = g := by unfold ib_gst; rw [if_pos h, if_pos a]
theorem ib_gstF {p : Nat → Bool} {w : Nat → Int32} {n : Nat} {g : Int32} (h : p n = false) : ib_gst p w n g = g := by unfold ib_gst; rw [h, if_neg (by decide)]
theorem ib_snT {p : Nat → Bool} {v n : Nat} {g : Int32} (h : p n = true) : ib_sn p v n g = g ||| ((1 : Int32) <<< ((ib_nm n v + 8) &&& 31)) := by unfold ib_sn; rw [if_pos h]
theorem ib_snF {p : Nat → Bool} {v n : Nat} {g : Int32} (h : p n = false) : ib_sn p v n g = g := by unfold ib_sn; rw [h, if_neg (by decide)]
theorem ib_WstT {inr : Nat → Bool} {mk : Nat → Int32} {T : Int32} {n : Nat} {w : Int64} (h : inr n = true) : ib_Wst inr mk T n w = w ||| ((1 : Int64) <<< ((mk n &&& T).toInt64 &&& 63)) := by unfold ib_Wst; rw [if_pos h]
theorem ib_WstF {inr : Nat → Bool} {mk : Nat → Int32} {T : Int32} {n : Nat} {w : Int64} (h : inr n = false) : ib_Wst inr mk T n w = w := by unfold ib_Wst; rw [h, if_neg (by decide)]
theorem ib_pl {i : Nat} (h : i < 4913) : ¬ (4913 : Int32) ≤ nI i := nI_ge (b := 4913) h (by decide)
theorem ib_plE : (4913 : Int32) ≤ nI 4913 := Int32.le_refl _
/-- the points of a limit's rim -/
def ib_rim (p : Nat → Bool) (f d : Int32) (n : Nat) : Bool := p n && decide (ib_val f n = d)
theorem ib_rimT {p : Nat → Bool} {f d : Int32} {n : Nat} (h : p n = true) (a : ib_val f n = d) : ib_rim p f d n = true := by unfold ib_rim; rw [h, decide_eq_true a]; rfl
theorem ib_rimF {p : Nat → Bool} {f d : Int32} {n : Nat} (h : p n = false) : ib_rim p f d n = false := by unfold ib_rim; rw [h]; rfl
theorem ib_rimN {p : Nat → Bool} {f d : Int32} {n : Nat} (a : ¬ ib_val f n = d) : ib_rim p f d n = false := by unfold ib_rim; rw [decide_eq_false a, Bool.and_false]
section
variable {lo hi' fa bo : Nat → Int32} {m : Nat} {S : Int32} {post : Int32 → Prop}
theorem ib_xCnt {T : Int32} (hm : m ≤ 6) (h : post (nI (ib_ct (ib_kp lo hi' fa bo m T) 4913))) : wpX_countKeeping post (nI m, S, lo, hi', fa, bo) T := by
  refine loop_0 (fun k i (s : Int32) => wX_countKeeping_4 post T (nI m) S lo hi' fa bo k s (nI i)) (fun i s => s = nI (ib_ct (ib_kp lo hi' fa bo m T) i)) 4913 0 rfl ?_ ?_
  · intro k s e
    subst e
    exact br_t ib_plE h
  · intro k i s hi e K
    subst e
    refine br_f (ib_pl hi) (ib_xInr hi (fun a => br_f (by decide) (ib_xBrk hm hi (br_c (fun b => nm_r (ib_ctT (ib_kpT a b)) (nm_r (nI_1 i) (K _ rfl))) (fun b => nm_r (nI_1 i) (K _ (congrArg nI (ib_ctF (ib_kpF2 b)))))))) (fun a => br_t rfl (nm_r (nI_1 i) (K _ (congrArg nI (ib_ctF (ib_kpF1 a)))))))
theorem ib_xFst {v : Nat} (hm : m ≤ 6) (hv : v < 3) (h1 : ∀ n, n < 4913 → ib_kp lo hi' fa bo m S n = true → (∀ j, j < n → ib_kp lo hi' fa bo m S j = false) → post (ib_nm n v)) (h0 : (∀ n, n < 4913 → ib_kp lo hi' fa bo m S n = false) → post (-10000)) : wpX_first post (nI m, S, lo, hi', fa, bo) (nI v) := by
  unfold wpX_first
  dsimp only
  refine ib_xVarT hv (br_f (by decide) ?_)
  refine loop_0 (fun k i (_ : Unit) => wX_first_11 post (nI v) (nI m) S lo hi' fa bo k (nI i)) (fun i _ => ∀ j, j < i → ib_kp lo hi' fa bo m S j = false) 4913 () (fun j hj => absurd hj (Nat.not_lt_zero j)) ?_ ?_
  · intro k s e
    exact br_t ib_plE (h0 e)
  · intro k i s hi e K
    exact br_f (ib_pl hi) (ib_xPt hm hi (fun a => br_f (by decide) (ib_xNum hi hv (h1 i hi a e))) (fun a => br_t rfl (nm_r (nI_1 i) (K () (lt_s e a)))))
theorem ib_xGr {f : Int32} (hm : m ≤ 6) (ha : ib_af f = true) (h : post (ib_fd (ib_gst (ib_kp lo hi' fa bo m S) (ib_val f)) (-10000) 4913)) : wpX_greatest post (nI m, S, lo, hi', fa, bo) f := by
  unfold wpX_greatest
  dsimp only
  refine ib_xAf (fun _ => br_f (by decide) ?_) (fun b => nomatch ha.symm.trans b)
  refine loop_0 (fun k i (s : Int32) => wX_greatest_16 post f (nI m) S lo hi' fa bo k s (nI i)) (fun i s => s = ib_fd (ib_gst (ib_kp lo hi' fa bo m S) (ib_val f)) (-10000) i) 4913 (-10000) rfl ?_ ?_
  · intro k s e
    subst e
    exact br_t ib_plE h
  · intro k i s hi e K
    subst e
    exact br_f (ib_pl hi) (ib_xPt hm hi (fun a => br_f (by decide) (ib_xSum hi (br_c (fun b => nm_r (nI_1 i) (K _ (ib_gstN a b).symm)) (fun b => nm_r (nI_1 i) (K _ (ib_gstT a b).symm))))) (fun a => br_t rfl (nm_r (nI_1 i) (K _ (ib_gstF a).symm))))
theorem ib_xFol {f d : Int32} (hm : m ≤ 6) (ha : ib_af f = true) (h1 : (∀ n, n < 4913 → ib_kp lo hi' fa bo m S n = true → ib_val f n ≤ d) → post 1) (h0 : ∀ n, n < 4913 → ib_kp lo hi' fa bo m S n = true → ¬ ib_val f n ≤ d → post 0) : wpX_follows post (nI m, S, lo, hi', fa, bo) f d := by
  unfold wpX_follows
  dsimp only
  refine ib_xAf (fun _ => br_f (by decide) ?_) (fun b => nomatch ha.symm.trans b)
  refine loop_0 (fun k i (_ : Unit) => wX_follows_11 post f d (nI m) S lo hi' fa bo k (nI i)) (fun i _ => ∀ n, n < i → ib_kp lo hi' fa bo m S n = true → ib_val f n ≤ d) 4913 () (fun j hj => absurd hj (Nat.not_lt_zero j)) ?_ ?_
  · intro k s e
    exact br_t ib_plE (h1 e)
  · intro k i s hi e K
    refine br_f (ib_pl hi) (ib_xPt hm hi (fun a => br_f (by decide) (ib_xSum hi (br_c (fun b => nm_r (nI_1 i) (K () (lt_s e fun _ => b))) (fun b => h0 i hi a b)))) (fun a => br_t rfl (nm_r (nI_1 i) (K () (lt_s e fun c => nomatch a.symm.trans c)))))
theorem ib_xNbs {v : Nat} (hm : m ≤ 6) (hv : v < 3) (h : post (ib_fd (ib_sn (ib_kp lo hi' fa bo m S) v) 0 4913)) : wpX_numbers post (nI m, S, lo, hi', fa, bo) (nI v) := by
  unfold wpX_numbers
  dsimp only
  refine ib_xVarT hv (br_f (by decide) ?_)
  refine loop_0 (fun k i (s : Int32) => wX_numbers_13 post (nI v) (nI m) S lo hi' fa bo k s (nI i)) (fun i s => s = ib_fd (ib_sn (ib_kp lo hi' fa bo m S) v) 0 i) 4913 0 rfl ?_ ?_
  · intro k s e
    subst e
    exact br_t ib_plE h
  · intro k i s hi e K
    subst e
    refine br_f (ib_pl hi) (ib_xPt hm hi (fun a => br_f (by decide) (ib_xNum hi hv ?_)) (fun a => br_t rfl (nm_r (nI_1 i) (K _ (ib_snF a).symm))))
    rw [ib_m8]
    exact nm_r (ib_snT a).symm (nm_r (nI_1 i) (K _ rfl))
theorem ib_xTi {l : Nat} (hm : m ≤ 6) (hl : l < m) (h : post (nI (ib_ct (ib_rim (ib_kp lo hi' fa bo m S) (fa l) (bo l)) 4913))) : wpX_tight post (nI m, S, lo, hi', fa, bo) (nI l) := by
  unfold wpX_tight
  dsimp only
  have ec : (nI l).toNatClampNeg = l := nI_clamp (by omega)
  have hl6 : vp_in (nI l) 6 := ib_in6 (by omega)
  refine ib_xLimT hl hm (br_f (by decide) ?_)
  refine loop_0 (fun k i (s : Int32) => wX_tight_15 post (nI l) (nI m) S lo hi' fa bo k s (nI i)) (fun i s => s = nI (ib_ct (ib_rim (ib_kp lo hi' fa bo m S) (fa l) (bo l)) i)) 4913 0 rfl ?_ ?_
  · intro k s e
    subst e
    exact br_t ib_plE h
  · intro k i s hi e K
    subst e
    refine br_f (ib_pl hi) (ib_xPt hm hi (fun a => br_f (by decide) ⟨hl6, ib_xSum hi ⟨hl6, ?_⟩⟩) (fun a => br_t rfl (nm_r (nI_1 i) (K _ (congrArg nI (ib_ctF (ib_rimF a)))))))
    rw [ec]
    exact br_c (fun b => nm_r (ib_ctT (ib_rimT a b)) (nm_r (nI_1 i) (K _ rfl))) (fun b => nm_r (nI_1 i) (K _ (congrArg nI (ib_ctF (ib_rimN b)))))
/-! core -/
theorem ib_xBs {postL : Int64 → Prop} (hm : m ≤ 6) (h : postL (ib_fd (ib_Wst (ib_inr lo hi') (ib_mk fa bo m) S) 0 4913)) : wpX_brokenSets postL (nI m, S, lo, hi', fa, bo) := by
  refine loop_0 (fun k i (s : Int64) => wX_brokenSets_4 postL (nI m) S lo hi' fa bo k s (nI i)) (fun i s => s = ib_fd (ib_Wst (ib_inr lo hi') (ib_mk fa bo m) S) 0 i) 4913 0 rfl ?_ ?_
  · intro k s e
    subst e
    exact br_t ib_plE h
  · intro k i s hi e K
    subst e
    exact br_f (ib_pl hi) (ib_xInr hi (fun a => br_f (by decide) (ib_xBrk hm hi (nm_r (ib_WstT a).symm (nm_r (nI_1 i) (K _ rfl))))) (fun a => br_t rfl (nm_r (nI_1 i) (K _ (ib_WstF a).symm))))
theorem ib_xMeet {T : Int32} {w : Int64} (h1 : (∀ s, s < 64 → ib_lb w s = true → ¬ T &&& nI s = 0) → post 1) (h0 : (¬ ∀ s, s < 64 → ib_lb w s = true → ¬ T &&& nI s = 0) → post 0) : wpX_meetsAll post T w := by
  refine loop_0 (fun k i (_ : Unit) => wX_meetsAll_2 post T w k (nI i)) (fun i _ => ∀ s, s < i → ib_lb w s = true → ¬ T &&& nI s = 0) 64 () (fun j hj => absurd hj (Nat.not_lt_zero j)) ?_ ?_
  · intro k s e
    exact br_t (Int32.le_refl _) (h1 e)
  · intro k i s hi e K
    refine br_f (nI_ge (b := 64) hi (by decide)) (br_c (fun a => br_t rfl (nm_r (nI_1 i) (K () (lt_s e fun b => ?_)))) (fun a => br_f (by decide) (br_c (fun b => h0 fun z => ?_) (fun b => nm_r (nI_1 i) (K () (lt_s e fun _ => b))))))
    · rw [(ib_lbit w hi).mp a] at b
      exact nomatch b
    · cases c : ib_lb w i
      · exact a ((ib_lbit w hi).mpr c)
      · exact z i hi c b
def ib_G (lo hi' fa bo : Nat → Int32) (m : Nat) (S : Int32) (t : Nat) : Prop := nI t &&& (S ^^^ (-1)) = 0 ∧ ∀ n, n < 4913 → ib_kp lo hi' fa bo m (nI t) n = false
def ib_szt (t : Nat) : Nat := ib_sz (nI t) 6
theorem ib_szt6 (t : Nat) : ib_szt t ≤ 6 := ib_szL _ _
theorem ib_xCore (hm : m ≤ 6) (hS : ∃ t, t < 64 ∧ S = nI t) (h0 : ib_lb (ib_fd (ib_Wst (ib_inr lo hi') (ib_mk fa bo m) S) 0 4913) 0 = true → post (-10000)) (h1 : ∀ y, ib_XI (ib_G lo hi' fa bo m S) ib_szt 64 y → post (nI y)) : wpX_core post (nI m, S, lo, hi', fa, bo) := by
  unfold wpX_core
  dsimp only
  refine ib_xBs hm ?_
  have hk : ∀ n, ∃ s, s < 64 ∧ ib_mk fa bo m n &&& S = nI s := fun n => ib_mkS hm S
  refine br_c (fun a => ?_) (fun a => h0 ?_)
  · have b0 := (ib_lb1 _).mp a
    obtain ⟨t0, ht0, e0⟩ := hS
    refine ib_xSz ?_
    refine loop_0 (fun k i (s : Int32) => wX_core_28 post (ib_fd (ib_Wst (ib_inr lo hi') (ib_mk fa bo m) S) 0 4913) (nI m) S lo hi' fa bo k s (nI i)) (fun i s => ∃ y, s = nI y ∧ y ≤ 6 ∧ ib_XI (ib_G lo hi' fa bo m S) ib_szt i y) 64 _ ⟨ib_sz S 6, rfl, ib_szL _ _, ⟨t0, ht0, ⟨?_, ?_⟩, ?_⟩, fun t h => absurd h (Nat.not_lt_zero t)⟩ ?_ ?_
    · rw [← e0]; exact ib_self
    · rw [← e0]; exact ib_bitF hk 4913 b0
    · rw [ib_szt, ← e0]
    · rintro k s ⟨y, rfl, hy, I⟩
      exact br_t (Int32.le_refl _) (h1 y I)
    · rintro k i s hi ⟨y, rfl, hy, I⟩ K
      have h6 := ib_szt6 i
      have skip : (ib_G lo hi' fa bo m S i → y ≤ ib_szt i) → wX_core_28 post (ib_fd (ib_Wst (ib_inr lo hi') (ib_mk fa bo m) S) 0 4913) (nI m) S lo hi' fa bo k (nI y) (nI (i + 1)) := fun z => K _ ⟨y, rfl, hy, ib_XIn I z⟩
      refine br_f (nI_ge (b := 64) hi (by decide)) (br_c (fun a1 => br_f (by decide) (ib_xSz (br_c (fun a2 => nm_r (nI_1 i) (skip fun _ => ?_)) (fun a2 => ib_xMeet (fun a3 => br_f (by decide) (ib_xSz (nm_r (nI_1 i) (K _ ⟨_, rfl, h6, ib_XIt I ⟨a1, (ib_good hk 4913 a1).mp a3⟩ hi ?_⟩)))) (fun a3 => br_t rfl (nm_r (nI_1 i) (skip fun g => absurd ((ib_good hk 4913 a1).mpr g.2) a3))))))) (fun a1 => br_t rfl (nm_r (nI_1 i) (skip fun g => absurd g.1 a1))))
      · exact (nI_leI (by omega) (by omega)).mp a2
      · have := mt (nI_leI (a := y) (b := ib_szt i) (by omega) (by omega)).mpr a2
        omega
  · cases c : ib_lb (ib_fd (ib_Wst (ib_inr lo hi') (ib_mk fa bo m) S) 0 4913) 0
    · exact absurd ((ib_lb1 _).mpr c) a
    · rfl
end
