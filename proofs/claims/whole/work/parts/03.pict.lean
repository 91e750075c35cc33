/-! the pictures of a place: factors, values, ranges, broken limits, keeping -/
def ib_fc (f v : Int32) : Int32 := ((f >>> ((4 * v) &&& 31)) &&& 15) - 5
def ib_af (f : Int32) : Bool := decide (ib_fc f 0 ≤ 5) && (decide (ib_fc f 1 ≤ 5) && decide (ib_fc f 2 ≤ 5))
def ib_val (f : Int32) (n : Nat) : Int32 := ib_fc f 0 * ib_nm n 0 + ib_fc f 1 * ib_nm n 1 + ib_fc f 2 * ib_nm n 2
theorem ib_ring (a b c : Int32) : 0 + c + b + a = a + b + c := by
  rw [Int32.zero_add, Int32.add_comm (c + b) a, Int32.add_comm c b, ← Int32.add_assoc]
theorem ib_valX (f : Int32) (n : Nat) : 0 + ib_fc f 2 * ib_nm n 2 + ib_fc f 1 * ib_nm n 1 + ib_fc f 0 * ib_nm n 0 = ib_val f n := ib_ring _ _ _
theorem ib_valG (f : Int32) {n : Nat} (hn : n < 4913) : -10000 ≤ ib_val f n := by
  have p : ∀ (v : Int32) (w : Nat), -120 ≤ (ib_fc f v * ib_nm n w).toInt ∧ (ib_fc f v * ib_nm n w).toInt ≤ 120 := by
    intro v w
    obtain ⟨a, ha, ea⟩ := pk_andE (f >>> ((4 * v) &&& 31)) (m := 15) 4 (by decide)
    unfold ib_fc ib_nm
    rw [ea]
    exact ib_prod a ha _ (ib_dgL hn w)
  exact ib_sum3 (p 0 0) (p 1 1) (p 2 2)
theorem ib_afT {f : Int32} (h0 : ib_fc f 0 ≤ 5) (h1 : ib_fc f 1 ≤ 5) (h2 : ib_fc f 2 ≤ 5) : ib_af f = true := by
  unfold ib_af; rw [decide_eq_true h0, decide_eq_true h1, decide_eq_true h2]; rfl
theorem ib_afF0 {f : Int32} (h : ¬ ib_fc f 0 ≤ 5) : ib_af f = false := by unfold ib_af; rw [decide_eq_false h]; rfl
theorem ib_afF1 {f : Int32} (h : ¬ ib_fc f 1 ≤ 5) : ib_af f = false := by unfold ib_af; rw [decide_eq_false h, Bool.false_and, Bool.and_false]
theorem ib_afF2 {f : Int32} (h : ¬ ib_fc f 2 ≤ 5) : ib_af f = false := by unfold ib_af; rw [decide_eq_false h, Bool.and_false, Bool.and_false]
def ib_in (lo hi : Nat → Int32) (n v : Nat) : Bool := !decide (ib_nm n v < lo v) && decide (ib_nm n v ≤ hi v)
def ib_inr (lo hi : Nat → Int32) (n : Nat) : Bool := ib_in lo hi n 0 && (ib_in lo hi n 1 && ib_in lo hi n 2)
def ib_brk (fa bo : Nat → Int32) (n i : Nat) : Bool := !decide (ib_val (fa i) n ≤ bo i)
def ib_mk (fa bo : Nat → Int32) (m n : Nat) : Int32 := ib_msk (ib_brk fa bo n) m
def ib_kp (lo hi fa bo : Nat → Int32) (m : Nat) (S : Int32) (n : Nat) : Bool := ib_inr lo hi n && decide (ib_mk fa bo m n &&& S = 0)
section
variable {lo hi fa bo : Nat → Int32} {m n : Nat} {S : Int32}
theorem ib_inT {v : Nat} (h1 : ¬ ib_nm n v < lo v) (h2 : ib_nm n v ≤ hi v) : ib_in lo hi n v = true := by
  unfold ib_in; rw [decide_eq_false h1, decide_eq_true h2]; rfl
theorem ib_inF1 {v : Nat} (h1 : ib_nm n v < lo v) : ib_in lo hi n v = false := by
  unfold ib_in; rw [decide_eq_true h1]; rfl
theorem ib_inF2 {v : Nat} (h2 : ¬ ib_nm n v ≤ hi v) : ib_in lo hi n v = false := by
  unfold ib_in; rw [decide_eq_false h2, Bool.and_false]
theorem ib_inrT (h : ∀ v, v < 3 → ib_in lo hi n v = true) : ib_inr lo hi n = true := by
  unfold ib_inr; rw [h 0 (by omega), h 1 (by omega), h 2 (by omega)]; rfl
theorem ib_inrF {v : Nat} (hv : v < 3) (h : ib_in lo hi n v = false) : ib_inr lo hi n = false := by
  unfold ib_inr
  rcases (show v = 0 ∨ v = 1 ∨ v = 2 by omega) with z | z | z <;> subst z <;> rw [h]
  · rfl
  · rw [Bool.false_and, Bool.and_false]
  · rw [Bool.and_false, Bool.and_false]
theorem ib_brkT {i : Nat} (h : ¬ ib_val (fa i) n ≤ bo i) : ib_brk fa bo n i = true := by unfold ib_brk; rw [decide_eq_false h]; rfl
theorem ib_brkF {i : Nat} (h : ib_val (fa i) n ≤ bo i) : ib_brk fa bo n i = false := by unfold ib_brk; rw [decide_eq_true h]; rfl
theorem ib_kpF1 (h : ib_inr lo hi n = false) : ib_kp lo hi fa bo m S n = false := by unfold ib_kp; rw [h]; rfl
theorem ib_kpT (h : ib_inr lo hi n = true) (h2 : ib_mk fa bo m n &&& S = 0) : ib_kp lo hi fa bo m S n = true := by
  unfold ib_kp; rw [h, decide_eq_true h2]; rfl
theorem ib_kpF2 (h2 : ¬ ib_mk fa bo m n &&& S = 0) : ib_kp lo hi fa bo m S n = false := by
  unfold ib_kp; rw [decide_eq_false h2, Bool.and_false]
theorem ib_kpTi (hm : m ≤ 6) (h : ib_inr lo hi n = true) (h2 : ∀ i, i < m → bt S i = true → ib_brk fa bo n i = false) : ib_kp lo hi fa bo m S n = true :=
  ib_kpT h ((ib_mskZ _ m (by omega) S).mpr h2)
theorem ib_kpFi (hm : m ≤ 6) {i : Nat} (him : i < m) (hb : bt S i = true) (h : ib_brk fa bo n i = true) : ib_kp lo hi fa bo m S n = false :=
  ib_kpF2 fun z => by
    have t := (ib_mskZ _ m (by omega) S).mp z i him hb
    rw [h] at t
    exact nomatch t
theorem ib_mk6 (hm : m ≤ 6) : ∀ j, j < 32 → bt (ib_mk fa bo m n) j = true → j < 6 := by
  intro j hj h
  unfold ib_mk at h
  rw [ib_mskB _ m (by omega) j hj, Bool.and_eq_true, decide_eq_true_iff] at h
  omega
theorem ib_mkS (hm : m ≤ 6) (T : Int32) : ∃ s, s < 64 ∧ ib_mk fa bo m n &&& T = nI s := by
  refine ib_six fun j hj h => ?_
  rw [b_and, Bool.and_eq_true] at h
  exact ib_mk6 hm j hj h.1
end
theorem ib_on6 (on : Nat → Int32) {m : Nat} (hm : m ≤ 6) : ∃ s, s < 64 ∧ ib_msk (ib_on on) m = nI s := by
  refine ib_six fun j hj h => ?_
  rw [ib_mskB _ m (by omega) j hj, Bool.and_eq_true, decide_eq_true_iff] at h
  omega
/-! counts and folds -/
def ib_ct (p : Nat → Bool) : Nat → Nat
  | 0 => 0
  | n + 1 => if p n = true then ib_ct p n + 1 else ib_ct p n
theorem ib_ctT {p : Nat → Bool} {n : Nat} (h : p n = true) : nI (ib_ct p n) + 1 = nI (ib_ct p (n + 1)) := by
  rw [ib_ct, if_pos h, nI_1]
theorem ib_ctF {p : Nat → Bool} {n : Nat} (h : p n = false) : ib_ct p n = ib_ct p (n + 1) := by
  rw [ib_ct, h, if_neg (by decide)]
/-- the mask of the numbers seen -/
def ib_sn (p : Nat → Bool) (v : Nat) (n : Nat) (g : Int32) : Int32 := if p n = true then g ||| ((1 : Int32) <<< ((ib_nm n v + 8) &&& 31)) else g
theorem ib_m8 (x : Int32) : x - (-8) = x + 8 := Int32.sub_neg
theorem ib_p8 (x : Int32) : x + (-8) = x - 8 := (Int32.sub_eq_add_neg x 8).symm
/-! core: the long of broken sets, and the good sets -/
theorem ib_lb0 (s : Nat) : ib_lb 0 s = false := BitVec.getLsbD_zero
theorem ib_lb1 (w : Int64) : w &&& 1 = 0 ↔ ib_lb w 0 = false := by
  have e : w >>> ((nI 0).toInt64 &&& 63) = w := by
    apply Int64.toBitVec_inj.mp
    show w.toBitVec.sshiftRight (((nI 0).toInt64 &&& 63).toBitVec.smod 64).toNat = _
    rw [ib_lsm 0 (by omega), BitVec.sshiftRight_zero]
  have t := ib_lbit w (k := 0) (by omega)
  rw [e] at t
  exact t
def ib_Wst (inr : Nat → Bool) (mk : Nat → Int32) (T : Int32) (n : Nat) (w : Int64) : Int64 := if inr n = true then w ||| ((1 : Int64) <<< ((mk n &&& T).toInt64 &&& 63)) else w
section
variable {inr : Nat → Bool} {mk : Nat → Int32} {T : Int32}
theorem ib_Wb (hm : ∀ n, ∃ s, s < 64 ∧ mk n &&& T = nI s) : ∀ k s, s < 64 → (ib_lb (ib_fd (ib_Wst inr mk T) 0 k) s = true ↔ ∃ n, n < k ∧ inr n = true ∧ mk n &&& T = nI s) := by
  intro k
  induction k with
  | zero =>
    intro s _
    constructor
    · intro h
      rw [show ib_fd (ib_Wst inr mk T) 0 0 = 0 from rfl, ib_lb0] at h
      exact nomatch h
    · rintro ⟨n, hn, _⟩
      exact absurd hn (Nat.not_lt_zero n)
  | succ k ih =>
    intro s hs
    show ib_lb (ib_Wst inr mk T k (ib_fd (ib_Wst inr mk T) 0 k)) s = true ↔ _
    have ih' := ih s hs
    generalize ib_fd (ib_Wst inr mk T) 0 k = w at ih' ⊢
    unfold ib_Wst
    cases hk : inr k
    · rw [if_neg (by decide), ih']
      constructor
      · rintro ⟨n, a, b⟩
        exact ⟨n, by omega, b⟩
      · rintro ⟨n, a, b, c⟩
        have z : n ≠ k := fun z => by rw [z, hk] at b; exact nomatch b
        exact ⟨n, by omega, b, c⟩
    · rw [if_pos rfl]
      obtain ⟨q, hq, eq⟩ := hm k
      rw [eq, ib_lor _ hq hs, Bool.or_eq_true, ih', decide_eq_true_iff]
      constructor
      · rintro (⟨n, a, b⟩ | z)
        · exact ⟨n, by omega, b⟩
        · exact ⟨k, by omega, hk, by rw [eq, z]⟩
      · rintro ⟨n, a, b, c⟩
        by_cases z : n = k
        · right
          rw [z, eq] at c
          exact (nI_eq (by omega) (by omega)).mp c
        · left
          exact ⟨n, by omega, b, c⟩
/-- a set within T meets every broken set just when no place keeps it -/
theorem ib_good (hm : ∀ n, ∃ s, s < 64 ∧ mk n &&& T = nI s) (K : Nat) {S : Int32} (hS : S &&& (T ^^^ (-1)) = 0) : (∀ s, s < 64 → ib_lb (ib_fd (ib_Wst inr mk T) 0 K) s = true → ¬ S &&& nI s = 0) ↔ ∀ n, n < K → (inr n && decide (mk n &&& S = 0)) = false := by
  constructor
  · intro h n hn
    cases hi : inr n
    · rfl
    · obtain ⟨q, hq, eq⟩ := hm n
      have t := h q hq ((ib_Wb hm K q hq).mpr ⟨n, hn, hi, eq⟩)
      rw [← eq, ib_subM hS] at t
      rw [Bool.true_and]
      exact decide_eq_false t
  · intro h s hs hb z
    obtain ⟨n, hn, hi, e⟩ := (ib_Wb hm K s hs).mp hb
    have t := h n hn
    rw [← e, ib_subM hS] at z
    rw [hi, z] at t
    exact nomatch t
theorem ib_self : T &&& (T ^^^ (-1)) = 0 := ib_sub.mpr fun _ _ h => h
/-- bit 0 is set: the place that breaks nothing keeps every set within T -/
theorem ib_bitT (hm : ∀ n, ∃ s, s < 64 ∧ mk n &&& T = nI s) (K : Nat) (h0 : ib_lb (ib_fd (ib_Wst inr mk T) 0 K) 0 = true) {S : Int32} (hS : S &&& (T ^^^ (-1)) = 0) : ¬ ∀ n, n < K → (inr n && decide (mk n &&& S = 0)) = false := by
  intro h
  exact (ib_good hm K hS).mpr h 0 (by omega) h0 (by rw [nI_0]; exact Int32.and_zero)
/-- bit 0 is not set: T itself is a good set -/
theorem ib_bitF (hm : ∀ n, ∃ s, s < 64 ∧ mk n &&& T = nI s) (K : Nat) (h0 : ib_lb (ib_fd (ib_Wst inr mk T) 0 K) 0 = false) : ∀ n, n < K → (inr n && decide (mk n &&& T = 0)) = false := by
  refine (ib_good hm K ib_self).mp fun s hs hb z => ?_
  obtain ⟨n, hn, hi, e⟩ := (ib_Wb hm K s hs).mp hb
  rw [← e, ib_subM ib_self] at z
  have t := (ib_Wb hm K 0 (by omega)).mpr ⟨n, hn, hi, by rw [z, nI_0]⟩
  rw [h0] at t
  exact nomatch t
end
/-! the two searches for the least size -/
def ib_XI (G : Nat → Prop) (sz : Nat → Nat) (i y : Nat) : Prop := (∃ t, t < 64 ∧ G t ∧ sz t = y) ∧ ∀ t, t < i → G t → y ≤ sz t
def ib_YI (G : Nat → Prop) (sz : Nat → Nat) (i : Nat) (a : Int32) : Prop := (a = -10000 ∧ ∀ t, t < i → ¬ G t) ∨ ∃ y, a = nI y ∧ y ≤ 6 ∧ ib_Least G sz i y
section
variable {G : Nat → Prop} {sz : Nat → Nat} {i : Nat}
theorem ib_XIt {y : Nat} (I : ib_XI G sz i y) (g : G i) (hi : i < 64) (h : sz i < y) : ib_XI G sz (i + 1) (sz i) := by
  refine ⟨⟨i, hi, g, rfl⟩, fun t ht gt => ?_⟩
  rcases Nat.lt_or_ge t i with z | z
  · have := I.2 t z gt; omega
  · rw [show t = i by omega]; exact Nat.le_refl _
theorem ib_XIn {y : Nat} (I : ib_XI G sz i y) (h : G i → y ≤ sz i) : ib_XI G sz (i + 1) y := by
  refine ⟨I.1, fun t ht gt => ?_⟩
  rcases Nat.lt_or_ge t i with z | z
  · exact I.2 t z gt
  · have e : t = i := by omega
    rw [e] at gt ⊢
    exact h gt
theorem ib_YI0 : ib_YI G sz 0 (-10000) := Or.inl ⟨rfl, fun t ht => absurd ht (Nat.not_lt_zero t)⟩
theorem ib_YIt {a : Int32} (I : ib_YI G sz i a) (g : G i) (h6 : sz i ≤ 6) (h : ∀ y, a = nI y → y ≤ 6 → sz i < y) : ib_YI G sz (i + 1) (nI (sz i)) := by
  refine Or.inr ⟨sz i, rfl, h6, ⟨i, by omega, g, rfl⟩, fun t ht gt => ?_⟩
  rcases Nat.lt_or_ge t i with z | z
  · rcases I with ⟨_, n⟩ | ⟨y, ea, hy, L⟩
    · exact absurd gt (n t z)
    · have h1 := h y ea hy
      have h2 := L.2 t z gt
      omega
  · rw [show t = i by omega]; exact Nat.le_refl _
theorem ib_YIn {a : Int32} (I : ib_YI G sz i a) (h : G i → ∃ y, a = nI y ∧ y ≤ 6 ∧ y ≤ sz i) : ib_YI G sz (i + 1) a := by
  rcases I with ⟨ea, n⟩ | ⟨y, ea, hy, L⟩
  · refine Or.inl ⟨ea, fun t ht gt => ?_⟩
    rcases Nat.lt_or_ge t i with z | z
    · exact n t z gt
    · have e : t = i := by omega
      rw [e] at gt
      obtain ⟨y, ey, hy, _⟩ := h gt
      rw [ea] at ey
      have t1 : ∀ y, y ≤ 6 → ¬ (-10000 : Int32) = nI y := by decide +kernel
      exact t1 y hy ey
  · obtain ⟨⟨t, ht, gt, et⟩, hl⟩ := L
    refine Or.inr ⟨y, ea, hy, ⟨t, by omega, gt, et⟩, fun r hr gr => ?_⟩
    rcases Nat.lt_or_ge r i with z | z
    · exact hl r z gr
    · have e : r = i := by omega
      rw [e] at gr ⊢
      obtain ⟨y', ey, hy', h2⟩ := h gr
      have : y = y' := (nI_eq (by omega) (by omega)).mp (ea.symm.trans ey)
      omega
theorem ib_fin {y : Nat} {a : Int32} (X : ib_XI G sz 64 y) (Y : ib_YI G sz 64 a) : a = nI y := by
  rcases Y with ⟨_, n⟩ | ⟨z, ez, _, L⟩
  · obtain ⟨t, ht, g, _⟩ := X.1
    exact absurd g (n t ht)
  · rw [ez, ib_LeastU L X]
theorem ib_fin0 {a : Int32} (h : ∀ t, t < 64 → ¬ G t) (Y : ib_YI G sz 64 a) : a = -10000 := by
  rcases Y with ⟨e, _⟩ | ⟨z, _, _, L⟩
  · exact e
  · obtain ⟨t, ht, g, _⟩ := L.1
    exact absurd g (h t ht)
end
/-! the first point, and follows -/
theorem ib_fst {p : Nat → Bool} {a b : Nat} (ha : p a = true) (ma : ∀ j, j < a → p j = false) (hb : p b = true) (mb : ∀ j, j < b → p j = false) : a = b := by
  rcases Nat.lt_trichotomy a b with h | h | h
  · have := mb a h; rw [ha] at this; exact nomatch this
  · exact h
  · have := ma b h; rw [hb] at this; exact nomatch this
theorem ib_fol (p : Nat → Bool) (f d : Int32) {n : Nat} (hn : n < 4913) (hp : p n = true) : ib_fd (ib_gst p (ib_val f)) (-10000) 4913 ≤ d ↔ ∀ n, n < 4913 → p n = true → ib_val f n ≤ d := by
  rw [ib_gr]
  exact ⟨fun h => h.2, fun h => ⟨Int32.le_trans (ib_valG f hn) (h n hn hp), h⟩⟩
