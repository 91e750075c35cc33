/-! masks as sets of bits -/
theorem ib_b1 : ∀ j, j < 32 → bt 1 j = decide (j = 0) := by decide +kernel
theorem ib_one : ∀ l, l < 32 → ∀ j, j < 32 → bt ((1 : Int32) <<< (nI l &&& 31)) j = decide (j = l) := by decide +kernel
theorem ib_not (x : Int32) {j : Nat} (hj : j < 32) : bt (x ^^^ (-1)) j = !bt x j := by
  rw [b_xor, b_m1 j hj, Bool.xor_true]
theorem ib_z {x : Int32} : x = 0 ↔ ∀ j, j < 32 → bt x j = false :=
  ⟨fun h j _ => by rw [h, b_0], fun h => b_ext fun j hj => by rw [h j hj, b_0]⟩
theorem ib_bit (S : Int32) {i : Nat} (hi : i < 32) : (S >>> (nI i &&& 31)) &&& 1 = if bt S i = true then 1 else 0 := by
  apply b_ext
  intro j hj
  rw [b_and, b_sshr i hi S hj, ib_b1 j hj]
  by_cases h0 : j = 0
  · subst h0
    rw [if_pos (by omega), Nat.add_zero, decide_eq_true rfl, Bool.and_true]
    cases h : bt S i
    · rw [if_neg (by decide), b_0]
    · rw [if_pos rfl, ib_b1 0 (by omega)]; rfl
  · rw [decide_eq_false h0, Bool.and_false]
    cases h : bt S i
    · rw [if_neg (by decide), b_0]
    · rw [if_pos rfl, ib_b1 j hj, decide_eq_false h0]
theorem ib_bit0 (S : Int32) {i : Nat} (hi : i < 32) : (S >>> (nI i &&& 31)) &&& 1 = 0 ↔ bt S i = false := by
  rw [ib_bit S hi]
  cases bt S i
  · exact ⟨fun _ => rfl, fun _ => rfl⟩
  · exact ⟨fun h => absurd h (by decide), fun h => nomatch h⟩
/-- the set of those i below m that p picks -/
def ib_msk (p : Nat → Bool) : Nat → Int32
  | 0 => 0
  | i + 1 => if p i = true then ib_msk p i ||| ((1 : Int32) <<< (nI i &&& 31)) else ib_msk p i
theorem ib_mskB (p : Nat → Bool) : ∀ m, m ≤ 32 → ∀ j, j < 32 → bt (ib_msk p m) j = (decide (j < m) && p j) := by
  intro m
  induction m with
  | zero => intro _ j _; rw [ib_msk, b_0]; simp
  | succ m ih =>
    intro hm j hj
    rw [ib_msk]
    by_cases e : j = m
    · subst e
      cases h : p j
      · rw [if_neg (by decide), ih (by omega) j hj, h, Bool.and_false, Bool.and_false]
      · rw [if_pos rfl, b_or, ib_one j hj j hj, decide_eq_true rfl, Bool.or_true, decide_eq_true (Nat.lt_succ_self j)]; rfl
    · have hd : decide (j < m + 1) = decide (j < m) := decide_eq_decide.mpr (by omega)
      rw [hd]
      cases h : p m
      · rw [if_neg (by decide)]; exact ih (by omega) j hj
      · rw [if_pos rfl, b_or, ib_one m (by omega) j hj, decide_eq_false e, Bool.or_false]; exact ih (by omega) j hj
theorem ib_mskC {p q : Nat → Bool} : ∀ m, (∀ i, i < m → p i = q i) → ib_msk p m = ib_msk q m := by
  intro m
  induction m with
  | zero => intro _; rfl
  | succ m ih => intro h; rw [ib_msk, ib_msk, ih (fun i hi => h i (by omega)), h m (by omega)]
theorem ib_mskZ (p : Nat → Bool) (m : Nat) (hm : m ≤ 32) (S : Int32) : ib_msk p m &&& S = 0 ↔ ∀ i, i < m → bt S i = true → p i = false := by
  rw [ib_z]
  constructor
  · intro h i hi hs
    have t := h i (by omega)
    rw [b_and, ib_mskB p m hm i (by omega), decide_eq_true hi, hs, Bool.true_and, Bool.and_true] at t
    exact t
  · intro h j hj
    rw [b_and, ib_mskB p m hm j hj]
    by_cases e : j < m
    · cases hs : bt S j
      · rw [Bool.and_false]
      · rw [h j e hs, Bool.and_false, Bool.false_and]
    · rw [decide_eq_false e, Bool.false_and, Bool.false_and]
/-- which limits are on -/
def ib_on (on : Nat → Int32) (i : Nat) : Bool := decide (¬ on i = 0)
theorem ib_onLim (on : Nat → Int32) (m : Nat) (x : Int32) (hx : ¬ x = 0) : ib_msk (ib_on (upd on m x)) (m + 1) = ib_msk (ib_on on) m ||| ((1 : Int32) <<< (nI m &&& 31)) := by
  have h1 : ib_on (upd on m x) m = true := by unfold ib_on; rw [pk_us]; exact decide_eq_true hx
  have h2 : ib_msk (ib_on (upd on m x)) m = ib_msk (ib_on on) m := ib_mskC m (fun i hi => by unfold ib_on; rw [pk_un (by omega)])
  rw [ib_msk, if_pos h1, h2]
theorem ib_onDrop (on : Nat → Int32) {m : Nat} (hm : m < 32) : ib_msk (ib_on on) (m + 1) &&& (((1 : Int32) <<< (nI m &&& 31)) ^^^ (-1)) = ib_msk (ib_on on) m := by
  apply b_ext
  intro j hj
  rw [b_and, ib_not _ hj, ib_one m hm j hj, ib_mskB _ (m + 1) (by omega) j hj, ib_mskB _ m (by omega) j hj]
  by_cases e : j = m
  · subst e; simp
  · rw [decide_eq_false e, Bool.not_false, Bool.and_true, show decide (j < m + 1) = decide (j < m) from decide_eq_decide.mpr (by omega)]
theorem ib_onOff (on : Nat → Int32) {m i : Nat} (hm : m ≤ 32) (hi : i < m) (x : Int32) (hx : x = 0) : ib_msk (ib_on (upd on i x)) m = ib_msk (ib_on on) m &&& (((1 : Int32) <<< (nI i &&& 31)) ^^^ (-1)) := by
  apply b_ext
  intro j hj
  rw [b_and, ib_not _ hj, ib_one i (by omega) j hj, ib_mskB _ m hm j hj, ib_mskB _ m hm j hj]
  by_cases e : j = i
  · subst e
    unfold ib_on
    rw [pk_us, hx]
    simp
  · unfold ib_on
    rw [pk_un e, decide_eq_false e, Bool.not_false, Bool.and_true]
theorem ib_onOn (on : Nat → Int32) {m i : Nat} (hm : m ≤ 32) (hi : i < m) (x : Int32) (hx : ¬ x = 0) : ib_msk (ib_on (upd on i x)) m = (ib_msk (ib_on on) m &&& (((1 : Int32) <<< (nI i &&& 31)) ^^^ (-1))) ||| ((1 : Int32) <<< (nI i &&& 31)) := by
  apply b_ext
  intro j hj
  rw [b_or, b_and, ib_not _ hj, ib_one i (by omega) j hj, ib_mskB _ m hm j hj, ib_mskB _ m hm j hj]
  by_cases e : j = i
  · subst e
    unfold ib_on
    rw [pk_us, decide_eq_true hx, decide_eq_true hi]
    simp
  · unfold ib_on
    rw [pk_un e, decide_eq_false e, Bool.not_false, Bool.and_true, Bool.or_false]
/-! a walk over the places -/
def ib_fd {α : Type} (st : Nat → α → α) (a : α) : Nat → α
  | 0 => a
  | n + 1 => st n (ib_fd st a n)
/-- digits, numbers, values: a place n below 4913 -/
def ib_dg (n v : Nat) : Nat := if v = 0 then n / 289 else if v = 1 then n / 17 % 17 else n % 17
def ib_nm (n v : Nat) : Int32 := nI (ib_dg n v) - 8
theorem ib_dgL {n : Nat} (h : n < 4913) (v : Nat) : ib_dg n v < 17 := by
  unfold ib_dg
  split
  · omega
  · split <;> omega
/-! long masks -/
def ib_lb (w : Int64) (j : Nat) : Bool := w.toBitVec.getLsbD j
theorem ib_lone : ∀ k, k < 64 → ((1 : Int64) <<< ((nI k).toInt64 &&& 63)).toBitVec = BitVec.twoPow 64 k := by decide +kernel
theorem ib_lsm : ∀ k, k < 64 → (((nI k).toInt64 &&& 63).toBitVec.smod 64).toNat = k := by decide +kernel
theorem ib_lor (w : Int64) {k j : Nat} (hk : k < 64) (hj : j < 64) : ib_lb (w ||| ((1 : Int64) <<< ((nI k).toInt64 &&& 63))) j = (ib_lb w j || decide (k = j)) := by
  unfold ib_lb
  rw [Int64.toBitVec_or, BitVec.getLsbD_or, ib_lone k hk, BitVec.getLsbD_twoPow, decide_eq_true hk, Bool.true_and]
theorem ib_lbit (w : Int64) {k : Nat} (hk : k < 64) : (w >>> ((nI k).toInt64 &&& 63)) &&& 1 = 0 ↔ ib_lb w k = false := by
  have e : (w >>> ((nI k).toInt64 &&& 63)).toBitVec = w.toBitVec.sshiftRight k := by
    show w.toBitVec.sshiftRight (((nI k).toInt64 &&& 63).toBitVec.smod 64).toNat = _
    rw [ib_lsm k hk]
  rw [← Int64.toBitVec_inj, Int64.toBitVec_and, e]
  show w.toBitVec.sshiftRight k &&& 1#64 = 0#64 ↔ _
  constructor
  · intro h
    have t := congrArg (fun x => x.getLsbD 0) h
    simp only [BitVec.getLsbD_and, BitVec.getLsbD_sshiftRight] at t
    simpa [hk, ib_lb] using t
  · intro h
    apply BitVec.eq_of_getLsbD_eq
    intro i hi
    rw [BitVec.getLsbD_and, BitVec.getLsbD_sshiftRight]
    cases i with
    | zero =>
      unfold ib_lb at h
      have h' : w.toBitVec[k] = false := by rw [← BitVec.getLsbD_eq_getElem]; exact h
      simp [h', hk]
    | succ i => simp
/-! the least size of a good set -/
def ib_Least (G : Nat → Prop) (sz : Nat → Nat) (s y : Nat) : Prop := (∃ t, t < s ∧ G t ∧ sz t = y) ∧ ∀ t, t < s → G t → y ≤ sz t
theorem ib_LeastU {G : Nat → Prop} {sz : Nat → Nat} {s y z : Nat} (a : ib_Least G sz s y) (b : ib_Least G sz s z) : y = z := by
  obtain ⟨⟨t, ht, gt, et⟩, ha⟩ := a
  obtain ⟨⟨r, hr, gr, er⟩, hb⟩ := b
  have h1 := ha r hr gr
  have h2 := hb t ht gt
  omega
/-! the greatest value -/
def ib_gst (p : Nat → Bool) (w : Nat → Int32) (n : Nat) (g : Int32) : Int32 := if p n = true then (if w n ≤ g then g else w n) else g
theorem ib_gr (p : Nat → Bool) (w : Nat → Int32) (d : Int32) : ∀ s, ib_fd (ib_gst p w) (-10000) s ≤ d ↔ (-10000 ≤ d ∧ ∀ n, n < s → p n = true → w n ≤ d) := by
  intro s
  induction s with
  | zero => exact ⟨fun h => ⟨h, fun n hn => absurd hn (Nat.not_lt_zero n)⟩, fun h => h.1⟩
  | succ s ih =>
    show ib_gst p w s (ib_fd (ib_gst p w) (-10000) s) ≤ d ↔ _
    generalize ib_fd (ib_gst p w) (-10000) s = g at ih ⊢
    unfold ib_gst
    cases hp : p s
    · rw [if_neg (by decide), ih]
      refine ⟨fun h => ⟨h.1, fun n hn pn => ?_⟩, fun h => ⟨h.1, fun n hn pn => h.2 n (by omega) pn⟩⟩
      rcases Nat.lt_or_ge n s with z | z
      · exact h.2 n z pn
      · rw [show n = s by omega, hp] at pn; exact nomatch pn
    · rw [if_pos rfl]
      have key : (if w s ≤ g then g else w s) ≤ d ↔ g ≤ d ∧ w s ≤ d := by
        by_cases z : w s ≤ g
        · rw [if_pos z]; exact ⟨fun h => ⟨h, Int32.le_trans z h⟩, fun h => h.1⟩
        · rw [if_neg z]; exact ⟨fun h => ⟨Int32.le_trans (Int32.le_of_lt (Int32.not_le.mp z)) h, h⟩, fun h => h.2⟩
      rw [key, ih]
      refine ⟨fun h => ⟨h.1.1, fun n hn pn => ?_⟩, fun h => ⟨⟨h.1, fun n hn pn => h.2 n (by omega) pn⟩, h.2 s (by omega) hp⟩⟩
      rcases Nat.lt_or_ge n s with z | z
      · exact h.1.2 n z pn
      · rw [show n = s by omega]; exact h.2
/-- a factor of any f and a number of any place: their product is small -/
theorem ib_prod : ∀ a, a < 16 → ∀ b, b < 17 → -120 ≤ ((nI a - 5) * (nI b - 8)).toInt ∧ ((nI a - 5) * (nI b - 8)).toInt ≤ 120 := by decide +kernel
theorem ib_sum3 {x y z : Int32} (hx : -120 ≤ x.toInt ∧ x.toInt ≤ 120) (hy : -120 ≤ y.toInt ∧ y.toInt ≤ 120) (hz : -120 ≤ z.toInt ∧ z.toInt ≤ 120) : -10000 ≤ x + y + z := by
  rw [Int32.le_iff_toInt_le, Int32.toInt_add, Int32.toInt_add, Int.bmod_eq_of_le (n := x.toInt + y.toInt) (by omega) (by omega), Int.bmod_eq_of_le (by omega) (by omega), show (-10000 : Int32).toInt = -10000 by decide]
  omega
/-! sets of limits: sizes and subsets -/
def ib_sz (S : Int32) : Nat → Nat
  | 0 => 0
  | i + 1 => if bt S i = true then ib_sz S i + 1 else ib_sz S i
theorem ib_szL (S : Int32) : ∀ m, ib_sz S m ≤ m := by
  intro m
  induction m with
  | zero => exact Nat.le_refl 0
  | succ m ih => unfold ib_sz; split <;> omega
theorem ib_szS (S : Int32) {i : Nat} (hi : i < 32) : nI (ib_sz S i) + ((S >>> (nI i &&& 31)) &&& 1) = nI (ib_sz S (i + 1)) := by
  rw [ib_bit S hi, ib_sz]
  cases bt S i
  · rw [if_neg (by decide), if_neg (by decide), Int32.add_zero]
  · rw [if_pos rfl, if_pos rfl, nI_1]
theorem ib_sub {S T : Int32} : S &&& (T ^^^ (-1)) = 0 ↔ ∀ j, j < 32 → bt S j = true → bt T j = true := by
  rw [ib_z]
  constructor
  · intro h j hj hs
    have t := h j hj
    rw [b_and, ib_not _ hj, hs, Bool.true_and] at t
    cases ht : bt T j
    · rw [ht] at t; exact nomatch t
    · rfl
  · intro h j hj
    rw [b_and, ib_not _ hj]
    cases hs : bt S j
    · rfl
    · rw [h j hj hs]; rfl
/-- within T: what S meets of M it meets of M and T -/
theorem ib_subM {S T M : Int32} (h : S &&& (T ^^^ (-1)) = 0) : S &&& (M &&& T) = M &&& S := by
  rw [ib_sub] at h
  apply b_ext
  intro j hj
  rw [b_and, b_and, b_and]
  cases hs : bt S j
  · rw [Bool.and_false]; rfl
  · rw [h j hj hs, Bool.and_true, Bool.true_and]
/-- a mask of bits below 6 alone is a number below 64 -/
theorem ib_b63 : ∀ j, j < 32 → bt 63 j = decide (j < 6) := by decide +kernel
theorem ib_six {x : Int32} (h : ∀ j, j < 32 → bt x j = true → j < 6) : ∃ s, s < 64 ∧ x = nI s := by
  have e : x &&& 63 = x := b_ext fun j hj => by
    rw [b_and, ib_b63 j hj]
    cases hx : bt x j
    · rfl
    · rw [decide_eq_true (h j hj hx)]; rfl
  obtain ⟨s, hs, es⟩ := pk_andE x (m := 63) 6 (by decide)
  exact ⟨s, hs, e ▸ es⟩
