section
/-! rows pasted from the kit's rows (starting texts) -/
theorem pk_us {f : Nat → Int32} {k : Nat} {x : Int32} : upd f k x k = x := if_pos rfl
theorem pk_un {f : Nat → Int32} {k j : Nat} {x : Int32} (h : j ≠ k) : upd f k x j = f j := if_neg h
theorem pk_sub {a b : Nat} (h : b ≤ a) : nI a - nI b = nI (a - b) := by
  obtain ⟨c, rfl⟩ : ∃ c, a = c + b := ⟨a - b, by omega⟩
  rw [← nI_add, Int32.add_sub_cancel, Nat.add_sub_cancel]
theorem pk_m1 (n : Nat) : nI (n + 1) + (-1) = nI n := by
  rw [← nI_1, Int32.add_assoc, show (1 : Int32) + (-1) = 0 from rfl, Int32.add_zero]
theorem pk_mul (a b : Nat) : nI a * nI b = nI (a * b) := (Int32.ofNat_mul a b).symm
theorem pk_div {a d : Nat} (ha : a < 2 ^ 31) (h0 : 0 < d) (hd : d < 2 ^ 31) : nI a / nI d = nI (a / d) := by
  apply Int32.toInt_inj.mp
  rw [lg_idiv_nonneg (by rw [nI_toInt ha]; omega) (by rw [nI_toInt hd]; omega), nI_toInt ha, nI_toInt hd, nI_toInt (Nat.lt_of_le_of_lt (Nat.div_le_self a d) ha)]
  first | rfl | exact (Int.natCast_ediv _ _).symm
theorem pk_rem {a d : Nat} (ha : a < 2 ^ 31) (h0 : 0 < d) (hd : d < 2 ^ 31) : nI a - nI a / nI d * nI d = nI (a % d) := by
  rw [pk_div ha h0 hd, pk_mul, pk_sub (Nat.div_mul_le_self a d)]
  exact congrArg nI (by have := Nat.div_add_mod' a d; omega)
theorem pk_sub_toInt {a b : Nat} (ha : a < 2 ^ 30) (hb : b < 2 ^ 30) : (nI a - nI b).toInt = (a : Int) - b := by
  rw [Int32.toInt_sub, nI_toInt (by omega), nI_toInt (by omega)]
  exact Int.bmod_eq_of_le (by omega) (by omega)
theorem pk_ix (x : Int32) {n : Nat} (hn : n < 2 ^ 31) : x < 0 ∨ nI n ≤ x ∨ ∃ j : Nat, j < n ∧ x = nI j := by
  by_cases h : x < 0
  · exact Or.inl h
  · obtain ⟨j, hj, rfl⟩ := nI_of h
    by_cases h2 : j < n
    · exact Or.inr (Or.inr ⟨j, h2, rfl⟩)
    · exact Or.inr (Or.inl (nI_le (by omega) hj))
theorem pk_le {x y : Int32} {A B : Prop} (a b : Nat) (f : a ≤ b → A) (g : b < a → B) (hx : x = nI a := by rfl) (hy : y = nI b := by rfl) (ha : a < 2 ^ 31 := by omega) (hb : b < 2 ^ 31 := by omega) : (x ≤ y → A) ∧ (¬ x ≤ y → B) := by
  subst hx hy
  rw [nI_leI ha hb]
  exact ⟨f, fun z => g (by omega)⟩
theorem pk_lt {x y : Int32} {A B : Prop} (a b : Nat) (f : a < b → A) (g : b ≤ a → B) (hx : x = nI a := by rfl) (hy : y = nI b := by rfl) (ha : a < 2 ^ 31 := by omega) (hb : b < 2 ^ 31 := by omega) : (x < y → A) ∧ (¬ x < y → B) := by
  subst hx hy
  rw [nI_ltI ha hb]
  exact ⟨f, fun z => g (by omega)⟩
theorem pk_eq {x y : Int32} {A B : Prop} (a b : Nat) (f : a = b → A) (g : a ≠ b → B) (hx : x = nI a := by rfl) (hy : y = nI b := by rfl) (ha : a < 2 ^ 31 := by omega) (hb : b < 2 ^ 31 := by omega) : (x = y → A) ∧ (¬ x = y → B) := by
  subst hx hy
  rw [nI_eq ha hb]
  exact ⟨f, g⟩
theorem pk_in {x : Int32} (n N : Nat) (h : n < N) (hx : x = nI n := by rfl) (hN : N < 2 ^ 31 := by omega) : vp_in x N := by
  subst hx
  exact vp_in_nI h hN
theorem pk_cl {x : Int32} (n : Nat) (hx : x = nI n := by rfl) (h : n < 2 ^ 31 := by omega) : x.toNatClampNeg = n := by
  subst hx
  exact nI_clamp h
theorem pk_tn {n : Nat} (h : n < 2 ^ 32) : (nI n).toBitVec.toNat = n := Nat.mod_eq_of_lt h
theorem pk_and (x : Int32) {m : Int32} (k : Nat) (hm : m.toBitVec.toNat = 2 ^ k - 1) : x &&& m = nI (x.toBitVec.toNat % 2 ^ k) := by
  apply Int32.toBitVec_inj.mp
  apply BitVec.eq_of_toNat_eq
  rw [Int32.toBitVec_and, BitVec.toNat_and, hm, Nat.and_two_pow_sub_one_eq_mod]
  show _ = (BitVec.ofNat 32 _).toNat
  rw [BitVec.toNat_ofNat]
  exact (Nat.mod_eq_of_lt (Nat.lt_of_le_of_lt (Nat.mod_le _ _) x.toBitVec.isLt)).symm
theorem pk_andN {n : Nat} (h : n < 2 ^ 32) {m : Int32} (k : Nat) (hm : m.toBitVec.toNat = 2 ^ k - 1) : nI n &&& m = nI (n % 2 ^ k) := by
  rw [pk_and _ k hm, pk_tn h]
theorem pk_andE (x : Int32) {m : Int32} (k : Nat) (hm : m.toBitVec.toNat = 2 ^ k - 1) : ∃ j : Nat, j < 2 ^ k ∧ x &&& m = nI j := ⟨_, Nat.mod_lt _ (Nat.two_pow_pos k), pk_and x k hm⟩
theorem pk_loop {σ : Type} (W : Nat → Nat → σ → Prop) (I : Nat → σ → Prop) (e i0 : Nat) (s : σ) (hi : i0 ≤ e) (h0 : I i0 s) (hx : ∀ n s, I e s → W (n + 1) e s)
    (hs : ∀ n i s, i < e → I i s → (∀ s', I (i + 1) s' → W n (i + 1) s') → W (n + 1) i s) : ∃ n, W n i0 s :=
  ⟨e + 1, loop_i W I e hx hs (e + 1) i0 s hi (by omega) h0⟩
theorem pk_loopD {σ : Type} (W : Nat → Nat → σ → Prop) (I : Nat → σ → Prop) (hx : ∀ n s, I 0 s → W (n + 1) 0 s)
    (hs : ∀ n i s, I (i + 1) s → (∀ s', I i s' → W n i s') → W (n + 1) (i + 1) s) : ∀ (e : Nat) (s : σ), I e s → W (e + 1) e s := by
  intro e
  induction e with
  | zero => exact fun s h => hx 0 s h
  | succ e ih => exact fun s h => hs (e + 1) e s h (fun s' h' => ih s' h')
theorem pk_least (P : Nat → Prop) (h : ∃ k, P k) : ∃ k, P k ∧ ∀ j, j < k → ¬ P j := by
  obtain ⟨k, hk⟩ := h
  induction k using Nat.strongRecOn with
  | ind k ih =>
    by_cases e : ∃ j, j < k ∧ P j
    · obtain ⟨j, hj, pj⟩ := e
      exact ih j hj pj
    · exact ⟨k, hk, fun j hj pj => e ⟨j, hj, pj⟩⟩
theorem lp1 {A1 : Type} (W : Nat → A1 → Prop) (I : A1 → Prop) (μ : A1 → Nat) (hs : ∀ (n : Nat) (a1 : A1), I a1 → (∀ (b1 : A1), I b1 → μ b1 < μ a1 → W n b1) → W (n + 1) a1) (a1 : A1) (h : I a1) : ∃ n, W n a1 :=
  loop_m (σ := A1) (fun n s => W n s) (fun s => I s) (fun s => μ s) (fun n s hI hk => hs n s hI (fun b1 h9 hm => hk b1 h9 hm)) a1 h
theorem lp2 {A1 A2 : Type} (W : Nat → A1 → A2 → Prop) (I : A1 → A2 → Prop) (μ : A1 → A2 → Nat) (hs : ∀ (n : Nat) (a1 : A1) (a2 : A2), I a1 a2 → (∀ (b1 : A1) (b2 : A2), I b1 b2 → μ b1 b2 < μ a1 a2 → W n b1 b2) → W (n + 1) a1 a2) (a1 : A1) (a2 : A2) (h : I a1 a2) : ∃ n, W n a1 a2 :=
  loop_m (σ := A1 × A2) (fun n s => W n s.1 s.2) (fun s => I s.1 s.2) (fun s => μ s.1 s.2) (fun n s hI hk => hs n s.1 s.2 hI (fun b1 b2 h9 hm => hk (b1, b2) h9 hm)) (a1, a2) h
theorem lp3 {A1 A2 A3 : Type} (W : Nat → A1 → A2 → A3 → Prop) (I : A1 → A2 → A3 → Prop) (μ : A1 → A2 → A3 → Nat) (hs : ∀ (n : Nat) (a1 : A1) (a2 : A2) (a3 : A3), I a1 a2 a3 → (∀ (b1 : A1) (b2 : A2) (b3 : A3), I b1 b2 b3 → μ b1 b2 b3 < μ a1 a2 a3 → W n b1 b2 b3) → W (n + 1) a1 a2 a3) (a1 : A1) (a2 : A2) (a3 : A3) (h : I a1 a2 a3) : ∃ n, W n a1 a2 a3 :=
  loop_m (σ := A1 × A2 × A3) (fun n s => W n s.1 s.2.1 s.2.2) (fun s => I s.1 s.2.1 s.2.2) (fun s => μ s.1 s.2.1 s.2.2) (fun n s hI hk => hs n s.1 s.2.1 s.2.2 hI (fun b1 b2 b3 h9 hm => hk (b1, b2, b3) h9 hm)) (a1, a2, a3) h
def bt (x : Int32) (i : Nat) : Bool := x.toBitVec.getLsbD i
theorem b_ext {x y : Int32} (h : ∀ i, i < 32 → bt x i = bt y i) : x = y := Int32.toBitVec_inj.mp (BitVec.eq_of_getLsbD_eq (fun i hi => h i hi))
theorem b_or (x y : Int32) (i : Nat) : bt (x ||| y) i = (bt x i || bt y i) := by unfold bt; rw [Int32.toBitVec_or, BitVec.getLsbD_or]
theorem b_and (x y : Int32) (i : Nat) : bt (x &&& y) i = (bt x i && bt y i) := by unfold bt; rw [Int32.toBitVec_and, BitVec.getLsbD_and]
theorem b_xor (x y : Int32) (i : Nat) : bt (x ^^^ y) i = (bt x i ^^ bt y i) := by unfold bt; rw [Int32.toBitVec_xor, BitVec.getLsbD_xor]
theorem b_big {x : Int32} {i : Nat} (h : 32 ≤ i) : bt x i = false := BitVec.getLsbD_of_ge _ _ h
theorem b_m1 : ∀ i, i < 32 → bt (-1) i = true := by decide +kernel
theorem b_0 (i : Nat) : bt 0 i = false := BitVec.getLsbD_zero
theorem s_l : ∀ n, n < 32 → ((nI n &&& 31).toBitVec.smod 32).toNat = n := by decide +kernel
theorem b_shl (n : Nat) (hn : n < 32) (x : Int32) {i : Nat} (hi : i < 32) : bt (x <<< (nI n &&& 31)) i = (decide (n ≤ i) && bt x (i - n)) := by
  unfold bt
  rw [Int32.toBitVec_shiftLeft]
  show (x.toBitVec <<< ((nI n &&& 31).toBitVec.smod 32).toNat).getLsbD i = _
  rw [s_l n hn, BitVec.getLsbD_shiftLeft]
  rcases Nat.lt_or_ge i n with h | h
  · simp [h, Nat.not_le.mpr h]
  · simp [hi, h, Nat.not_lt.mpr h]
theorem b_sshr (n : Nat) (hn : n < 32) (x : Int32) {i : Nat} (hi : i < 32) : bt (x >>> (nI n &&& 31)) i = if n + i < 32 then bt x (n + i) else bt x 31 := by
  unfold bt
  rw [Int32.toBitVec_shiftRight]
  show (x.toBitVec.sshiftRight ((nI n &&& 31).toBitVec.smod 32).toNat).getLsbD i = _
  rw [s_l n hn, BitVec.getLsbD_sshiftRight, BitVec.msb_eq_getLsbD_last]
  simp [hi]
end
section
/-! masks as sets of bits -/
theorem ib_b1 : ∀ j, j < 32 → bt 1 j = decide (j = 0) := by decide +kernel
theorem ib_one : ∀ l, l < 32 → ∀ j, j < 32 → bt ((1 : Int32) <<< (nI l &&& 31)) j = decide (j = l) := by decide +kernel
theorem ib_not (x : Int32) {j : Nat} (hj : j < 32) : bt (x ^^^ (-1)) j = !bt x j := by
  rw [b_xor, b_m1 j hj, Bool.xor_true]
theorem ib_z {x : Int32} : x = 0 ↔ ∀ j, j < 32 → bt x j = false :=
  ⟨fun h j _ => by rw [h, b_0], fun h => b_ext fun j hj => by rw [h j hj, b_0]⟩
theorem ib_bit (S : Int32) {i : Nat} (hi : i < 32) : (S >>> (nI i &&& 31)) &&& 1 = if bt S i = true then 1 else 0 := by
  apply b_ext
  intro j hj
  rw [b_and, b_sshr i hi S hj, ib_b1 j hj]
  by_cases h0 : j = 0
  · subst h0
    rw [if_pos (by omega), Nat.add_zero, decide_eq_true rfl, Bool.and_true]
    cases h : bt S i
    · rw [if_neg (by decide), b_0]
    · rw [if_pos rfl, ib_b1 0 (by omega)]; rfl
  · rw [decide_eq_false h0, Bool.and_false]
    cases h : bt S i
    · rw [if_neg (by decide), b_0]
    · rw [if_pos rfl, ib_b1 j hj, decide_eq_false h0]
theorem ib_bit0 (S : Int32) {i : Nat} (hi : i < 32) : (S >>> (nI i &&& 31)) &&& 1 = 0 ↔ bt S i = false := by
  rw [ib_bit S hi]
  cases bt S i
  · exact ⟨fun _ => rfl, fun _ => rfl⟩
  · exact ⟨fun h => absurd h (by decide), fun h => nomatch h⟩
/-- the set of those i below m that p picks -/
def ib_msk (p : Nat → Bool) : Nat → Int32
  | 0 => 0
  | i + 1 => if p i = true then ib_msk p i ||| ((1 : Int32) <<< (nI i &&& 31)) else ib_msk p i
theorem ib_mskB (p : Nat → Bool) : ∀ m, m ≤ 32 → ∀ j, j < 32 → bt (ib_msk p m) j = (decide (j < m) && p j) := by
  intro m
  induction m with
  | zero => intro _ j _; rw [ib_msk, b_0]; simp
  | succ m ih =>
    intro hm j hj
    rw [ib_msk]
    by_cases e : j = m
    · subst e
      cases h : p j
      · rw [if_neg (by decide), ih (by omega) j hj, h, Bool.and_false, Bool.and_false]
      · rw [if_pos rfl, b_or, ib_one j hj j hj, decide_eq_true rfl, Bool.or_true, decide_eq_true (Nat.lt_succ_self j)]; rfl
    · have hd : decide (j < m + 1) = decide (j < m) := decide_eq_decide.mpr (by omega)
      rw [hd]
      cases h : p m
      · rw [if_neg (by decide)]; exact ih (by omega) j hj
      · rw [if_pos rfl, b_or, ib_one m (by omega) j hj, decide_eq_false e, Bool.or_false]; exact ih (by omega) j hj
theorem ib_mskC {p q : Nat → Bool} : ∀ m, (∀ i, i < m → p i = q i) → ib_msk p m = ib_msk q m := by
  intro m
  induction m with
  | zero => intro _; rfl
  | succ m ih => intro h; rw [ib_msk, ib_msk, ih (fun i hi => h i (by omega)), h m (by omega)]
theorem ib_mskZ (p : Nat → Bool) (m : Nat) (hm : m ≤ 32) (S : Int32) : ib_msk p m &&& S = 0 ↔ ∀ i, i < m → bt S i = true → p i = false := by
  rw [ib_z]
  constructor
  · intro h i hi hs
    have t := h i (by omega)
    rw [b_and, ib_mskB p m hm i (by omega), decide_eq_true hi, hs, Bool.true_and, Bool.and_true] at t
    exact t
  · intro h j hj
    rw [b_and, ib_mskB p m hm j hj]
    by_cases e : j < m
    · cases hs : bt S j
      · rw [Bool.and_false]
      · rw [h j e hs, Bool.and_false, Bool.false_and]
    · rw [decide_eq_false e, Bool.false_and, Bool.false_and]
/-- which limits are on -/
def ib_on (on : Nat → Int32) (i : Nat) : Bool := decide (¬ on i = 0)
theorem ib_onLim (on : Nat → Int32) (m : Nat) (x : Int32) (hx : ¬ x = 0) : ib_msk (ib_on (upd on m x)) (m + 1) = ib_msk (ib_on on) m ||| ((1 : Int32) <<< (nI m &&& 31)) := by
  have h1 : ib_on (upd on m x) m = true := by unfold ib_on; rw [pk_us]; exact decide_eq_true hx
  have h2 : ib_msk (ib_on (upd on m x)) m = ib_msk (ib_on on) m := ib_mskC m (fun i hi => by unfold ib_on; rw [pk_un (by omega)])
  rw [ib_msk, if_pos h1, h2]
theorem ib_onDrop (on : Nat → Int32) {m : Nat} (hm : m < 32) : ib_msk (ib_on on) (m + 1) &&& (((1 : Int32) <<< (nI m &&& 31)) ^^^ (-1)) = ib_msk (ib_on on) m := by
  apply b_ext
  intro j hj
  rw [b_and, ib_not _ hj, ib_one m hm j hj, ib_mskB _ (m + 1) (by omega) j hj, ib_mskB _ m (by omega) j hj]
  by_cases e : j = m
  · subst e; simp
  · rw [decide_eq_false e, Bool.not_false, Bool.and_true, show decide (j < m + 1) = decide (j < m) from decide_eq_decide.mpr (by omega)]
theorem ib_onOff (on : Nat → Int32) {m i : Nat} (hm : m ≤ 32) (hi : i < m) (x : Int32) (hx : x = 0) : ib_msk (ib_on (upd on i x)) m = ib_msk (ib_on on) m &&& (((1 : Int32) <<< (nI i &&& 31)) ^^^ (-1)) := by
  apply b_ext
  intro j hj
  rw [b_and, ib_not _ hj, ib_one i (by omega) j hj, ib_mskB _ m hm j hj, ib_mskB _ m hm j hj]
  by_cases e : j = i
  · subst e
    unfold ib_on
    rw [pk_us, hx]
    simp
  · unfold ib_on
    rw [pk_un e, decide_eq_false e, Bool.not_false, Bool.and_true]
theorem ib_onOn (on : Nat → Int32) {m i : Nat} (hm : m ≤ 32) (hi : i < m) (x : Int32) (hx : ¬ x = 0) : ib_msk (ib_on (upd on i x)) m = (ib_msk (ib_on on) m &&& (((1 : Int32) <<< (nI i &&& 31)) ^^^ (-1))) ||| ((1 : Int32) <<< (nI i &&& 31)) := by
  apply b_ext
  intro j hj
  rw [b_or, b_and, ib_not _ hj, ib_one i (by omega) j hj, ib_mskB _ m hm j hj, ib_mskB _ m hm j hj]
  by_cases e : j = i
  · subst e
    unfold ib_on
    rw [pk_us, decide_eq_true hx, decide_eq_true hi]
    simp
  · unfold ib_on
    rw [pk_un e, decide_eq_false e, Bool.not_false, Bool.and_true, Bool.or_false]
/-! a walk over the places -/
def ib_fd {α : Type} (st : Nat → α → α) (a : α) : Nat → α
  | 0 => a
  | n + 1 => st n (ib_fd st a n)
/-- digits, numbers, values: a place n below 4913 -/
def ib_dg (n v : Nat) : Nat := if v = 0 then n / 289 else if v = 1 then n / 17 % 17 else n % 17
def ib_nm (n v : Nat) : Int32 := nI (ib_dg n v) - 8
theorem ib_dgL {n : Nat} (h : n < 4913) (v : Nat) : ib_dg n v < 17 := by
  unfold ib_dg
  split
  · omega
  · split <;> omega
/-! long masks -/
def ib_lb (w : Int64) (j : Nat) : Bool := w.toBitVec.getLsbD j
theorem ib_lone : ∀ k, k < 64 → ((1 : Int64) <<< ((nI k).toInt64 &&& 63)).toBitVec = BitVec.twoPow 64 k := by decide +kernel
theorem ib_lsm : ∀ k, k < 64 → (((nI k).toInt64 &&& 63).toBitVec.smod 64).toNat = k := by decide +kernel
theorem ib_lor (w : Int64) {k j : Nat} (hk : k < 64) (hj : j < 64) : ib_lb (w ||| ((1 : Int64) <<< ((nI k).toInt64 &&& 63))) j = (ib_lb w j || decide (k = j)) := by
  unfold ib_lb
  rw [Int64.toBitVec_or, BitVec.getLsbD_or, ib_lone k hk, BitVec.getLsbD_twoPow, decide_eq_true hk, Bool.true_and]
theorem ib_lbit (w : Int64) {k : Nat} (hk : k < 64) : (w >>> ((nI k).toInt64 &&& 63)) &&& 1 = 0 ↔ ib_lb w k = false := by
  have e : (w >>> ((nI k).toInt64 &&& 63)).toBitVec = w.toBitVec.sshiftRight k := by
    show w.toBitVec.sshiftRight (((nI k).toInt64 &&& 63).toBitVec.smod 64).toNat = _
    rw [ib_lsm k hk]
  rw [← Int64.toBitVec_inj, Int64.toBitVec_and, e]
  show w.toBitVec.sshiftRight k &&& 1#64 = 0#64 ↔ _
  constructor
  · intro h
    have t := congrArg (fun x => x.getLsbD 0) h
    simp only [BitVec.getLsbD_and, BitVec.getLsbD_sshiftRight] at t
    simpa [hk, ib_lb] using t
  · intro h
    apply BitVec.eq_of_getLsbD_eq
    intro i hi
    rw [BitVec.getLsbD_and, BitVec.getLsbD_sshiftRight]
    cases i with
    | zero =>
      unfold ib_lb at h
      have h' : w.toBitVec[k] = false := by rw [← BitVec.getLsbD_eq_getElem]; exact h
      simp [h', hk]
    | succ i => simp
/-! the least size of a good set -/
def ib_Least (G : Nat → Prop) (sz : Nat → Nat) (s y : Nat) : Prop := (∃ t, t < s ∧ G t ∧ sz t = y) ∧ ∀ t, t < s → G t → y ≤ sz t
theorem ib_LeastU {G : Nat → Prop} {sz : Nat → Nat} {s y z : Nat} (a : ib_Least G sz s y) (b : ib_Least G sz s z) : y = z := by
  obtain ⟨⟨t, ht, gt, et⟩, ha⟩ := a
  obtain ⟨⟨r, hr, gr, er⟩, hb⟩ := b
  have h1 := ha r hr gr
  have h2 := hb t ht gt
  omega
/-! the greatest value -/
def ib_gst (p : Nat → Bool) (w : Nat → Int32) (n : Nat) (g : Int32) : Int32 := if p n = true then (if w n ≤ g then g else w n) else g
theorem ib_gr (p : Nat → Bool) (w : Nat → Int32) (d : Int32) : ∀ s, ib_fd (ib_gst p w) (-10000) s ≤ d ↔ (-10000 ≤ d ∧ ∀ n, n < s → p n = true → w n ≤ d) := by
  intro s
  induction s with
  | zero => exact ⟨fun h => ⟨h, fun n hn => absurd hn (Nat.not_lt_zero n)⟩, fun h => h.1⟩
  | succ s ih =>
    show ib_gst p w s (ib_fd (ib_gst p w) (-10000) s) ≤ d ↔ _
    generalize ib_fd (ib_gst p w) (-10000) s = g at ih ⊢
    unfold ib_gst
    cases hp : p s
    · rw [if_neg (by decide), ih]
      refine ⟨fun h => ⟨h.1, fun n hn pn => ?_⟩, fun h => ⟨h.1, fun n hn pn => h.2 n (by omega) pn⟩⟩
      rcases Nat.lt_or_ge n s with z | z
      · exact h.2 n z pn
      · rw [show n = s by omega, hp] at pn; exact nomatch pn
    · rw [if_pos rfl]
      have key : (if w s ≤ g then g else w s) ≤ d ↔ g ≤ d ∧ w s ≤ d := by
        by_cases z : w s ≤ g
        · rw [if_pos z]; exact ⟨fun h => ⟨h, Int32.le_trans z h⟩, fun h => h.1⟩
        · rw [if_neg z]; exact ⟨fun h => ⟨Int32.le_trans (Int32.le_of_lt (Int32.not_le.mp z)) h, h⟩, fun h => h.2⟩
      rw [key, ih]
      refine ⟨fun h => ⟨h.1.1, fun n hn pn => ?_⟩, fun h => ⟨⟨h.1, fun n hn pn => h.2 n (by omega) pn⟩, h.2 s (by omega) hp⟩⟩
      rcases Nat.lt_or_ge n s with z | z
      · exact h.1.2 n z pn
      · rw [show n = s by omega]; exact h.2
/-- a factor of any f and a number of any place: their product is small -/
theorem ib_prod : ∀ a, a < 16 → ∀ b, b < 17 → -120 ≤ ((nI a - 5) * (nI b - 8)).toInt ∧ ((nI a - 5) * (nI b - 8)).toInt ≤ 120 := by decide +kernel
theorem ib_sum3 {x y z : Int32} (hx : -120 ≤ x.toInt ∧ x.toInt ≤ 120) (hy : -120 ≤ y.toInt ∧ y.toInt ≤ 120) (hz : -120 ≤ z.toInt ∧ z.toInt ≤ 120) : -10000 ≤ x + y + z := by
  rw [Int32.le_iff_toInt_le, Int32.toInt_add, Int32.toInt_add, Int.bmod_eq_of_le (n := x.toInt + y.toInt) (by omega) (by omega), Int.bmod_eq_of_le (by omega) (by omega), show (-10000 : Int32).toInt = -10000 by decide]
  omega
/-! sets of limits: sizes and subsets -/
def ib_sz (S : Int32) : Nat → Nat
  | 0 => 0
  | i + 1 => if bt S i = true then ib_sz S i + 1 else ib_sz S i
theorem ib_szL (S : Int32) : ∀ m, ib_sz S m ≤ m := by
  intro m
  induction m with
  | zero => exact Nat.le_refl 0
  | succ m ih => unfold ib_sz; split <;> omega
theorem ib_szS (S : Int32) {i : Nat} (hi : i < 32) : nI (ib_sz S i) + ((S >>> (nI i &&& 31)) &&& 1) = nI (ib_sz S (i + 1)) := by
  rw [ib_bit S hi, ib_sz]
  cases bt S i
  · rw [if_neg (by decide), if_neg (by decide), Int32.add_zero]
  · rw [if_pos rfl, if_pos rfl, nI_1]
theorem ib_sub {S T : Int32} : S &&& (T ^^^ (-1)) = 0 ↔ ∀ j, j < 32 → bt S j = true → bt T j = true := by
  rw [ib_z]
  constructor
  · intro h j hj hs
    have t := h j hj
    rw [b_and, ib_not _ hj, hs, Bool.true_and] at t
    cases ht : bt T j
    · rw [ht] at t; exact nomatch t
    · rfl
  · intro h j hj
    rw [b_and, ib_not _ hj]
    cases hs : bt S j
    · rfl
    · rw [h j hj hs]; rfl
/-- within T: what S meets of M it meets of M and T -/
theorem ib_subM {S T M : Int32} (h : S &&& (T ^^^ (-1)) = 0) : S &&& (M &&& T) = M &&& S := by
  rw [ib_sub] at h
  apply b_ext
  intro j hj
  rw [b_and, b_and, b_and]
  cases hs : bt S j
  · rw [Bool.and_false]; rfl
  · rw [h j hj hs, Bool.and_true, Bool.true_and]
/-- a mask of bits below 6 alone is a number below 64 -/
theorem ib_b63 : ∀ j, j < 32 → bt 63 j = decide (j < 6) := by decide +kernel
theorem ib_six {x : Int32} (h : ∀ j, j < 32 → bt x j = true → j < 6) : ∃ s, s < 64 ∧ x = nI s := by
  have e : x &&& 63 = x := b_ext fun j hj => by
    rw [b_and, ib_b63 j hj]
    cases hx : bt x j
    · rfl
    · rw [decide_eq_true (h j hj hx)]; rfl
  obtain ⟨s, hs, es⟩ := pk_andE x (m := 63) 6 (by decide)
  exact ⟨s, hs, e ▸ es⟩
end
section
/-! the pictures of a place: factors, values, ranges, broken limits, keeping -/
def ib_fc (f v : Int32) : Int32 := ((f >>> ((4 * v) &&& 31)) &&& 15) - 5
def ib_af (f : Int32) : Bool := decide (ib_fc f 0 ≤ 5) && (decide (ib_fc f 1 ≤ 5) && decide (ib_fc f 2 ≤ 5))
def ib_val (f : Int32) (n : Nat) : Int32 := ib_fc f 0 * ib_nm n 0 + ib_fc f 1 * ib_nm n 1 + ib_fc f 2 * ib_nm n 2
theorem ib_ring (a b c : Int32) : 0 + c + b + a = a + b + c := by
  rw [Int32.zero_add, Int32.add_comm (c + b) a, Int32.add_comm c b, ← Int32.add_assoc]
theorem ib_valX (f : Int32) (n : Nat) : 0 + ib_fc f 2 * ib_nm n 2 + ib_fc f 1 * ib_nm n 1 + ib_fc f 0 * ib_nm n 0 = ib_val f n := ib_ring _ _ _
theorem ib_valG (f : Int32) {n : Nat} (hn : n < 4913) : -10000 ≤ ib_val f n := by
  have p : ∀ (v : Int32) (w : Nat), -120 ≤ (ib_fc f v * ib_nm n w).toInt ∧ (ib_fc f v * ib_nm n w).toInt ≤ 120 := by
    intro v w
    obtain ⟨a, ha, ea⟩ := pk_andE (f >>> ((4 * v) &&& 31)) (m := 15) 4 (by decide)
    unfold ib_fc ib_nm
    rw [ea]
    exact ib_prod a ha _ (ib_dgL hn w)
  exact ib_sum3 (p 0 0) (p 1 1) (p 2 2)
theorem ib_afT {f : Int32} (h0 : ib_fc f 0 ≤ 5) (h1 : ib_fc f 1 ≤ 5) (h2 : ib_fc f 2 ≤ 5) : ib_af f = true := by
  unfold ib_af; rw [decide_eq_true h0, decide_eq_true h1, decide_eq_true h2]; rfl
theorem ib_afF0 {f : Int32} (h : ¬ ib_fc f 0 ≤ 5) : ib_af f = false := by unfold ib_af; rw [decide_eq_false h]; rfl
theorem ib_afF1 {f : Int32} (h : ¬ ib_fc f 1 ≤ 5) : ib_af f = false := by unfold ib_af; rw [decide_eq_false h, Bool.false_and, Bool.and_false]
theorem ib_afF2 {f : Int32} (h : ¬ ib_fc f 2 ≤ 5) : ib_af f = false := by unfold ib_af; rw [decide_eq_false h, Bool.and_false, Bool.and_false]
def ib_in (lo hi : Nat → Int32) (n v : Nat) : Bool := !decide (ib_nm n v < lo v) && decide (ib_nm n v ≤ hi v)
def ib_inr (lo hi : Nat → Int32) (n : Nat) : Bool := ib_in lo hi n 0 && (ib_in lo hi n 1 && ib_in lo hi n 2)
def ib_brk (fa bo : Nat → Int32) (n i : Nat) : Bool := !decide (ib_val (fa i) n ≤ bo i)
def ib_mk (fa bo : Nat → Int32) (m n : Nat) : Int32 := ib_msk (ib_brk fa bo n) m
def ib_kp (lo hi fa bo : Nat → Int32) (m : Nat) (S : Int32) (n : Nat) : Bool := ib_inr lo hi n && decide (ib_mk fa bo m n &&& S = 0)
section
variable {lo hi fa bo : Nat → Int32} {m n : Nat} {S : Int32}
theorem ib_inT {v : Nat} (h1 : ¬ ib_nm n v < lo v) (h2 : ib_nm n v ≤ hi v) : ib_in lo hi n v = true := by
  unfold ib_in; rw [decide_eq_false h1, decide_eq_true h2]; rfl
theorem ib_inF1 {v : Nat} (h1 : ib_nm n v < lo v) : ib_in lo hi n v = false := by
  unfold ib_in; rw [decide_eq_true h1]; rfl
theorem ib_inF2 {v : Nat} (h2 : ¬ ib_nm n v ≤ hi v) : ib_in lo hi n v = false := by
  unfold ib_in; rw [decide_eq_false h2, Bool.and_false]
theorem ib_inrT (h : ∀ v, v < 3 → ib_in lo hi n v = true) : ib_inr lo hi n = true := by
  unfold ib_inr; rw [h 0 (by omega), h 1 (by omega), h 2 (by omega)]; rfl
theorem ib_inrF {v : Nat} (hv : v < 3) (h : ib_in lo hi n v = false) : ib_inr lo hi n = false := by
  unfold ib_inr
  rcases (show v = 0 ∨ v = 1 ∨ v = 2 by omega) with z | z | z <;> subst z <;> rw [h]
  · rfl
  · rw [Bool.false_and, Bool.and_false]
  · rw [Bool.and_false, Bool.and_false]
theorem ib_brkT {i : Nat} (h : ¬ ib_val (fa i) n ≤ bo i) : ib_brk fa bo n i = true := by unfold ib_brk; rw [decide_eq_false h]; rfl
theorem ib_brkF {i : Nat} (h : ib_val (fa i) n ≤ bo i) : ib_brk fa bo n i = false := by unfold ib_brk; rw [decide_eq_true h]; rfl
theorem ib_kpF1 (h : ib_inr lo hi n = false) : ib_kp lo hi fa bo m S n = false := by unfold ib_kp; rw [h]; rfl
theorem ib_kpT (h : ib_inr lo hi n = true) (h2 : ib_mk fa bo m n &&& S = 0) : ib_kp lo hi fa bo m S n = true := by
  unfold ib_kp; rw [h, decide_eq_true h2]; rfl
theorem ib_kpF2 (h2 : ¬ ib_mk fa bo m n &&& S = 0) : ib_kp lo hi fa bo m S n = false := by
  unfold ib_kp; rw [decide_eq_false h2, Bool.and_false]
theorem ib_kpTi (hm : m ≤ 6) (h : ib_inr lo hi n = true) (h2 : ∀ i, i < m → bt S i = true → ib_brk fa bo n i = false) : ib_kp lo hi fa bo m S n = true :=
  ib_kpT h ((ib_mskZ _ m (by omega) S).mpr h2)
theorem ib_kpFi (hm : m ≤ 6) {i : Nat} (him : i < m) (hb : bt S i = true) (h : ib_brk fa bo n i = true) : ib_kp lo hi fa bo m S n = false :=
  ib_kpF2 fun z => by
    have t := (ib_mskZ _ m (by omega) S).mp z i him hb
    rw [h] at t
    exact nomatch t
theorem ib_mk6 (hm : m ≤ 6) : ∀ j, j < 32 → bt (ib_mk fa bo m n) j = true → j < 6 := by
  intro j hj h
  unfold ib_mk at h
  rw [ib_mskB _ m (by omega) j hj, Bool.and_eq_true, decide_eq_true_iff] at h
  omega
theorem ib_mkS (hm : m ≤ 6) (T : Int32) : ∃ s, s < 64 ∧ ib_mk fa bo m n &&& T = nI s := by
  refine ib_six fun j hj h => ?_
  rw [b_and, Bool.and_eq_true] at h
  exact ib_mk6 hm j hj h.1
end
theorem ib_on6 (on : Nat → Int32) {m : Nat} (hm : m ≤ 6) : ∃ s, s < 64 ∧ ib_msk (ib_on on) m = nI s := by
  refine ib_six fun j hj h => ?_
  rw [ib_mskB _ m (by omega) j hj, Bool.and_eq_true, decide_eq_true_iff] at h
  omega
/-! counts and folds -/
def ib_ct (p : Nat → Bool) : Nat → Nat
  | 0 => 0
  | n + 1 => if p n = true then ib_ct p n + 1 else ib_ct p n
theorem ib_ctT {p : Nat → Bool} {n : Nat} (h : p n = true) : nI (ib_ct p n) + 1 = nI (ib_ct p (n + 1)) := by
  rw [ib_ct, if_pos h, nI_1]
theorem ib_ctF {p : Nat → Bool} {n : Nat} (h : p n = false) : ib_ct p n = ib_ct p (n + 1) := by
  rw [ib_ct, h, if_neg (by decide)]
/-- the mask of the numbers seen -/
def ib_sn (p : Nat → Bool) (v : Nat) (n : Nat) (g : Int32) : Int32 := if p n = true then g ||| ((1 : Int32) <<< ((ib_nm n v + 8) &&& 31)) else g
theorem ib_m8 (x : Int32) : x - (-8) = x + 8 := Int32.sub_neg
theorem ib_p8 (x : Int32) : x + (-8) = x - 8 := (Int32.sub_eq_add_neg x 8).symm
/-! core: the long of broken sets, and the good sets -/
theorem ib_lb0 (s : Nat) : ib_lb 0 s = false := BitVec.getLsbD_zero
theorem ib_lb1 (w : Int64) : w &&& 1 = 0 ↔ ib_lb w 0 = false := by
  have e : w >>> ((nI 0).toInt64 &&& 63) = w := by
    apply Int64.toBitVec_inj.mp
    show w.toBitVec.sshiftRight (((nI 0).toInt64 &&& 63).toBitVec.smod 64).toNat = _
    rw [ib_lsm 0 (by omega), BitVec.sshiftRight_zero]
  have t := ib_lbit w (k := 0) (by omega)
  rw [e] at t
  exact t
def ib_Wst (inr : Nat → Bool) (mk : Nat → Int32) (T : Int32) (n : Nat) (w : Int64) : Int64 := if inr n = true then w ||| ((1 : Int64) <<< ((mk n &&& T).toInt64 &&& 63)) else w
section
variable {inr : Nat → Bool} {mk : Nat → Int32} {T : Int32}
theorem ib_Wb (hm : ∀ n, ∃ s, s < 64 ∧ mk n &&& T = nI s) : ∀ k s, s < 64 → (ib_lb (ib_fd (ib_Wst inr mk T) 0 k) s = true ↔ ∃ n, n < k ∧ inr n = true ∧ mk n &&& T = nI s) := by
  intro k
  induction k with
  | zero =>
    intro s _
    constructor
    · intro h
      rw [show ib_fd (ib_Wst inr mk T) 0 0 = 0 from rfl, ib_lb0] at h
      exact nomatch h
    · rintro ⟨n, hn, _⟩
      exact absurd hn (Nat.not_lt_zero n)
  | succ k ih =>
    intro s hs
    show ib_lb (ib_Wst inr mk T k (ib_fd (ib_Wst inr mk T) 0 k)) s = true ↔ _
    have ih' := ih s hs
    generalize ib_fd (ib_Wst inr mk T) 0 k = w at ih' ⊢
    unfold ib_Wst
    cases hk : inr k
    · rw [if_neg (by decide), ih']
      constructor
      · rintro ⟨n, a, b⟩
        exact ⟨n, by omega, b⟩
      · rintro ⟨n, a, b, c⟩
        have z : n ≠ k := fun z => by rw [z, hk] at b; exact nomatch b
        exact ⟨n, by omega, b, c⟩
    · rw [if_pos rfl]
      obtain ⟨q, hq, eq⟩ := hm k
      rw [eq, ib_lor _ hq hs, Bool.or_eq_true, ih', decide_eq_true_iff]
      constructor
      · rintro (⟨n, a, b⟩ | z)
        · exact ⟨n, by omega, b⟩
        · exact ⟨k, by omega, hk, by rw [eq, z]⟩
      · rintro ⟨n, a, b, c⟩
        by_cases z : n = k
        · right
          rw [z, eq] at c
          exact (nI_eq (by omega) (by omega)).mp c
        · left
          exact ⟨n, by omega, b, c⟩
/-- a set within T meets every broken set just when no place keeps it -/
theorem ib_good (hm : ∀ n, ∃ s, s < 64 ∧ mk n &&& T = nI s) (K : Nat) {S : Int32} (hS : S &&& (T ^^^ (-1)) = 0) : (∀ s, s < 64 → ib_lb (ib_fd (ib_Wst inr mk T) 0 K) s = true → ¬ S &&& nI s = 0) ↔ ∀ n, n < K → (inr n && decide (mk n &&& S = 0)) = false := by
  constructor
  · intro h n hn
    cases hi : inr n
    · rfl
    · obtain ⟨q, hq, eq⟩ := hm n
      have t := h q hq ((ib_Wb hm K q hq).mpr ⟨n, hn, hi, eq⟩)
      rw [← eq, ib_subM hS] at t
      rw [Bool.true_and]
      exact decide_eq_false t
  · intro h s hs hb z
    obtain ⟨n, hn, hi, e⟩ := (ib_Wb hm K s hs).mp hb
    have t := h n hn
    rw [← e, ib_subM hS] at z
    rw [hi, z] at t
    exact nomatch t
theorem ib_self : T &&& (T ^^^ (-1)) = 0 := ib_sub.mpr fun _ _ h => h
/-- bit 0 is set: the place that breaks nothing keeps every set within T -/
theorem ib_bitT (hm : ∀ n, ∃ s, s < 64 ∧ mk n &&& T = nI s) (K : Nat) (h0 : ib_lb (ib_fd (ib_Wst inr mk T) 0 K) 0 = true) {S : Int32} (hS : S &&& (T ^^^ (-1)) = 0) : ¬ ∀ n, n < K → (inr n && decide (mk n &&& S = 0)) = false := by
  intro h
  exact (ib_good hm K hS).mpr h 0 (by omega) h0 (by rw [nI_0]; exact Int32.and_zero)
/-- bit 0 is not set: T itself is a good set -/
theorem ib_bitF (hm : ∀ n, ∃ s, s < 64 ∧ mk n &&& T = nI s) (K : Nat) (h0 : ib_lb (ib_fd (ib_Wst inr mk T) 0 K) 0 = false) : ∀ n, n < K → (inr n && decide (mk n &&& T = 0)) = false := by
  refine (ib_good hm K ib_self).mp fun s hs hb z => ?_
  obtain ⟨n, hn, hi, e⟩ := (ib_Wb hm K s hs).mp hb
  rw [← e, ib_subM ib_self] at z
  have t := (ib_Wb hm K 0 (by omega)).mpr ⟨n, hn, hi, by rw [z, nI_0]⟩
  rw [h0] at t
  exact nomatch t
end
/-! the two searches for the least size -/
def ib_XI (G : Nat → Prop) (sz : Nat → Nat) (i y : Nat) : Prop := (∃ t, t < 64 ∧ G t ∧ sz t = y) ∧ ∀ t, t < i → G t → y ≤ sz t
def ib_YI (G : Nat → Prop) (sz : Nat → Nat) (i : Nat) (a : Int32) : Prop := (a = -10000 ∧ ∀ t, t < i → ¬ G t) ∨ ∃ y, a = nI y ∧ y ≤ 6 ∧ ib_Least G sz i y
section
variable {G : Nat → Prop} {sz : Nat → Nat} {i : Nat}
theorem ib_XIt {y : Nat} (I : ib_XI G sz i y) (g : G i) (hi : i < 64) (h : sz i < y) : ib_XI G sz (i + 1) (sz i) := by
  refine ⟨⟨i, hi, g, rfl⟩, fun t ht gt => ?_⟩
  rcases Nat.lt_or_ge t i with z | z
  · have := I.2 t z gt; omega
  · rw [show t = i by omega]; exact Nat.le_refl _
theorem ib_XIn {y : Nat} (I : ib_XI G sz i y) (h : G i → y ≤ sz i) : ib_XI G sz (i + 1) y := by
  refine ⟨I.1, fun t ht gt => ?_⟩
  rcases Nat.lt_or_ge t i with z | z
  · exact I.2 t z gt
  · have e : t = i := by omega
    rw [e] at gt ⊢
    exact h gt
theorem ib_YI0 : ib_YI G sz 0 (-10000) := Or.inl ⟨rfl, fun t ht => absurd ht (Nat.not_lt_zero t)⟩
theorem ib_YIt {a : Int32} (I : ib_YI G sz i a) (g : G i) (h6 : sz i ≤ 6) (h : ∀ y, a = nI y → y ≤ 6 → sz i < y) : ib_YI G sz (i + 1) (nI (sz i)) := by
  refine Or.inr ⟨sz i, rfl, h6, ⟨i, by omega, g, rfl⟩, fun t ht gt => ?_⟩
  rcases Nat.lt_or_ge t i with z | z
  · rcases I with ⟨_, n⟩ | ⟨y, ea, hy, L⟩
    · exact absurd gt (n t z)
    · have h1 := h y ea hy
      have h2 := L.2 t z gt
      omega
  · rw [show t = i by omega]; exact Nat.le_refl _
theorem ib_YIn {a : Int32} (I : ib_YI G sz i a) (h : G i → ∃ y, a = nI y ∧ y ≤ 6 ∧ y ≤ sz i) : ib_YI G sz (i + 1) a := by
  rcases I with ⟨ea, n⟩ | ⟨y, ea, hy, L⟩
  · refine Or.inl ⟨ea, fun t ht gt => ?_⟩
    rcases Nat.lt_or_ge t i with z | z
    · exact n t z gt
    · have e : t = i := by omega
      rw [e] at gt
      obtain ⟨y, ey, hy, _⟩ := h gt
      rw [ea] at ey
      have t1 : ∀ y, y ≤ 6 → ¬ (-10000 : Int32) = nI y := by decide +kernel
      exact t1 y hy ey
  · obtain ⟨⟨t, ht, gt, et⟩, hl⟩ := L
    refine Or.inr ⟨y, ea, hy, ⟨t, by omega, gt, et⟩, fun r hr gr => ?_⟩
    rcases Nat.lt_or_ge r i with z | z
    · exact hl r z gr
    · have e : r = i := by omega
      rw [e] at gr ⊢
      obtain ⟨y', ey, hy', h2⟩ := h gr
      have : y = y' := (nI_eq (by omega) (by omega)).mp (ea.symm.trans ey)
      omega
theorem ib_fin {y : Nat} {a : Int32} (X : ib_XI G sz 64 y) (Y : ib_YI G sz 64 a) : a = nI y := by
  rcases Y with ⟨_, n⟩ | ⟨z, ez, _, L⟩
  · obtain ⟨t, ht, g, _⟩ := X.1
    exact absurd g (n t ht)
  · rw [ez, ib_LeastU L X]
theorem ib_fin0 {a : Int32} (h : ∀ t, t < 64 → ¬ G t) (Y : ib_YI G sz 64 a) : a = -10000 := by
  rcases Y with ⟨e, _⟩ | ⟨z, _, _, L⟩
  · exact e
  · obtain ⟨t, ht, g, _⟩ := L.1
    exact absurd g (h t ht)
end
/-! the first point, and follows -/
theorem ib_fst {p : Nat → Bool} {a b : Nat} (ha : p a = true) (ma : ∀ j, j < a → p j = false) (hb : p b = true) (mb : ∀ j, j < b → p j = false) : a = b := by
  rcases Nat.lt_trichotomy a b with h | h | h
  · have := mb a h; rw [ha] at this; exact nomatch this
  · exact h
  · have := ma b h; rw [hb] at this; exact nomatch this
theorem ib_fol (p : Nat → Bool) (f d : Int32) {n : Nat} (hn : n < 4913) (hp : p n = true) : ib_fd (ib_gst p (ib_val f)) (-10000) 4913 ≤ d ↔ ∀ n, n < 4913 → p n = true → ib_val f n ≤ d := by
  rw [ib_gr]
  exact ⟨fun h => h.2, fun h => ⟨Int32.le_trans (ib_valG f hn) (h n hn hp), h⟩⟩
end
section
/-! the component's private methods against the pictures -/
theorem ib_in3 {v : Nat} (h : v < 3) : vp_in (nI v) 3 := vp_in_nI h (by decide)
theorem ib_in6 {v : Nat} (h : v < 6) : vp_in (nI v) 6 := vp_in_nI h (by decide)
theorem ib_17 : ¬ (17 : Int32) = 0 := by decide
theorem ib_r17 {r : Nat} (hr : r < 4913) : nI r - nI r / 17 * 17 = nI (r % 17) := pk_rem (a := r) (d := 17) (by omega) (by omega) (by omega)
theorem ib_d17 {r : Nat} (hr : r < 4913) : nI r / 17 = nI (r / 17) := pk_div (a := r) (d := 17) (by omega) (by omega) (by omega)
theorem ib_d289 {r : Nat} (hr : r < 4913) : nI r / 289 = nI (r / 289) := pk_div (a := r) (d := 289) (by omega) (by omega) (by omega)
theorem ib_nm2 (n : Nat) : ib_nm n 2 = nI (n % 17) - 8 := rfl
theorem ib_nm1 (n : Nat) : ib_nm n 1 = nI (n / 17 % 17) - 8 := rfl
theorem ib_nm0 (n : Nat) : ib_nm n 0 = nI (n / 289) - 8 := rfl
theorem ib_nm0' {n : Nat} (hn : n < 4913) : ib_nm n 0 = nI (n / 17 / 17 % 17) - 8 := by
  rw [ib_nm0, show n / 17 / 17 % 17 = n / 289 by omega]
section
variable {lo hi fa bo : Nat → Int32} {m n : Nat} {L S : Int32} {post : Int32 → Prop}
theorem ib_xFac {f v : Int32} (h : post (ib_fc f v)) : wpX_factorOf post f v := h
theorem ib_xVarF {v : Int32} (h : v < 0 ∨ nI 3 ≤ v) (hp : post 0) : wpX_isVariable post v := by
  unfold wpX_isVariable
  rcases h with h | h
  · exact br_t h hp
  · exact br_f (by rw [Int32.not_lt]; exact Int32.le_trans (by decide) h) (br_t h hp)
theorem ib_xVarT {j : Nat} (h : j < 3) (hp : post 1) : wpX_isVariable post (nI j) := by
  unfold wpX_isVariable
  exact br_f (nI_pos (by omega)) (br_f (nI_ge (b := 3) h (by decide)) hp)
theorem ib_xLimF {v : Int32} (h : v < 0 ∨ L ≤ v) (h0 : 0 ≤ L) (hp : post 0) : wpX_isLimit post (L, S, lo, hi, fa, bo) v := by
  unfold wpX_isLimit
  rcases h with h | h
  · exact br_t h hp
  · exact br_f (by rw [Int32.not_lt]; exact Int32.le_trans h0 h) (br_t h hp)
theorem ib_xLimT {j : Nat} (h : j < m) (hm : m ≤ 6) (hp : post 1) : wpX_isLimit post (nI m, S, lo, hi, fa, bo) (nI j) := by
  unfold wpX_isLimit
  exact br_f (nI_pos (by omega)) (br_f (nI_ge h (by omega)) hp)
theorem ib_xBdT {d : Int32} (h : -100 ≤ d ∧ d ≤ 100) (hp : post 1) : wpX_isBound post d := by
  unfold wpX_isBound
  exact br_f (by rw [Int32.not_lt]; exact h.1) (br_f (by rw [Int32.not_lt]; exact h.2) hp)
theorem ib_xBdF {d : Int32} (h : ¬ (-100 ≤ d ∧ d ≤ 100)) (hp : post 0) : wpX_isBound post d := by
  unfold wpX_isBound
  by_cases z : d < -100
  · exact br_t z hp
  · exact br_f z (br_t (by rw [Int32.not_lt] at z; rw [← Int32.not_le]; exact fun y => h ⟨z, y⟩) hp)
/-- ranges: one digit -/
theorem ib_xInrS {k r v : Nat} (hr : r < 4913) (hv : v < 3) (e : ib_nm n v = nI (r % 17) - 8) (hF : ib_in lo hi n v = false → post 0) (hT : ib_in lo hi n v = true → wX_isInRanges_4 post L S lo hi fa bo k (nI (r / 17)) (nI v + (-1))) : wX_isInRanges_4 post L S lo hi fa bo (k + 1) (nI r) (nI v) := by
  have ex : (nI r - nI r / 17 * 17) + (-8) = ib_nm n v := by rw [ib_r17 hr, ib_p8, e]
  have ec : (nI v).toNatClampNeg = v := nI_clamp (by omega)
  refine br_f (nI_pos (by omega)) ⟨ib_17, nm_r ex ⟨ib_in3 hv, ?_⟩⟩
  rw [ec]
  refine br_c (fun a => hF (ib_inF1 a)) (fun a => ⟨ib_in3 hv, br_c (fun b => ⟨ib_17, nm_r (ib_d17 hr) (nm_e (hT (ib_inT a b)))⟩) (fun b => hF (ib_inF2 b))⟩)
theorem ib_xInr (hn : n < 4913) (h1 : ib_inr lo hi n = true → post 1) (h0 : ib_inr lo hi n = false → post 0) : wpX_isInRanges post (L, S, lo, hi, fa, bo) (nI n) := by
  refine ⟨4, ?_⟩
  refine ib_xInrS (v := 2) hn (by omega) (ib_nm2 n) (fun z => h0 (ib_inrF (by omega) z)) fun z2 => ?_
  refine ib_xInrS (v := 1) (by omega) (by omega) (ib_nm1 n) (fun z => h0 (ib_inrF (by omega) z)) fun z1 => ?_
  refine ib_xInrS (v := 0) (by omega) (by omega) (ib_nm0' hn) (fun z => h0 (ib_inrF (by omega) z)) fun z0 => ?_
  refine br_t (by decide) (h1 (ib_inrT fun v hv => ?_))
  rcases (show v = 0 ∨ v = 1 ∨ v = 2 by omega) with z | z | z <;> subst z
  · exact z0
  · exact z1
  · exact z2
/-- a sum: one digit -/
theorem ib_xSumS {f s : Int32} {k r v : Nat} (hr : r < 4913) (hv : v < 3) (e : ib_nm n v = nI (r % 17) - 8) (hT : wX_sumAt_7 post f k (nI (r / 17)) (s + ib_fc f (nI v) * ib_nm n v) (nI v + (-1))) : wX_sumAt_7 post f (k + 1) (nI r) s (nI v) := by
  have ex : (nI r - nI r / 17 * 17) + (-8) = ib_nm n v := by rw [ib_r17 hr, ib_p8, e]
  refine br_f (nI_pos (by omega)) (ib_xFac ⟨ib_17, ?_⟩)
  rw [ex]
  exact nm_e ⟨ib_17, nm_r (ib_d17 hr) (nm_e hT)⟩
theorem ib_xSum {f : Int32} (hn : n < 4913) (h : post (ib_val f n)) : wpX_sumAt post (nI n) f := by
  refine ⟨4, ?_⟩
  refine ib_xSumS (v := 2) hn (by omega) (ib_nm2 n) ?_
  refine ib_xSumS (v := 1) (by omega) (by omega) (ib_nm1 n) ?_
  refine ib_xSumS (v := 0) (by omega) (by omega) (ib_nm0' hn) ?_
  refine br_t (by decide) ?_
  have t := ib_valX f n
  exact t ▸ h
/-- the number of a variable at a place -/
theorem ib_xNum {v : Nat} (hn : n < 4913) (hv : v < 3) (h : post (ib_nm n v)) : wpX_numberAt post (nI n) (nI v) := by
  refine ⟨4, ?_⟩
  rcases (show v = 0 ∨ v = 1 ∨ v = 2 by omega) with z | z | z <;> subst z
  · refine br_f (by decide) ⟨ib_17, nm_r (ib_d17 hn) (nm_e ?_)⟩
    refine br_f (by decide) ⟨ib_17, nm_r (ib_d17 (by omega)) (nm_e ?_)⟩
    refine br_t (by decide) ⟨ib_17, ?_⟩
    rw [ib_r17 (by omega), ib_p8, ← ib_nm0' hn]
    exact h
  · refine br_f (by decide) ⟨ib_17, nm_r (ib_d17 hn) (nm_e ?_)⟩
    refine br_t (by decide) ⟨ib_17, ?_⟩
    rw [ib_r17 (by omega), ib_p8, ← ib_nm1]
    exact h
  · refine br_t (by decide) ⟨ib_17, ?_⟩
    rw [ib_r17 (by omega), ib_p8, ← ib_nm2]
    exact h
/-- the factors -/
theorem ib_xAf {f : Int32} (h1 : ib_af f = true → post 1) (h0 : ib_af f = false → post 0) : wpX_areFactors post f := by
  refine ⟨4, ?_⟩
  refine br_f (by decide) (ib_xFac (br_c (fun a0 => nm_r (e' := 1) (by decide) ?_) (fun a => h0 (ib_afF0 a))))
  refine br_f (by decide) (ib_xFac (br_c (fun a1 => nm_r (e' := 2) (by decide) ?_) (fun a => h0 (ib_afF1 a))))
  refine br_f (by decide) (ib_xFac (br_c (fun a2 => nm_r (e' := 3) (by decide) ?_) (fun a => h0 (ib_afF2 a))))
  exact br_t (by decide) (h1 (ib_afT a0 a1 a2))
/-- the mask of the broken limits -/
theorem ib_xBrk (hm : m ≤ 6) (hn : n < 4913) (h : post (ib_mk fa bo m n)) : wpX_brokenAt post (nI m, S, lo, hi, fa, bo) (nI n) := by
  refine loop_0 (fun k i (s : Int32) => wX_brokenAt_4 post (nI n) (nI m) S lo hi fa bo k s (nI i)) (fun i s => s = ib_msk (ib_brk fa bo n) i) m 0 rfl ?_ ?_
  · intro k s e
    subst e
    exact br_t (nI_le (Nat.le_refl m) (by omega)) h
  · intro k i s hi e K
    subst e
    have ec : (nI i).toNatClampNeg = i := nI_clamp (by omega)
    refine br_f (nI_ge hi (by omega)) (br_f (nI_ge (b := 6) (by omega) (by decide)) ⟨ib_in6 (by omega), ib_xSum hn ⟨ib_in6 (by omega), ?_⟩⟩)
    rw [ec]
    refine br_c (fun a => nm_r (nI_1 i) (K _ ?_)) (fun a => nm_e (nm_r (nI_1 i) (K _ ?_)))
    · rw [ib_msk, ib_brkF a, if_neg (by decide)]
    · rw [ib_msk, ib_brkT a, if_pos rfl]
/-- a point -/
theorem ib_xPt (hm : m ≤ 6) (hn : n < 4913) (h1 : ib_kp lo hi fa bo m S n = true → post 1) (h0 : ib_kp lo hi fa bo m S n = false → post 0) : wpX_isPoint post (nI m, S, lo, hi, fa, bo) (nI n) := by
  unfold wpX_isPoint
  dsimp only
  refine ib_xInr hn (fun a => br_f (by decide) (ib_xBrk hm hn (br_c (fun b => h1 (ib_kpT a b)) (fun b => h0 (ib_kpF2 b))))) (fun a => br_t rfl (h0 (ib_kpF1 a)))
/-- the size of a set -/
theorem ib_xSz {T : Int32} (h : post (nI (ib_sz T 6))) : wpX_sizeOf post T := by
  refine loop_0 (fun k i (s : Int32) => wX_sizeOf_4 post T k s (nI i)) (fun i s => s = nI (ib_sz T i)) 6 0 rfl ?_ ?_
  · intro k s e
    subst e
    exact br_t (by decide) h
  · intro k i s hi e K
    subst e
    exact br_f (nI_ge (b := 6) hi (by decide)) (nm_r (ib_szS T (by omega)) (nm_r (nI_1 i) (K _ rfl)))
end
end
section
/-! the component's walks over the places -/
theorem ib_gstT {p : Nat → Bool} {w : Nat → Int32} {n : Nat} {g : Int32} (h : p n = true) (a : ¬ w n ≤ g) : ib_gst p w n g = w n := by unfold ib_gst; rw [if_pos h, if_neg a]
theorem ib_gstN {p : Nat → Bool} {w : Nat → Int32} {n : Nat} {g : Int32} (h : p n = true) (a : w n ≤ g) : ib_gst p w n g = g := by unfold ib_gst; rw [if_pos h, if_pos a]
theorem ib_gstF {p : Nat → Bool} {w : Nat → Int32} {n : Nat} {g : Int32} (h : p n = false) : ib_gst p w n g = g := by unfold ib_gst; rw [h, if_neg (by decide)]
theorem ib_snT {p : Nat → Bool} {v n : Nat} {g : Int32} (h : p n = true) : ib_sn p v n g = g ||| ((1 : Int32) <<< ((ib_nm n v + 8) &&& 31)) := by unfold ib_sn; rw [if_pos h]
theorem ib_snF {p : Nat → Bool} {v n : Nat} {g : Int32} (h : p n = false) : ib_sn p v n g = g := by unfold ib_sn; rw [h, if_neg (by decide)]
theorem ib_WstT {inr : Nat → Bool} {mk : Nat → Int32} {T : Int32} {n : Nat} {w : Int64} (h : inr n = true) : ib_Wst inr mk T n w = w ||| ((1 : Int64) <<< ((mk n &&& T).toInt64 &&& 63)) := by unfold ib_Wst; rw [if_pos h]
theorem ib_WstF {inr : Nat → Bool} {mk : Nat → Int32} {T : Int32} {n : Nat} {w : Int64} (h : inr n = false) : ib_Wst inr mk T n w = w := by unfold ib_Wst; rw [h, if_neg (by decide)]
theorem ib_pl {i : Nat} (h : i < 4913) : ¬ (4913 : Int32) ≤ nI i := nI_ge (b := 4913) h (by decide)
theorem ib_plE : (4913 : Int32) ≤ nI 4913 := Int32.le_refl _
/-- the points of a limit's rim -/
def ib_rim (p : Nat → Bool) (f d : Int32) (n : Nat) : Bool := p n && decide (ib_val f n = d)
theorem ib_rimT {p : Nat → Bool} {f d : Int32} {n : Nat} (h : p n = true) (a : ib_val f n = d) : ib_rim p f d n = true := by unfold ib_rim; rw [h, decide_eq_true a]; rfl
theorem ib_rimF {p : Nat → Bool} {f d : Int32} {n : Nat} (h : p n = false) : ib_rim p f d n = false := by unfold ib_rim; rw [h]; rfl
theorem ib_rimN {p : Nat → Bool} {f d : Int32} {n : Nat} (a : ¬ ib_val f n = d) : ib_rim p f d n = false := by unfold ib_rim; rw [decide_eq_false a, Bool.and_false]
section
variable {lo hi' fa bo : Nat → Int32} {m : Nat} {S : Int32} {post : Int32 → Prop}
theorem ib_xCnt {T : Int32} (hm : m ≤ 6) (h : post (nI (ib_ct (ib_kp lo hi' fa bo m T) 4913))) : wpX_countKeeping post (nI m, S, lo, hi', fa, bo) T := by
  refine loop_0 (fun k i (s : Int32) => wX_countKeeping_4 post T (nI m) S lo hi' fa bo k s (nI i)) (fun i s => s = nI (ib_ct (ib_kp lo hi' fa bo m T) i)) 4913 0 rfl ?_ ?_
  · intro k s e
    subst e
    exact br_t ib_plE h
  · intro k i s hi e K
    subst e
    refine br_f (ib_pl hi) (ib_xInr hi (fun a => br_f (by decide) (ib_xBrk hm hi (br_c (fun b => nm_r (ib_ctT (ib_kpT a b)) (nm_r (nI_1 i) (K _ rfl))) (fun b => nm_r (nI_1 i) (K _ (congrArg nI (ib_ctF (ib_kpF2 b)))))))) (fun a => br_t rfl (nm_r (nI_1 i) (K _ (congrArg nI (ib_ctF (ib_kpF1 a)))))))
theorem ib_xFst {v : Nat} (hm : m ≤ 6) (hv : v < 3) (h1 : ∀ n, n < 4913 → ib_kp lo hi' fa bo m S n = true → (∀ j, j < n → ib_kp lo hi' fa bo m S j = false) → post (ib_nm n v)) (h0 : (∀ n, n < 4913 → ib_kp lo hi' fa bo m S n = false) → post (-10000)) : wpX_first post (nI m, S, lo, hi', fa, bo) (nI v) := by
  unfold wpX_first
  dsimp only
  refine ib_xVarT hv (br_f (by decide) ?_)
  refine loop_0 (fun k i (_ : Unit) => wX_first_11 post (nI v) (nI m) S lo hi' fa bo k (nI i)) (fun i _ => ∀ j, j < i → ib_kp lo hi' fa bo m S j = false) 4913 () (fun j hj => absurd hj (Nat.not_lt_zero j)) ?_ ?_
  · intro k s e
    exact br_t ib_plE (h0 e)
  · intro k i s hi e K
    exact br_f (ib_pl hi) (ib_xPt hm hi (fun a => br_f (by decide) (ib_xNum hi hv (h1 i hi a e))) (fun a => br_t rfl (nm_r (nI_1 i) (K () (lt_s e a)))))
theorem ib_xGr {f : Int32} (hm : m ≤ 6) (ha : ib_af f = true) (h : post (ib_fd (ib_gst (ib_kp lo hi' fa bo m S) (ib_val f)) (-10000) 4913)) : wpX_greatest post (nI m, S, lo, hi', fa, bo) f := by
  unfold wpX_greatest
  dsimp only
  refine ib_xAf (fun _ => br_f (by decide) ?_) (fun b => nomatch ha.symm.trans b)
  refine loop_0 (fun k i (s : Int32) => wX_greatest_16 post f (nI m) S lo hi' fa bo k s (nI i)) (fun i s => s = ib_fd (ib_gst (ib_kp lo hi' fa bo m S) (ib_val f)) (-10000) i) 4913 (-10000) rfl ?_ ?_
  · intro k s e
    subst e
    exact br_t ib_plE h
  · intro k i s hi e K
    subst e
    exact br_f (ib_pl hi) (ib_xPt hm hi (fun a => br_f (by decide) (ib_xSum hi (br_c (fun b => nm_r (nI_1 i) (K _ (ib_gstN a b).symm)) (fun b => nm_r (nI_1 i) (K _ (ib_gstT a b).symm))))) (fun a => br_t rfl (nm_r (nI_1 i) (K _ (ib_gstF a).symm))))
theorem ib_xFol {f d : Int32} (hm : m ≤ 6) (ha : ib_af f = true) (h1 : (∀ n, n < 4913 → ib_kp lo hi' fa bo m S n = true → ib_val f n ≤ d) → post 1) (h0 : ∀ n, n < 4913 → ib_kp lo hi' fa bo m S n = true → ¬ ib_val f n ≤ d → post 0) : wpX_follows post (nI m, S, lo, hi', fa, bo) f d := by
  unfold wpX_follows
  dsimp only
  refine ib_xAf (fun _ => br_f (by decide) ?_) (fun b => nomatch ha.symm.trans b)
  refine loop_0 (fun k i (_ : Unit) => wX_follows_11 post f d (nI m) S lo hi' fa bo k (nI i)) (fun i _ => ∀ n, n < i → ib_kp lo hi' fa bo m S n = true → ib_val f n ≤ d) 4913 () (fun j hj => absurd hj (Nat.not_lt_zero j)) ?_ ?_
  · intro k s e
    exact br_t ib_plE (h1 e)
  · intro k i s hi e K
    refine br_f (ib_pl hi) (ib_xPt hm hi (fun a => br_f (by decide) (ib_xSum hi (br_c (fun b => nm_r (nI_1 i) (K () (lt_s e fun _ => b))) (fun b => h0 i hi a b)))) (fun a => br_t rfl (nm_r (nI_1 i) (K () (lt_s e fun c => nomatch a.symm.trans c)))))
theorem ib_xNbs {v : Nat} (hm : m ≤ 6) (hv : v < 3) (h : post (ib_fd (ib_sn (ib_kp lo hi' fa bo m S) v) 0 4913)) : wpX_numbers post (nI m, S, lo, hi', fa, bo) (nI v) := by
  unfold wpX_numbers
  dsimp only
  refine ib_xVarT hv (br_f (by decide) ?_)
  refine loop_0 (fun k i (s : Int32) => wX_numbers_13 post (nI v) (nI m) S lo hi' fa bo k s (nI i)) (fun i s => s = ib_fd (ib_sn (ib_kp lo hi' fa bo m S) v) 0 i) 4913 0 rfl ?_ ?_
  · intro k s e
    subst e
    exact br_t ib_plE h
  · intro k i s hi e K
    subst e
    refine br_f (ib_pl hi) (ib_xPt hm hi (fun a => br_f (by decide) (ib_xNum hi hv ?_)) (fun a => br_t rfl (nm_r (nI_1 i) (K _ (ib_snF a).symm))))
    rw [ib_m8]
    exact nm_r (ib_snT a).symm (nm_r (nI_1 i) (K _ rfl))
theorem ib_xTi {l : Nat} (hm : m ≤ 6) (hl : l < m) (h : post (nI (ib_ct (ib_rim (ib_kp lo hi' fa bo m S) (fa l) (bo l)) 4913))) : wpX_tight post (nI m, S, lo, hi', fa, bo) (nI l) := by
  unfold wpX_tight
  dsimp only
  have ec : (nI l).toNatClampNeg = l := nI_clamp (by omega)
  have hl6 : vp_in (nI l) 6 := ib_in6 (by omega)
  refine ib_xLimT hl hm (br_f (by decide) ?_)
  refine loop_0 (fun k i (s : Int32) => wX_tight_15 post (nI l) (nI m) S lo hi' fa bo k s (nI i)) (fun i s => s = nI (ib_ct (ib_rim (ib_kp lo hi' fa bo m S) (fa l) (bo l)) i)) 4913 0 rfl ?_ ?_
  · intro k s e
    subst e
    exact br_t ib_plE h
  · intro k i s hi e K
    subst e
    refine br_f (ib_pl hi) (ib_xPt hm hi (fun a => br_f (by decide) ⟨hl6, ib_xSum hi ⟨hl6, ?_⟩⟩) (fun a => br_t rfl (nm_r (nI_1 i) (K _ (congrArg nI (ib_ctF (ib_rimF a)))))))
    rw [ec]
    exact br_c (fun b => nm_r (ib_ctT (ib_rimT a b)) (nm_r (nI_1 i) (K _ rfl))) (fun b => nm_r (nI_1 i) (K _ (congrArg nI (ib_ctF (ib_rimN b)))))
/-! core -/
theorem ib_xBs {postL : Int64 → Prop} (hm : m ≤ 6) (h : postL (ib_fd (ib_Wst (ib_inr lo hi') (ib_mk fa bo m) S) 0 4913)) : wpX_brokenSets postL (nI m, S, lo, hi', fa, bo) := by
  refine loop_0 (fun k i (s : Int64) => wX_brokenSets_4 postL (nI m) S lo hi' fa bo k s (nI i)) (fun i s => s = ib_fd (ib_Wst (ib_inr lo hi') (ib_mk fa bo m) S) 0 i) 4913 0 rfl ?_ ?_
  · intro k s e
    subst e
    exact br_t ib_plE h
  · intro k i s hi e K
    subst e
    exact br_f (ib_pl hi) (ib_xInr hi (fun a => br_f (by decide) (ib_xBrk hm hi (nm_r (ib_WstT a).symm (nm_r (nI_1 i) (K _ rfl))))) (fun a => br_t rfl (nm_r (nI_1 i) (K _ (ib_WstF a).symm))))
theorem ib_xMeet {T : Int32} {w : Int64} (h1 : (∀ s, s < 64 → ib_lb w s = true → ¬ T &&& nI s = 0) → post 1) (h0 : (¬ ∀ s, s < 64 → ib_lb w s = true → ¬ T &&& nI s = 0) → post 0) : wpX_meetsAll post T w := by
  refine loop_0 (fun k i (_ : Unit) => wX_meetsAll_2 post T w k (nI i)) (fun i _ => ∀ s, s < i → ib_lb w s = true → ¬ T &&& nI s = 0) 64 () (fun j hj => absurd hj (Nat.not_lt_zero j)) ?_ ?_
  · intro k s e
    exact br_t (Int32.le_refl _) (h1 e)
  · intro k i s hi e K
    refine br_f (nI_ge (b := 64) hi (by decide)) (br_c (fun a => br_t rfl (nm_r (nI_1 i) (K () (lt_s e fun b => ?_)))) (fun a => br_f (by decide) (br_c (fun b => h0 fun z => ?_) (fun b => nm_r (nI_1 i) (K () (lt_s e fun _ => b))))))
    · rw [(ib_lbit w hi).mp a] at b
      exact nomatch b
    · cases c : ib_lb w i
      · exact a ((ib_lbit w hi).mpr c)
      · exact z i hi c b
def ib_G (lo hi' fa bo : Nat → Int32) (m : Nat) (S : Int32) (t : Nat) : Prop := nI t &&& (S ^^^ (-1)) = 0 ∧ ∀ n, n < 4913 → ib_kp lo hi' fa bo m (nI t) n = false
def ib_szt (t : Nat) : Nat := ib_sz (nI t) 6
theorem ib_szt6 (t : Nat) : ib_szt t ≤ 6 := ib_szL _ _
theorem ib_xCore (hm : m ≤ 6) (hS : ∃ t, t < 64 ∧ S = nI t) (h0 : ib_lb (ib_fd (ib_Wst (ib_inr lo hi') (ib_mk fa bo m) S) 0 4913) 0 = true → post (-10000)) (h1 : ∀ y, ib_XI (ib_G lo hi' fa bo m S) ib_szt 64 y → post (nI y)) : wpX_core post (nI m, S, lo, hi', fa, bo) := by
  unfold wpX_core
  dsimp only
  refine ib_xBs hm ?_
  have hk : ∀ n, ∃ s, s < 64 ∧ ib_mk fa bo m n &&& S = nI s := fun n => ib_mkS hm S
  refine br_c (fun a => ?_) (fun a => h0 ?_)
  · have b0 := (ib_lb1 _).mp a
    obtain ⟨t0, ht0, e0⟩ := hS
    refine ib_xSz ?_
    refine loop_0 (fun k i (s : Int32) => wX_core_28 post (ib_fd (ib_Wst (ib_inr lo hi') (ib_mk fa bo m) S) 0 4913) (nI m) S lo hi' fa bo k s (nI i)) (fun i s => ∃ y, s = nI y ∧ y ≤ 6 ∧ ib_XI (ib_G lo hi' fa bo m S) ib_szt i y) 64 _ ⟨ib_sz S 6, rfl, ib_szL _ _, ⟨t0, ht0, ⟨?_, ?_⟩, ?_⟩, fun t h => absurd h (Nat.not_lt_zero t)⟩ ?_ ?_
    · rw [← e0]; exact ib_self
    · rw [← e0]; exact ib_bitF hk 4913 b0
    · rw [ib_szt, ← e0]
    · rintro k s ⟨y, rfl, hy, I⟩
      exact br_t (Int32.le_refl _) (h1 y I)
    · rintro k i s hi ⟨y, rfl, hy, I⟩ K
      have h6 := ib_szt6 i
      have skip : (ib_G lo hi' fa bo m S i → y ≤ ib_szt i) → wX_core_28 post (ib_fd (ib_Wst (ib_inr lo hi') (ib_mk fa bo m) S) 0 4913) (nI m) S lo hi' fa bo k (nI y) (nI (i + 1)) := fun z => K _ ⟨y, rfl, hy, ib_XIn I z⟩
      refine br_f (nI_ge (b := 64) hi (by decide)) (br_c (fun a1 => br_f (by decide) (ib_xSz (br_c (fun a2 => nm_r (nI_1 i) (skip fun _ => ?_)) (fun a2 => ib_xMeet (fun a3 => br_f (by decide) (ib_xSz (nm_r (nI_1 i) (K _ ⟨_, rfl, h6, ib_XIt I ⟨a1, (ib_good hk 4913 a1).mp a3⟩ hi ?_⟩)))) (fun a3 => br_t rfl (nm_r (nI_1 i) (skip fun g => absurd ((ib_good hk 4913 a1).mpr g.2) a3))))))) (fun a1 => br_t rfl (nm_r (nI_1 i) (skip fun g => absurd g.1 a1))))
      · exact (nI_leI (by omega) (by omega)).mp a2
      · have := mt (nI_leI (a := y) (b := ib_szt i) (by omega) (by omega)).mpr a2
        omega
  · cases c : ib_lb (ib_fd (ib_Wst (ib_inr lo hi') (ib_mk fa bo m) S) 0 4913) 0
    · exact absurd ((ib_lb1 _).mpr c) a
    · rfl
end
end
section
/-! the reference's private methods against the pictures -/
section
variable {lo hi' fa bo on : Nat → Int32} {m n : Nat} {L S : Int32} {post : Int32 → Prop}
theorem ib_yFac {u : SY} {f v : Int32} (h : post (ib_fc f v)) : wpY_factor post u f v := h
theorem ib_yAfT {u : SY} {f : Int32} (ha : ib_af f = true) (h : post 1) : wpY_areFactors post u f := by
  obtain ⟨L, lo, hi', fa, bo, on⟩ := u
  unfold ib_af at ha
  rw [Bool.and_eq_true, Bool.and_eq_true, decide_eq_true_iff, decide_eq_true_iff, decide_eq_true_iff] at ha
  unfold wpY_areFactors
  dsimp only
  exact ib_yFac (br_f (Int32.not_lt.mpr ha.1) (ib_yFac (br_f (Int32.not_lt.mpr ha.2.1) (ib_yFac (br_f (Int32.not_lt.mpr ha.2.2) h)))))
theorem ib_yAfF {u : SY} {f : Int32} (ha : ib_af f = false) (h : post 0) : wpY_areFactors post u f := by
  obtain ⟨L, lo, hi', fa, bo, on⟩ := u
  unfold wpY_areFactors
  dsimp only
  refine ib_yFac (br_c (fun _ => h) (fun a => ib_yFac (br_c (fun _ => h) (fun b => ib_yFac (br_c (fun _ => h) (fun c => ?_))))))
  exact nomatch (ib_afT (Int32.not_lt.mp a) (Int32.not_lt.mp b) (Int32.not_lt.mp c)).symm.trans ha
theorem ib_yBdT {u : SY} {d : Int32} (h : -100 ≤ d ∧ d ≤ 100) (hp : post 1) : wpY_isNumber post u d := by
  obtain ⟨L, lo, hi', fa, bo, on⟩ := u
  unfold wpY_isNumber
  exact br_f (by rw [Int32.not_lt]; exact h.1) (br_f (by rw [Int32.not_lt]; exact h.2) hp)
theorem ib_yBdF {u : SY} {d : Int32} (h : ¬ (-100 ≤ d ∧ d ≤ 100)) (hp : post 0) : wpY_isNumber post u d := by
  obtain ⟨L, lo, hi', fa, bo, on⟩ := u
  unfold wpY_isNumber
  by_cases z : d < -100
  · exact br_t z hp
  · exact br_f z (br_t (by rw [Int32.not_lt] at z; rw [← Int32.not_le]; exact fun y => h ⟨z, y⟩) hp)
theorem ib_yLimF {v : Int32} (h : v < 0 ∨ L ≤ v) (h0 : 0 ≤ L) (hp : post 0) : wpY_isLimit post (L, lo, hi', fa, bo, on) v := by
  unfold wpY_isLimit
  rcases h with h | h
  · exact br_t h hp
  · exact br_f (by rw [Int32.not_lt]; exact Int32.le_trans h0 h) (br_t h hp)
theorem ib_yLimT {j : Nat} (h : j < m) (hm : m ≤ 6) (hp : post 1) : wpY_isLimit post (nI m, lo, hi', fa, bo, on) (nI j) := by
  unfold wpY_isLimit
  exact br_f (nI_pos (by omega)) (br_f (nI_ge h (by omega)) hp)
theorem ib_yNum {u : SY} {v : Nat} (hn : n < 4913) (hv : v < 3) (h : post (ib_nm n v)) : wpY_number post u (nI n) (nI v) := by
  obtain ⟨L, lo, hi', fa, bo, on⟩ := u
  unfold wpY_number
  dsimp only
  rcases (show v = 0 ∨ v = 1 ∨ v = 2 by omega) with z | z | z <;> subst z
  · refine br_t rfl ⟨by decide, ?_⟩
    rw [ib_d289 hn]
    exact h
  · refine br_f (by decide) (br_t rfl ⟨by decide, by decide, ?_⟩)
    rw [ib_d17 hn, ib_r17 (by omega)]
    exact h
  · refine br_f (by decide) (br_f (by decide) ⟨by decide, ?_⟩)
    rw [ib_r17 hn]
    exact h
theorem ib_yVal {u : SY} {f : Int32} (hn : n < 4913) (h : post (ib_val f n)) : wpY_value post u f (nI n) := by
  obtain ⟨L, lo, hi', fa, bo, on⟩ := u
  unfold wpY_value
  dsimp only
  exact ib_yFac (ib_yNum (v := 0) hn (by omega) (ib_yFac (ib_yNum (v := 1) hn (by omega) (ib_yFac (ib_yNum (v := 2) hn (by omega) h)))))
/-- the limits of a set, from the first -/
theorem ib_yKpL (hm : m ≤ 6) (hn : n < 4913) (hr : ib_inr lo hi' n = true) (h1 : ib_kp lo hi' fa bo m S n = true → post 1) (h0 : ib_kp lo hi' fa bo m S n = false → post 0) : ∃ k, wY_keeps_47 post (nI n) S (nI m) lo hi' fa bo on k 0 := by
  refine loop_0 (fun k i (_ : Unit) => wY_keeps_47 post (nI n) S (nI m) lo hi' fa bo on k (nI i)) (fun i _ => ∀ j, j < i → bt S j = true → ib_brk fa bo n j = false) m () (fun j hj => absurd hj (Nat.not_lt_zero j)) ?_ ?_
  · intro k s e
    exact br_t (Int32.le_refl _) (h1 (ib_kpTi hm hr e))
  · intro k i s hi e K
    have ec : (nI i).toNatClampNeg = i := nI_clamp (by omega)
    have h6 : vp_in (nI i) 6 := ib_in6 (by omega)
    refine br_f (nI_ge hi (by omega)) (br_c (fun a => nm_r (nI_1 i) (K () (lt_s e fun b => ?_))) (fun a => ⟨h6, ib_yVal hn ⟨h6, ?_⟩⟩))
    · rw [(ib_bit0 S (by omega)).mp a] at b
      exact nomatch b
    · rw [ec]
      refine br_c (fun b => nm_r (nI_1 i) (K () (lt_s e fun _ => ib_brkF b))) (fun b => h0 (ib_kpFi hm hi ?_ (ib_brkT b)))
      cases c : bt S i
      · exact absurd ((ib_bit0 S (by omega)).mpr c) a
      · rfl
theorem ib_yKp (hm : m ≤ 6) (hn : n < 4913) (h1 : ib_kp lo hi' fa bo m S n = true → post 1) (h0 : ib_kp lo hi' fa bo m S n = false → post 0) : wpY_keeps post (nI m, lo, hi', fa, bo, on) (nI n) S := by
  refine loop_0 (fun k i (_ : Unit) => wY_keeps_2 post (nI n) S (nI m) lo hi' fa bo on k (nI i)) (fun i _ => ∀ v, v < i → ib_in lo hi' n v = true) 3 () (fun j hj => absurd hj (Nat.not_lt_zero j)) ?_ ?_
  · intro k s e
    exact br_t (Int32.le_refl _) (ib_yKpL hm hn (ib_inrT e) h1 h0)
  · intro k i s hi e K
    have ec : (nI i).toNatClampNeg = i := nI_clamp (by omega)
    refine br_f (nI_ge (b := 3) hi (by decide)) (ib_yNum hn hi ⟨ib_in3 hi, ?_⟩)
    rw [ec]
    refine br_c (fun a => h0 (ib_kpF1 (ib_inrF hi (ib_inF1 a)))) (fun a => ib_yNum hn hi ⟨ib_in3 hi, ?_⟩)
    exact br_c (fun b => nm_r (nI_1 i) (K () (lt_s e (ib_inT a b)))) (fun b => h0 (ib_kpF1 (ib_inrF hi (ib_inF2 b))))
theorem ib_onT {i : Nat} (h : ¬ on i = 0) : ib_on on i = true := by unfold ib_on; exact decide_eq_true h
theorem ib_onF {i : Nat} (h : on i = 0) : ib_on on i = false := by unfold ib_on; exact decide_eq_false (fun z => z h)
theorem ib_yAll (hm : m ≤ 6) (h : post (ib_msk (ib_on on) m)) : wpY_allOn post (nI m, lo, hi', fa, bo, on) := by
  refine loop_0 (fun k i (s : Int32) => wY_allOn_4 post (nI m) lo hi' fa bo on k s (nI i)) (fun i s => s = ib_msk (ib_on on) i) m 0 rfl ?_ ?_
  · intro k s e
    subst e
    exact br_t (Int32.le_refl _) h
  · intro k i s hi e K
    subst e
    have ec : (nI i).toNatClampNeg = i := nI_clamp (by omega)
    refine br_f (nI_ge hi (by omega)) ⟨ib_in6 (by omega), ?_⟩
    rw [ec]
    refine br_c (fun a => nm_r (nI_1 i) (K _ ?_)) (fun a => nm_e (nm_r (nI_1 i) (K _ ?_)))
    · rw [ib_msk, ib_onF a, if_neg (by decide)]
    · rw [ib_msk, ib_onT a, if_pos rfl]
theorem ib_ySz {u : SY} {T : Int32} (h : post (nI (ib_sz T 6))) : wpY_size post u T := by
  obtain ⟨L, lo, hi', fa, bo, on⟩ := u
  refine loop_0 (fun k i (s : Int32) => wY_size_4 post T L lo hi' fa bo on k s (nI i)) (fun i s => s = nI (ib_sz T i)) 6 0 rfl ?_ ?_
  · intro k s e
    subst e
    exact br_t (Int32.le_refl _) h
  · intro k i s hi e K
    subst e
    exact br_f (nI_ge (b := 6) hi (by decide)) (nm_r (ib_szS T (by omega)) (nm_r (nI_1 i) (K _ rfl)))
end
end
section
/-! the reference's walks over the places -/
section
variable {lo hi' fa bo on : Nat → Int32} {m : Nat} {post : Int32 → Prop}
theorem ib_yCnt {T : Int32} (hm : m ≤ 6) (h : post (nI (ib_ct (ib_kp lo hi' fa bo m T) 4913))) : wpY_count post (nI m, lo, hi', fa, bo, on) T := by
  refine loop_0 (fun k i (s : Int32) => wY_count_4 post T (nI m) lo hi' fa bo on k s (nI i)) (fun i s => s = nI (ib_ct (ib_kp lo hi' fa bo m T) i)) 4913 0 rfl ?_ ?_
  · intro k s e
    subst e
    exact br_t ib_plE h
  · intro k i s hi e K
    subst e
    exact br_f (ib_pl hi) (ib_yKp hm hi (fun a => br_f (by decide) (nm_r (ib_ctT a) (nm_r (nI_1 i) (K _ rfl)))) (fun a => br_t rfl (nm_r (nI_1 i) (K _ (congrArg nI (ib_ctF a))))))
theorem ib_yFst {T : Int32} (hm : m ≤ 6) (h1 : ∀ n, n < 4913 → ib_kp lo hi' fa bo m T n = true → (∀ j, j < n → ib_kp lo hi' fa bo m T j = false) → post (nI n)) (h0 : (∀ n, n < 4913 → ib_kp lo hi' fa bo m T n = false) → post (-10000)) : wpY_firstOf post (nI m, lo, hi', fa, bo, on) T := by
  refine loop_0 (fun k i (_ : Unit) => wY_firstOf_2 post T (nI m) lo hi' fa bo on k (nI i)) (fun i _ => ∀ j, j < i → ib_kp lo hi' fa bo m T j = false) 4913 () (fun j hj => absurd hj (Nat.not_lt_zero j)) ?_ ?_
  · intro k s e
    exact br_t ib_plE (h0 e)
  · intro k i s hi e K
    exact br_f (ib_pl hi) (ib_yKp hm hi (fun a => br_f (by decide) (h1 i hi a e)) (fun a => br_t rfl (nm_r (nI_1 i) (K () (lt_s e a)))))
theorem ib_yGr {f : Int32} (hm : m ≤ 6) (ha : ib_af f = true) (h : post (ib_fd (ib_gst (ib_kp lo hi' fa bo m (ib_msk (ib_on on) m)) (ib_val f)) (-10000) 4913)) : wpY_greatest post (nI m, lo, hi', fa, bo, on) f := by
  unfold wpY_greatest
  dsimp only
  refine ib_yAfT ha (br_f (by decide) (ib_yAll hm ?_))
  refine loop_0 (fun k i (s : Int32) => wY_greatest_23 post f (ib_msk (ib_on on) m) (nI m) lo hi' fa bo on k s (nI i)) (fun i s => s = ib_fd (ib_gst (ib_kp lo hi' fa bo m (ib_msk (ib_on on) m)) (ib_val f)) (-10000) i) 4913 (-10000) rfl ?_ ?_
  · intro k s e
    subst e
    exact br_t ib_plE h
  · intro k i s hi e K
    subst e
    exact br_f (ib_pl hi) (ib_yKp hm hi (fun a => br_f (by decide) (ib_yVal hi (br_c (fun b => nm_r (nI_1 i) (K _ (ib_gstN a b).symm)) (fun b => ib_yVal hi (nm_r (nI_1 i) (K _ (ib_gstT a b).symm)))))) (fun a => br_t rfl (nm_r (nI_1 i) (K _ (ib_gstF a).symm))))
theorem ib_yNbs {v : Nat} (hm : m ≤ 6) (hv : v < 3) (h : post (ib_fd (ib_sn (ib_kp lo hi' fa bo m (ib_msk (ib_on on) m)) v) 0 4913)) : wpY_numbers post (nI m, lo, hi', fa, bo, on) (nI v) := by
  unfold wpY_numbers
  dsimp only
  refine br_f (nI_pos (by omega)) (br_t (nI_le (b := 2) (by omega) (by decide)) (ib_yAll hm ?_))
  refine loop_0 (fun k i (s : Int32) => wY_numbers_21 post (nI v) (ib_msk (ib_on on) m) (nI m) lo hi' fa bo on k s (nI i)) (fun i s => s = ib_fd (ib_sn (ib_kp lo hi' fa bo m (ib_msk (ib_on on) m)) v) 0 i) 4913 0 rfl ?_ ?_
  · intro k s e
    subst e
    exact br_t ib_plE h
  · intro k i s hi e K
    subst e
    exact br_f (ib_pl hi) (ib_yKp hm hi (fun a => br_f (by decide) (ib_yNum hi hv (nm_r (ib_snT a).symm (nm_r (nI_1 i) (K _ rfl))))) (fun a => br_t rfl (nm_r (nI_1 i) (K _ (ib_snF a).symm))))
theorem ib_yTi {l : Nat} (hm : m ≤ 6) (hl : l < m) (h : post (nI (ib_ct (ib_rim (ib_kp lo hi' fa bo m (ib_msk (ib_on on) m)) (fa l) (bo l)) 4913))) : wpY_tight post (nI m, lo, hi', fa, bo, on) (nI l) := by
  unfold wpY_tight
  dsimp only
  have ec : (nI l).toNatClampNeg = l := nI_clamp (by omega)
  have hl6 : vp_in (nI l) 6 := ib_in6 (by omega)
  refine ib_yLimT hl hm (br_f (by decide) (ib_yAll hm ?_))
  refine loop_0 (fun k i (s : Int32) => wY_tight_21 post (nI l) (ib_msk (ib_on on) m) (nI m) lo hi' fa bo on k s (nI i)) (fun i s => s = nI (ib_ct (ib_rim (ib_kp lo hi' fa bo m (ib_msk (ib_on on) m)) (fa l) (bo l)) i)) 4913 0 rfl ?_ ?_
  · intro k s e
    subst e
    exact br_t ib_plE h
  · intro k i s hi e K
    subst e
    refine br_f (ib_pl hi) (ib_yKp hm hi (fun a => br_f (by decide) ⟨hl6, ib_yVal hi ⟨hl6, ?_⟩⟩) (fun a => br_t rfl (nm_r (nI_1 i) (K _ (congrArg nI (ib_ctF (ib_rimF a)))))))
    rw [ec]
    exact br_c (fun b => nm_r (ib_ctT (ib_rimT a b)) (nm_r (nI_1 i) (K _ rfl))) (fun b => nm_r (nI_1 i) (K _ (congrArg nI (ib_ctF (ib_rimN b)))))
theorem ib_yCore (hm : m ≤ 6) (h : ∀ a, ib_YI (ib_G lo hi' fa bo m (ib_msk (ib_on on) m)) ib_szt 64 a → post a) : wpY_core post (nI m, lo, hi', fa, bo, on) := by
  unfold wpY_core
  dsimp only
  refine ib_yAll hm ?_
  generalize ib_msk (ib_on on) m = T at h ⊢
  refine loop_0 (fun k i (s : Int32) => wY_core_11 post T (nI m) lo hi' fa bo on k s (nI i)) (fun i s => ib_YI (ib_G lo hi' fa bo m T) ib_szt i s) 64 (-10000) ib_YI0 ?_ ?_
  · intro k s I
    exact br_t (Int32.le_refl _) (h s I)
  · intro k i s hi I K
    have h6 := ib_szt6 i
    have skip : (ib_G lo hi' fa bo m T i → ∃ y, s = nI y ∧ y ≤ 6 ∧ y ≤ ib_szt i) → wY_core_11 post T (nI m) lo hi' fa bo on k s (nI (i + 1)) := fun z => K _ (ib_YIn I z)
    have go : nI i &&& (T ^^^ (-1)) = 0 → (∀ y, s = nI y → y ≤ 6 → ib_szt i < y) → wY_core_38 post (wY_core_11 post T (nI m) lo hi' fa bo on k) T s (nI i) (nI m) lo hi' fa bo on := by
      intro a1 hy
      refine br_f (by decide) (ib_yFst hm (fun n hn p _ => br_t (nI_pos' (by omega)) (nm_r (nI_1 i) (skip fun g => ?_))) (fun a3 => br_f (by decide) (ib_ySz (nm_r (nI_1 i) (K _ (ib_YIt I ⟨a1, a3⟩ h6 hy))))))
      rw [g.2 n hn] at p
      exact nomatch p
    have no : (ib_G lo hi' fa bo m T i → ∃ y, s = nI y ∧ y ≤ 6 ∧ y ≤ ib_szt i) → wY_core_42 post (wY_core_11 post T (nI m) lo hi' fa bo on k) T s (nI i) (nI m) lo hi' fa bo on := fun z => br_t rfl (nm_r (nI_1 i) (skip z))
    refine br_f (nI_ge (b := 64) hi (by decide)) (br_c (fun a1 => br_c (fun a2 => go a1 fun y ey hy => ?_) (fun a2 => ib_ySz (br_c (fun a3 => no fun g => ?_) (fun a3 => go a1 fun y ey hy => ?_)))) (fun a1 => no fun g => absurd g.1 a1))
    · rw [ey] at a2
      exact absurd a2 (nI_pos (by omega))
    · rcases I with ⟨e, _⟩ | ⟨y, ey, hy, _⟩
      · rw [e] at a2
        exact absurd (by decide) a2
      · rw [ey] at a3
        exact ⟨y, ey, hy, (nI_leI (by omega) (by omega)).mp a3⟩
    · rw [ey] at a3
      have := mt (nI_leI (a := y) (b := ib_szt i) (by omega) (by omega)).mpr a3
      omega
end
end
section
/-! what the owed rows ask of both sides -/
theorem ib_nn {v : Int32} {n : Nat} (h : nI n ≤ v) (hn : n < 2 ^ 31) : ¬ v < 0 := Int32.not_lt.mpr (Int32.le_trans (nI_pos' hn) h)
theorem ib_n2 {v : Int32} (h : nI 3 ≤ v) : ¬ v ≤ 2 := fun z => absurd (Int32.le_trans h z) (by decide)
section
variable {lo hi' fa bo on : Nat → Int32} {m : Nat} {post : Int32 → Prop}
theorem ib_bitOn {j : Nat} (hm : m ≤ 6) (hj : j < m) : (ib_msk (ib_on on) m >>> (nI j &&& 31)) &&& 1 = if on j = 0 then 0 else 1 := by
  rw [ib_bit _ (by omega), ib_mskB _ m (by omega) j (by omega), decide_eq_true hj, Bool.true_and]
  by_cases z : on j = 0
  · rw [ib_onF z, if_neg (by decide), if_pos z]
  · rw [ib_onT z, if_pos rfl, if_neg z]
theorem ib_yFirst {v : Nat} (hm : m ≤ 6) (hv : v < 3) (h1 : ∀ n, n < 4913 → ib_kp lo hi' fa bo m (ib_msk (ib_on on) m) n = true → (∀ j, j < n → ib_kp lo hi' fa bo m (ib_msk (ib_on on) m) j = false) → post (ib_nm n v)) (h0 : (∀ n, n < 4913 → ib_kp lo hi' fa bo m (ib_msk (ib_on on) m) n = false) → post (-10000)) : wpY_first post (nI m, lo, hi', fa, bo, on) (nI v) := by
  unfold wpY_first
  dsimp only
  exact br_f (nI_pos (by omega)) (br_t (nI_le (b := 2) (by omega) (by decide)) (ib_yAll hm (ib_yFst hm (fun n hn p mn => br_t (nI_pos' (by omega)) (ib_yNum hn hv (h1 n hn p mn))) (fun al => br_f (by decide) (h0 al)))))
theorem ib_yFol {f d : Int32} (hm : m ≤ 6) (ha : ib_af f = true) (h1 : (∀ n, n < 4913 → ib_kp lo hi' fa bo m (ib_msk (ib_on on) m) n = true → ib_val f n ≤ d) → post 1) (h0 : (¬ ∀ n, n < 4913 → ib_kp lo hi' fa bo m (ib_msk (ib_on on) m) n = true → ib_val f n ≤ d) → post 0) : wpY_follows post (nI m, lo, hi', fa, bo, on) f d := by
  unfold wpY_follows
  dsimp only
  refine ib_yAll hm (ib_yAfT ha (br_f (by decide) (ib_yFst hm (fun n hn p _ => br_f (nI_pos (by omega)) (ib_yGr hm ha (br_c (fun a => h0 fun z => ?_) (fun a => h1 ?_)))) (fun al => br_t (by decide) (h1 fun n hn p => nomatch (al n hn).symm.trans p)))))
  · exact absurd a (Int32.not_lt.mpr ((ib_fol _ f d hn p).mpr z))
  · exact (ib_fol _ f d hn p).mp (Int32.not_lt.mp a)
end
end
section
/-! what is owed -/
def i_Rel (k : Nat) (u : SX) (v : SY) : Prop := ∃ (lo hi fa bo on : Nat → Int32) (m : Nat), m ≤ 6 ∧ u = (nI m, ib_msk (ib_on on) m, lo, hi, fa, bo) ∧ v = (nI m, lo, hi, fa, bo, on)
theorem i_up {k : Nat} {u : SX} {v : SY} (h : i_Rel k u v) : i_Rel (k + 4) u v := h
theorem i_vc0 : wpX_init (fun u => wpY_init (fun v => i_Rel 0 u v)) := by
  refine ⟨4, ?_⟩
  refine br_f (by decide) ⟨ib_in3 (v := 0) (by omega), nm_e ⟨ib_in3 (v := 0) (by omega), nm_e (nm_r (e' := nI 1) (by decide) ?_)⟩⟩
  refine br_f (by decide) ⟨ib_in3 (v := 1) (by omega), nm_e ⟨ib_in3 (v := 1) (by omega), nm_e (nm_r (e' := nI 2) (by decide) ?_)⟩⟩
  refine br_f (by decide) ⟨ib_in3 (v := 2) (by omega), nm_e ⟨ib_in3 (v := 2) (by omega), nm_e (nm_r (e' := nI 3) (by decide) ?_)⟩⟩
  refine br_t (by decide) ?_
  refine ⟨4, ?_⟩
  refine br_f (by decide) ⟨ib_in3 (v := 0) (by omega), nm_e ⟨ib_in3 (v := 0) (by omega), nm_e (nm_r (e' := nI 1) (by decide) ?_)⟩⟩
  refine br_f (by decide) ⟨ib_in3 (v := 1) (by omega), nm_e ⟨ib_in3 (v := 1) (by omega), nm_e (nm_r (e' := nI 2) (by decide) ?_)⟩⟩
  refine br_f (by decide) ⟨ib_in3 (v := 2) (by omega), nm_e ⟨ib_in3 (v := 2) (by omega), nm_e (nm_r (e' := nI 3) (by decide) ?_)⟩⟩
  refine br_t (by decide) ?_
  exact ⟨_, _, _, _, _, 0, Nat.zero_le _, rfl, rfl⟩
theorem i_vc_range {k : Nat} {u : SX} {v : SY} (I : i_Rel k u v) (hk : k + 4 ≤ 2048) (v1 : Int32) (v2 : Int32) (v3 : Int32) : wpX_range (fun r u' => wpY_range (fun r' v' => r' = r ∧ i_Rel (k + 4) u' v') v v1 v2 v3) u v1 v2 v3 := by
  obtain ⟨lo, hi', fa, bo, on, m, hm, rfl, rfl⟩ := I
  have R : i_Rel (k + 4) (nI m, ib_msk (ib_on on) m, lo, hi', fa, bo) (nI m, lo, hi', fa, bo, on) := ⟨lo, hi', fa, bo, on, m, hm, rfl, rfl⟩
  unfold wpX_range wpY_range
  dsimp only
  rcases pk_ix v1 (n := 3) (by omega) with h | h | ⟨j, hj, rfl⟩
  · exact ib_xVarF (Or.inl h) (br_t rfl (br_t h ⟨rfl, R⟩))
  · exact ib_xVarF (Or.inr h) (br_t rfl (br_f (ib_nn h (by decide)) (br_f (ib_n2 h) ⟨rfl, R⟩)))
  · have e2 : nI j ≤ (2 : Int32) := nI_le (b := 2) (by omega) (by decide)
    have e0 : ¬ nI j < 0 := nI_pos (by omega)
    have h3 := ib_in3 hj
    refine ib_xVarT hj (br_f (by decide) ?_)
    by_cases c1 : v2 < -8
    · exact br_t c1 (br_f e0 (br_t e2 (br_t c1 ⟨rfl, R⟩)))
    by_cases c2 : v3 < v2
    · exact br_f c1 (br_t c2 (br_f e0 (br_t e2 (br_f c1 (br_t c2 ⟨rfl, R⟩)))))
    by_cases c3 : v3 ≤ 8
    · exact br_f c1 (br_f c2 (br_t c3 ⟨h3, nm_e ⟨h3, nm_e (br_f e0 (br_t e2 (br_f c1 (br_f c2 (br_t c3 ⟨h3, nm_e ⟨h3, nm_e ⟨rfl, _, _, _, _, _, m, hm, rfl, rfl⟩⟩⟩)))))⟩⟩))
    · exact br_f c1 (br_f c2 (br_f c3 (br_f e0 (br_t e2 (br_f c1 (br_f c2 (br_f c3 ⟨rfl, R⟩)))))))
theorem i_vc_limit {k : Nat} {u : SX} {v : SY} (I : i_Rel k u v) (hk : k + 4 ≤ 2048) (v1 : Int32) (v2 : Int32) : wpX_limit (fun r u' => wpY_limit (fun r' v' => r' = r ∧ i_Rel (k + 4) u' v') v v1 v2) u v1 v2 := by
  obtain ⟨lo, hi', fa, bo, on, m, hm, rfl, rfl⟩ := I
  have R : i_Rel (k + 4) (nI m, ib_msk (ib_on on) m, lo, hi', fa, bo) (nI m, lo, hi', fa, bo, on) := ⟨lo, hi', fa, bo, on, m, hm, rfl, rfl⟩
  unfold wpX_limit wpY_limit
  dsimp only
  refine ib_xAf (fun a => br_f (by decide) ?_) (fun a => br_t rfl (ib_yAfF a (br_t rfl ⟨rfl, R⟩)))
  by_cases hb : -100 ≤ v2 ∧ v2 ≤ 100
  · refine ib_xBdT hb (br_f (by decide) ?_)
    rcases (show m < 6 ∨ m = 6 by omega) with h | h
    · have h6 := ib_in6 h
      have ec : (nI m).toNatClampNeg = m := nI_clamp (by omega)
      refine br_t (nI_lt (b := 6) h (by decide)) ⟨h6, nm_e ⟨h6, nm_e (nm_e (nm_r (nI_1 m) (ib_yAfT a (br_f (by decide) (ib_yBdT hb (br_f (by decide) (br_f ?_ ⟨h6, nm_e ⟨h6, nm_e ⟨h6, nm_e (nm_r (nI_1 m) ⟨?_, ?_⟩)⟩⟩⟩)))))))⟩⟩
      · exact mt (nI_eq (a := m) (b := 6) (by omega) (by omega)).mp (by omega)
      · exact nI_pred m
      · rw [ec]
        exact ⟨lo, hi', upd fa m v1, upd bo m v2, upd on m (vp_nar .boolean 1), m + 1, by omega, by rw [ib_onLim on m _ (by decide)], rfl⟩
    · subst h
      exact br_f (by decide) (ib_yAfT a (br_f (by decide) (ib_yBdT hb (br_f (by decide) (br_t rfl ⟨rfl, R⟩)))))
  · exact ib_xBdF hb (br_t rfl (ib_yAfT a (br_f (by decide) (ib_yBdF hb (br_t rfl ⟨rfl, R⟩)))))
theorem i_vc_relax {k : Nat} {u : SX} {v : SY} (I : i_Rel k u v) (hk : k + 4 ≤ 2048) (v1 : Int32) (v2 : Int32) : wpX_relax (fun r u' => wpY_relax (fun r' v' => r' = r ∧ i_Rel (k + 4) u' v') v v1 v2) u v1 v2 := by
  obtain ⟨lo, hi', fa, bo, on, m, hm, rfl, rfl⟩ := I
  have R : i_Rel (k + 4) (nI m, ib_msk (ib_on on) m, lo, hi', fa, bo) (nI m, lo, hi', fa, bo, on) := ⟨lo, hi', fa, bo, on, m, hm, rfl, rfl⟩
  unfold wpX_relax wpY_relax
  dsimp only
  rcases pk_ix v1 (n := m) (by omega) with h | h | ⟨j, hj, rfl⟩
  · exact ib_xLimF (Or.inl h) (nI_pos' (by omega)) (br_t rfl (ib_yLimF (Or.inl h) (nI_pos' (by omega)) (br_t rfl ⟨rfl, R⟩)))
  · exact ib_xLimF (Or.inr h) (nI_pos' (by omega)) (br_t rfl (ib_yLimF (Or.inr h) (nI_pos' (by omega)) (br_t rfl ⟨rfl, R⟩)))
  · have h6 : vp_in (nI j) 6 := ib_in6 (by omega)
    refine ib_xLimT hj hm (br_f (by decide) ?_)
    by_cases hb : -100 ≤ v2 ∧ v2 ≤ 100
    · exact ib_xBdT hb (br_f (by decide) ⟨h6, nm_e ⟨h6, nm_e (ib_yLimT hj hm (br_f (by decide) (ib_yBdT hb (br_f (by decide) ⟨h6, nm_e ⟨h6, nm_e ⟨rfl, _, _, _, _, _, m, hm, rfl, rfl⟩⟩⟩))))⟩⟩)
    · exact ib_xBdF hb (br_t rfl (ib_yLimT hj hm (br_f (by decide) (ib_yBdF hb (br_t rfl ⟨rfl, R⟩)))))
theorem ib_turnY {lo hi' fa bo on : Nat → Int32} {k m j : Nat} {T r x : Int32} (hm : m ≤ 6) (hj : j < m) (hT : T = ib_msk (ib_on (upd on j (vp_nar .boolean x))) m) (hr : r = if on j = 0 then 0 else 1) : wpY_turn (fun r' v' => r' = r ∧ i_Rel k (nI m, T, lo, hi', fa, bo) v') (nI m, lo, hi', fa, bo, on) (nI j) x := by
  unfold wpY_turn
  dsimp only
  have ec : (nI j).toNatClampNeg = j := nI_clamp (by omega)
  have h6 : vp_in (nI j) 6 := ib_in6 (by omega)
  refine ib_yLimT hj hm (br_f (by decide) ⟨h6, ?_⟩)
  rw [ec]
  refine br_c (fun a => ⟨h6, nm_e ⟨?_, ?_⟩⟩) (fun a => ⟨h6, nm_e ⟨?_, ?_⟩⟩)
  · rw [hr, if_pos a]
  · rw [ec]
    exact ⟨lo, hi', fa, bo, upd on j (vp_nar .boolean x), m, hm, by rw [hT], rfl⟩
  · rw [hr, if_neg a]
  · rw [ec]
    exact ⟨lo, hi', fa, bo, upd on j (vp_nar .boolean x), m, hm, by rw [hT], rfl⟩
theorem i_vc_turn {k : Nat} {u : SX} {v : SY} (I : i_Rel k u v) (hk : k + 4 ≤ 2048) (v1 : Int32) (v2 : Int32) : wpX_turn (fun r u' => wpY_turn (fun r' v' => r' = r ∧ i_Rel (k + 4) u' v') v v1 (lw_bz v2)) u v1 (lw_bz v2) := by
  obtain ⟨lo, hi', fa, bo, on, m, hm, rfl, rfl⟩ := I
  have R : i_Rel (k + 4) (nI m, ib_msk (ib_on on) m, lo, hi', fa, bo) (nI m, lo, hi', fa, bo, on) := ⟨lo, hi', fa, bo, on, m, hm, rfl, rfl⟩
  rcases pk_ix v1 (n := m) (by omega) with h | h | ⟨j, hj, rfl⟩
  · unfold wpX_turn wpY_turn
    dsimp only
    exact ib_xLimF (Or.inl h) (nI_pos' (by omega)) (br_t rfl (ib_yLimF (Or.inl h) (nI_pos' (by omega)) (br_t rfl ⟨rfl, R⟩)))
  · unfold wpX_turn wpY_turn
    dsimp only
    exact ib_xLimF (Or.inr h) (nI_pos' (by omega)) (br_t rfl (ib_yLimF (Or.inr h) (nI_pos' (by omega)) (br_t rfl ⟨rfl, R⟩)))
  · unfold wpX_turn
    dsimp only
    refine ib_xLimT hj hm (br_f (by decide) (nm_r (ib_bitOn hm hj) (nm_e ?_)))
    rcases lw_bz_01 v2 with e | e <;> rw [e]
    · exact br_t rfl (ib_turnY hm hj (ib_onOff on (by omega) hj _ (by decide)).symm rfl)
    · exact br_f (by decide) (nm_e (ib_turnY hm hj (ib_onOn on (by omega) hj _ (by decide)).symm rfl))
theorem i_vc_drop {k : Nat} {u : SX} {v : SY} (I : i_Rel k u v) (hk : k + 4 ≤ 2048) : wpX_drop (fun r u' => wpY_drop (fun r' v' => r' = r ∧ i_Rel (k + 4) u' v') v) u := by
  obtain ⟨lo, hi', fa, bo, on, m, hm, rfl, rfl⟩ := I
  have R : i_Rel (k + 4) (nI m, ib_msk (ib_on on) m, lo, hi', fa, bo) (nI m, lo, hi', fa, bo, on) := ⟨lo, hi', fa, bo, on, m, hm, rfl, rfl⟩
  unfold wpX_drop wpY_drop
  dsimp only
  cases m with
  | zero => exact br_f (by decide) (br_t rfl ⟨rfl, R⟩)
  | succ q => exact br_t (nI_lt (a := 0) (by omega) (by omega)) (nm_r (nI_pred q) (nm_r (ib_onDrop on (by omega)) (br_f (nI_ne0 (by omega) (by omega)) (nm_r (nI_pred q) ⟨rfl, lo, hi', fa, bo, on, q, by omega, rfl, rfl⟩))))
theorem i_vc_points {k : Nat} {u : SX} {v : SY} (I : i_Rel k u v) (hk : k + 4 ≤ 2048) : wpX_points (fun r => wpY_points (fun r' => r' = r ∧ i_Rel (k + 4) u v) v) u := by
  obtain ⟨lo, hi', fa, bo, on, m, hm, rfl, rfl⟩ := I
  have R : i_Rel (k + 4) (nI m, ib_msk (ib_on on) m, lo, hi', fa, bo) (nI m, lo, hi', fa, bo, on) := ⟨lo, hi', fa, bo, on, m, hm, rfl, rfl⟩
  unfold wpX_points wpY_points
  dsimp only
  exact ib_xCnt hm (ib_yAll hm (ib_yCnt hm ⟨rfl, R⟩))
theorem i_vc_first {k : Nat} {u : SX} {v : SY} (I : i_Rel k u v) (hk : k + 4 ≤ 2048) (v1 : Int32) : wpX_first (fun r => wpY_first (fun r' => r' = r ∧ i_Rel (k + 4) u v) v v1) u v1 := by
  obtain ⟨lo, hi', fa, bo, on, m, hm, rfl, rfl⟩ := I
  have R : i_Rel (k + 4) (nI m, ib_msk (ib_on on) m, lo, hi', fa, bo) (nI m, lo, hi', fa, bo, on) := ⟨lo, hi', fa, bo, on, m, hm, rfl, rfl⟩
  rcases pk_ix v1 (n := 3) (by omega) with h | h | ⟨j, hj, rfl⟩
  · unfold wpX_first wpY_first
    dsimp only
    exact ib_xVarF (Or.inl h) (br_t rfl (br_t h ⟨rfl, R⟩))
  · unfold wpX_first wpY_first
    dsimp only
    exact ib_xVarF (Or.inr h) (br_t rfl (br_f (ib_nn h (by decide)) (br_f (ib_n2 h) ⟨rfl, R⟩)))
  · exact ib_xFst hm hj (fun n hn p mn => ib_yFirst hm hj (fun n' hn' p' mn' => ⟨by rw [ib_fst p' mn' p mn], R⟩) (fun al => nomatch p.symm.trans (al n hn))) (fun al => ib_yFirst hm hj (fun n hn p _ => nomatch p.symm.trans (al n hn)) (fun _ => ⟨rfl, R⟩))
theorem i_vc_greatest {k : Nat} {u : SX} {v : SY} (I : i_Rel k u v) (hk : k + 4 ≤ 2048) (v1 : Int32) : wpX_greatest (fun r => wpY_greatest (fun r' => r' = r ∧ i_Rel (k + 4) u v) v v1) u v1 := by
  obtain ⟨lo, hi', fa, bo, on, m, hm, rfl, rfl⟩ := I
  have R : i_Rel (k + 4) (nI m, ib_msk (ib_on on) m, lo, hi', fa, bo) (nI m, lo, hi', fa, bo, on) := ⟨lo, hi', fa, bo, on, m, hm, rfl, rfl⟩
  cases ha : ib_af v1
  · unfold wpX_greatest wpY_greatest
    dsimp only
    exact ib_xAf (fun b => nomatch ha.symm.trans b) (fun _ => br_t rfl (ib_yAfF ha (br_t rfl ⟨rfl, R⟩)))
  · exact ib_xGr hm ha (ib_yGr hm ha ⟨rfl, R⟩)
theorem i_vc_follows {k : Nat} {u : SX} {v : SY} (I : i_Rel k u v) (hk : k + 4 ≤ 2048) (v1 : Int32) (v2 : Int32) : wpX_follows (fun r => wpY_follows (fun r' => r' = r ∧ i_Rel (k + 4) u v) v v1 v2) u v1 v2 := by
  obtain ⟨lo, hi', fa, bo, on, m, hm, rfl, rfl⟩ := I
  have R : i_Rel (k + 4) (nI m, ib_msk (ib_on on) m, lo, hi', fa, bo) (nI m, lo, hi', fa, bo, on) := ⟨lo, hi', fa, bo, on, m, hm, rfl, rfl⟩
  cases ha : ib_af v1
  · unfold wpX_follows wpY_follows
    dsimp only
    exact ib_xAf (fun b => nomatch ha.symm.trans b) (fun _ => br_t rfl (ib_yAll hm (ib_yAfF ha (br_t rfl ⟨rfl, R⟩))))
  · exact ib_xFol hm ha (fun al => ib_yFol hm ha (fun _ => ⟨rfl, R⟩) (fun z => absurd al z)) (fun n hn p nb => ib_yFol hm ha (fun al => absurd (al n hn p) nb) (fun _ => ⟨rfl, R⟩))
theorem i_vc_numbers {k : Nat} {u : SX} {v : SY} (I : i_Rel k u v) (hk : k + 4 ≤ 2048) (v1 : Int32) : wpX_numbers (fun r => wpY_numbers (fun r' => r' = r ∧ i_Rel (k + 4) u v) v v1) u v1 := by
  obtain ⟨lo, hi', fa, bo, on, m, hm, rfl, rfl⟩ := I
  have R : i_Rel (k + 4) (nI m, ib_msk (ib_on on) m, lo, hi', fa, bo) (nI m, lo, hi', fa, bo, on) := ⟨lo, hi', fa, bo, on, m, hm, rfl, rfl⟩
  rcases pk_ix v1 (n := 3) (by omega) with h | h | ⟨j, hj, rfl⟩
  · unfold wpX_numbers wpY_numbers
    dsimp only
    exact ib_xVarF (Or.inl h) (br_t rfl (br_t h ⟨rfl, R⟩))
  · unfold wpX_numbers wpY_numbers
    dsimp only
    exact ib_xVarF (Or.inr h) (br_t rfl (br_f (ib_nn h (by decide)) (br_f (ib_n2 h) ⟨rfl, R⟩)))
  · exact ib_xNbs hm hj (ib_yNbs hm hj ⟨rfl, R⟩)
theorem i_vc_idle {k : Nat} {u : SX} {v : SY} (I : i_Rel k u v) (hk : k + 4 ≤ 2048) (v1 : Int32) : wpX_idle (fun r => wpY_idle (fun r' => r' = r ∧ i_Rel (k + 4) u v) v v1) u v1 := by
  obtain ⟨lo, hi', fa, bo, on, m, hm, rfl, rfl⟩ := I
  have R : i_Rel (k + 4) (nI m, ib_msk (ib_on on) m, lo, hi', fa, bo) (nI m, lo, hi', fa, bo, on) := ⟨lo, hi', fa, bo, on, m, hm, rfl, rfl⟩
  unfold wpX_idle wpY_idle
  dsimp only
  rcases pk_ix v1 (n := m) (by omega) with h | h | ⟨j, hj, rfl⟩
  · exact ib_xLimF (Or.inl h) (nI_pos' (by omega)) (br_t rfl (ib_yLimF (Or.inl h) (nI_pos' (by omega)) (br_t rfl ⟨rfl, R⟩)))
  · exact ib_xLimF (Or.inr h) (nI_pos' (by omega)) (br_t rfl (ib_yLimF (Or.inr h) (nI_pos' (by omega)) (br_t rfl ⟨rfl, R⟩)))
  · have ec : (nI j).toNatClampNeg = j := nI_clamp (by omega)
    have h6 : vp_in (nI j) 6 := ib_in6 (by omega)
    refine ib_xLimT hj hm (br_f (by decide) ?_)
    by_cases z : on j = 0
    · exact br_t (by rw [ib_bitOn hm hj, if_pos z]) (ib_yLimT hj hm (br_f (by decide) ⟨h6, br_t (by rw [ec]; exact z) ⟨rfl, R⟩⟩))
    · refine br_f (by rw [ib_bitOn hm hj, if_neg z]; decide) (ib_xCnt hm (ib_xCnt hm (br_c (fun a => ib_yLimT hj hm (br_f (by decide) ⟨h6, br_f (by rw [ec]; exact z) (ib_yAll hm (ib_yCnt hm (ib_yCnt hm (br_t a.symm ⟨rfl, R⟩))))⟩)) (fun a => ib_yLimT hj hm (br_f (by decide) ⟨h6, br_f (by rw [ec]; exact z) (ib_yAll hm (ib_yCnt hm (ib_yCnt hm (br_f (fun b => a b.symm) ⟨rfl, R⟩))))⟩)))))
theorem i_vc_core {k : Nat} {u : SX} {v : SY} (I : i_Rel k u v) (hk : k + 4 ≤ 2048) : wpX_core (fun r => wpY_core (fun r' => r' = r ∧ i_Rel (k + 4) u v) v) u := by
  obtain ⟨lo, hi', fa, bo, on, m, hm, rfl, rfl⟩ := I
  have R : i_Rel (k + 4) (nI m, ib_msk (ib_on on) m, lo, hi', fa, bo) (nI m, lo, hi', fa, bo, on) := ⟨lo, hi', fa, bo, on, m, hm, rfl, rfl⟩
  exact ib_xCore hm (ib_on6 on hm) (fun b0 => ib_yCore hm (fun a Y => ⟨ib_fin0 (fun t ht g => ib_bitT (fun n => ib_mkS hm _) 4913 b0 g.1 g.2) Y, R⟩)) (fun y X => ib_yCore hm (fun a Y => ⟨ib_fin X Y, R⟩))
theorem i_vc_tight {k : Nat} {u : SX} {v : SY} (I : i_Rel k u v) (hk : k + 4 ≤ 2048) (v1 : Int32) : wpX_tight (fun r => wpY_tight (fun r' => r' = r ∧ i_Rel (k + 4) u v) v v1) u v1 := by
  obtain ⟨lo, hi', fa, bo, on, m, hm, rfl, rfl⟩ := I
  have R : i_Rel (k + 4) (nI m, ib_msk (ib_on on) m, lo, hi', fa, bo) (nI m, lo, hi', fa, bo, on) := ⟨lo, hi', fa, bo, on, m, hm, rfl, rfl⟩
  rcases pk_ix v1 (n := m) (by omega) with h | h | ⟨j, hj, rfl⟩
  · unfold wpX_tight wpY_tight
    dsimp only
    exact ib_xLimF (Or.inl h) (nI_pos' (by omega)) (br_t rfl (ib_yLimF (Or.inl h) (nI_pos' (by omega)) (br_t rfl ⟨rfl, R⟩)))
  · unfold wpX_tight wpY_tight
    dsimp only
    exact ib_xLimF (Or.inr h) (nI_pos' (by omega)) (br_t rfl (ib_yLimF (Or.inr h) (nI_pos' (by omega)) (br_t rfl ⟨rfl, R⟩)))
  · exact ib_xTi hm hj (ib_yTi hm hj ⟨rfl, R⟩)
end
