section
/-! ===== Int32 by its bits: bt x i ===== -/
def bt (x : Int32) (i : Nat) : Bool := x.toBitVec.getLsbD i
theorem b_ext {x y : Int32} (h : ∀ i, i < 32 → bt x i = bt y i) : x = y := Int32.toBitVec_inj.mp (BitVec.eq_of_getLsbD_eq (fun i hi => h i hi))
theorem b_or (x y : Int32) (i : Nat) : bt (x ||| y) i = (bt x i || bt y i) := by unfold bt; rw [Int32.toBitVec_or, BitVec.getLsbD_or]
theorem b_and (x y : Int32) (i : Nat) : bt (x &&& y) i = (bt x i && bt y i) := by unfold bt; rw [Int32.toBitVec_and, BitVec.getLsbD_and]
theorem b_xor (x y : Int32) (i : Nat) : bt (x ^^^ y) i = (bt x i ^^ bt y i) := by unfold bt; rw [Int32.toBitVec_xor, BitVec.getLsbD_xor]
theorem b_big {x : Int32} {i : Nat} (h : 32 ≤ i) : bt x i = false := BitVec.getLsbD_of_ge _ _ h
theorem b_255 (i : Nat) : bt 255 i = decide (i < 8) := by
  rcases Nat.lt_or_ge i 32 with h | h
  · exact (by decide +kernel : ∀ i, i < 32 → bt 255 i = decide (i < 8)) i h
  · rw [b_big h, decide_eq_false (by omega)]
theorem b_65535 (i : Nat) : bt 65535 i = decide (i < 16) := by
  rcases Nat.lt_or_ge i 32 with h | h
  · exact (by decide +kernel : ∀ i, i < 32 → bt 65535 i = decide (i < 16)) i h
  · rw [b_big h, decide_eq_false (by omega)]
theorem b_m1 : ∀ i, i < 32 → bt (-1) i = true := by decide +kernel
theorem b_0 (i : Nat) : bt 0 i = false := BitVec.getLsbD_zero
theorem s_l : ∀ n, n < 32 → ((nI n &&& 31).toBitVec.smod 32).toNat = n := by decide +kernel
theorem s_u : ∀ n, n < 32 → (((nI n).toUInt32 &&& Int32.toUInt32 31).toBitVec % 32).toNat = n := by decide +kernel
theorem b_shl (n : Nat) (hn : n < 32) (x : Int32) {i : Nat} (hi : i < 32) : bt (x <<< (nI n &&& 31)) i = (decide (n ≤ i) && bt x (i - n)) := by
  unfold bt
  rw [Int32.toBitVec_shiftLeft]
  show (x.toBitVec <<< ((nI n &&& 31).toBitVec.smod 32).toNat).getLsbD i = _
  rw [s_l n hn, BitVec.getLsbD_shiftLeft]
  rcases Nat.lt_or_ge i n with h | h
  · simp [h, Nat.not_le.mpr h]
  · simp [hi, h, Nat.not_lt.mpr h]
theorem b_ushr (n : Nat) (hn : n < 32) (x : Int32) (i : Nat) : bt ((x.toUInt32 >>> ((nI n).toUInt32 &&& Int32.toUInt32 31)).toInt32) i = bt x (n + i) := by
  show (x.toUInt32 >>> ((nI n).toUInt32 &&& Int32.toUInt32 31)).toBitVec.getLsbD i = x.toUInt32.toBitVec.getLsbD (n + i)
  rw [UInt32.toBitVec_shiftRight]
  show (x.toUInt32.toBitVec >>> (((nI n).toUInt32 &&& Int32.toUInt32 31).toBitVec % 32).toNat).getLsbD i = _
  rw [s_u n hn, BitVec.getLsbD_ushiftRight]
theorem b_sshr (n : Nat) (hn : n < 32) (x : Int32) {i : Nat} (hi : i < 32) : bt (x >>> (nI n &&& 31)) i = if n + i < 32 then bt x (n + i) else bt x 31 := by
  unfold bt
  rw [Int32.toBitVec_shiftRight]
  show (x.toBitVec.sshiftRight ((nI n &&& 31).toBitVec.smod 32).toNat).getLsbD i = _
  rw [s_l n hn, BitVec.getLsbD_sshiftRight, BitVec.msb_eq_getLsbD_last]
  simp [hi]
theorem b_shl8 (x : Int32) {i : Nat} (hi : i < 32) : bt (x <<< ((8 : Int32) &&& 31)) i = (decide (8 ≤ i) && bt x (i - 8)) := b_shl 8 (by omega) x hi
theorem b_shl16 (x : Int32) {i : Nat} (hi : i < 32) : bt (x <<< ((16 : Int32) &&& 31)) i = (decide (16 ≤ i) && bt x (i - 16)) := b_shl 16 (by omega) x hi
theorem b_shl24 (x : Int32) {i : Nat} (hi : i < 32) : bt (x <<< ((24 : Int32) &&& 31)) i = (decide (24 ≤ i) && bt x (i - 24)) := b_shl 24 (by omega) x hi
theorem b_sshr8 (x : Int32) {i : Nat} (hi : i < 32) : bt (x >>> ((8 : Int32) &&& 31)) i = if 8 + i < 32 then bt x (8 + i) else bt x 31 := b_sshr 8 (by omega) x hi
theorem nx_and (a b : Nat) : nI a &&& nI b = nI (a &&& b) := by
  apply Int32.toBitVec_inj.1
  show BitVec.ofNat 32 a &&& BitVec.ofNat 32 b = BitVec.ofNat 32 (a &&& b)
  apply BitVec.eq_of_getLsbD_eq
  intro i hi
  simp [hi]
theorem pk_us {f : Nat → Int32} {k : Nat} {x : Int32} : upd f k x k = x := if_pos rfl
theorem pk_un {f : Nat → Int32} {k j : Nat} {x : Int32} (h : j ≠ k) : upd f k x j = f j := if_neg h
theorem pk_mul (a b : Nat) : nI a * nI b = nI (a * b) := (Int32.ofNat_mul a b).symm
theorem pk_ix (x : Int32) {n : Nat} (hn : n < 2 ^ 31) : x < 0 ∨ nI n ≤ x ∨ ∃ j : Nat, j < n ∧ x = nI j := by
  by_cases h : x < 0
  · exact Or.inl h
  · obtain ⟨j, hj, rfl⟩ := nI_of h
    by_cases h2 : j < n
    · exact Or.inr (Or.inr ⟨j, h2, rfl⟩)
    · exact Or.inr (Or.inl (nI_le (by omega) hj))
theorem pk_le {x y : Int32} {A B : Prop} (a b : Nat) (f : a ≤ b → A) (g : b < a → B) (hx : x = nI a := by rfl) (hy : y = nI b := by rfl) (ha : a < 2 ^ 31 := by omega) (hb : b < 2 ^ 31 := by omega) : (x ≤ y → A) ∧ (¬ x ≤ y → B) := by
  subst hx hy
  rw [nI_leI ha hb]
  exact ⟨f, fun z => g (by omega)⟩
theorem pk_lt {x y : Int32} {A B : Prop} (a b : Nat) (f : a < b → A) (g : b ≤ a → B) (hx : x = nI a := by rfl) (hy : y = nI b := by rfl) (ha : a < 2 ^ 31 := by omega) (hb : b < 2 ^ 31 := by omega) : (x < y → A) ∧ (¬ x < y → B) := by
  subst hx hy
  rw [nI_ltI ha hb]
  exact ⟨f, fun z => g (by omega)⟩
theorem pk_eq {x y : Int32} {A B : Prop} (a b : Nat) (f : a = b → A) (g : a ≠ b → B) (hx : x = nI a := by rfl) (hy : y = nI b := by rfl) (ha : a < 2 ^ 31 := by omega) (hb : b < 2 ^ 31 := by omega) : (x = y → A) ∧ (¬ x = y → B) := by
  subst hx hy
  rw [nI_eq ha hb]
  exact ⟨f, g⟩
theorem pk_in {x : Int32} (n N : Nat) (h : n < N) (hx : x = nI n := by rfl) (hN : N < 2 ^ 31 := by omega) : vp_in x N := by
  subst hx
  exact vp_in_nI h hN
theorem pk_cl {x : Int32} (n : Nat) (hx : x = nI n := by rfl) (h : n < 2 ^ 31 := by omega) : x.toNatClampNeg = n := by
  subst hx
  exact nI_clamp h
theorem pk_tn {n : Nat} (h : n < 2 ^ 32) : (nI n).toBitVec.toNat = n := Nat.mod_eq_of_lt h
theorem pk_and (x : Int32) {m : Int32} (k : Nat) (hm : m.toBitVec.toNat = 2 ^ k - 1) : x &&& m = nI (x.toBitVec.toNat % 2 ^ k) := by
  apply Int32.toBitVec_inj.mp
  apply BitVec.eq_of_toNat_eq
  rw [Int32.toBitVec_and, BitVec.toNat_and, hm, Nat.and_two_pow_sub_one_eq_mod]
  show _ = (BitVec.ofNat 32 _).toNat
  rw [BitVec.toNat_ofNat]
  exact (Nat.mod_eq_of_lt (Nat.lt_of_le_of_lt (Nat.mod_le _ _) x.toBitVec.isLt)).symm
theorem pk_andN {n : Nat} (h : n < 2 ^ 32) {m : Int32} (k : Nat) (hm : m.toBitVec.toNat = 2 ^ k - 1) : nI n &&& m = nI (n % 2 ^ k) := by
  rw [pk_and _ k hm, pk_tn h]
theorem pk_shr (a s : Int32) (k : Nat) (hs : (s.toBitVec.smod 32).toNat = k) : (a >>> s).toInt = a.toInt >>> k := by
  show (a.toBitVec.sshiftRight (s.toBitVec.smod 32).toNat).toInt = _
  rw [hs, BitVec.toInt_sshiftRight]
  rfl
theorem pk_shrN {n : Nat} (h : n < 2 ^ 31) (s : Int32) (k : Nat) (hs : (s.toBitVec.smod 32).toNat = k) : nI n >>> s = nI (n / 2 ^ k) := by
  apply Int32.toInt_inj.mp
  have h2 : n / 2 ^ k ≤ n := Nat.div_le_self _ _
  rw [pk_shr _ _ k hs, nI_toInt h, nI_toInt (by omega), Int.shiftRight_eq_div_pow]
  rfl
end
section
/-! ===== bits of a set ===== -/
theorem ag_1 : ∀ j, j < 32 → bt 1 j = decide (j = 0) := by decide +kernel
theorem ag_bit (s : Int32) {i : Nat} (hi : i < 32) : ((s >>> (nI i &&& 31)) &&& 1) = 1 ↔ bt s i = true := by
  constructor
  · intro h
    have e : bt ((s >>> (nI i &&& 31)) &&& 1) 0 = bt 1 0 := by rw [h]
    rw [b_and, b_sshr i hi s (by decide), if_pos (by omega), ag_1 0 (by decide)] at e
    simpa using e
  · intro h
    apply b_ext
    intro j hj
    rw [b_and, b_sshr i hi s hj, ag_1 j hj]
    by_cases z : j = 0
    · subst z
      rw [if_pos (by omega)]
      simpa using h
    · simp [z]
theorem ag_one {i : Nat} (hi : i < 32) {b : Nat} (hb : b < 32) : bt ((1 : Int32) <<< (nI i &&& 31)) b = decide (b = i) := by
  rw [b_shl i hi 1 hb]
  by_cases z : i ≤ b
  · rw [ag_1 (b - i) (by omega)]
    have e : (b - i = 0) ↔ (b = i) := by omega
    simp [z, e]
  · have e : ¬ b = i := by omega
    simp [z, e]
theorem ag_not (x : Int32) {b : Nat} (hb : b < 32) : bt (x ^^^ (-1)) b = !(bt x b) := by
  rw [b_xor, b_m1 b hb]
  cases bt x b <;> rfl
/-- s lies within o -/
def ag_S (s o : Int32) : Prop := ∀ b, b < 32 → bt s b = true → bt o b = true
theorem ag_sub {s o : Int32} : (s &&& (o ^^^ (-1))) = 0 ↔ ag_S s o := by
  constructor
  · intro h b hb hs
    have e : bt (s &&& (o ^^^ (-1))) b = bt 0 b := by rw [h]
    rw [b_and, ag_not o hb, b_0, hs] at e
    cases z : bt o b
    · rw [z] at e
      exact absurd e (by decide)
    · rfl
  · intro h
    apply b_ext
    intro b hb
    rw [b_and, ag_not o hb, b_0]
    cases z : bt s b
    · rfl
    · rw [h b hb z]
      rfl
theorem ag_Seq {s o : Int32} (h : ag_S s o) (k : ag_S o s) : s = o := by
  apply b_ext
  intro b hb
  exact Bool.eq_iff_iff.mpr ⟨h b hb, k b hb⟩
theorem ag_Srf (s : Int32) : ag_S s s := fun _ _ h => h
theorem ag_Str {s o p : Int32} (h : ag_S s o) (k : ag_S o p) : ag_S s p := fun b hb z => k b hb (h b hb z)
theorem ag_nI (j : Nat) {b : Nat} (hb : b < 32) : bt (nI j) b = j.testBit b := by
  show (BitVec.ofNat 32 j).getLsbD b = _
  rw [BitVec.getLsbD_ofNat]
  simp [hb]
theorem ag_set {A : Nat} {x : Int32} (h : ∀ b, b < 32 → A ≤ b → bt x b = false) : ∃ j, j < 2 ^ A ∧ x = nI j := by
  refine ⟨x.toBitVec.toNat, ?_, ?_⟩
  · apply Nat.lt_pow_two_of_testBit
    intro i hi
    rcases Nat.lt_or_ge i 32 with z | z
    · exact h i z hi
    · exact (b_big z : bt x i = false)
  · exact Int32.toBitVec_inj.mp (by show _ = BitVec.ofNat 32 _; simp)
theorem ag_pw {A : Nat} (h : A ≤ 8) : 2 ^ A ≤ 256 := Nat.pow_le_pow_right (by decide) h
theorem ag_pw0 (A : Nat) : 0 < 2 ^ A := Nat.two_pow_pos A
/-- a set within another is no greater a number -/
theorem ag_Sle {i j : Nat} (hi : i < 2 ^ 31) (h : ag_S (nI i) (nI j)) : i ≤ j := by
  have e : nI i &&& nI j = nI i := by
    apply b_ext
    intro b hb
    rw [b_and]
    cases z : bt (nI i) b
    · rfl
    · rw [h b hb z]
      rfl
  rw [nx_and] at e
  have l : i &&& j ≤ i := Nat.and_le_left
  have r : i &&& j ≤ j := Nat.and_le_right
  rw [nI_eq (by omega) hi] at e
  omega
theorem ag_allb : ∀ A, A < 9 → ∀ b, b < 32 → bt (nI (2 ^ A - 1)) b = decide (b < A) := by decide +kernel
def ag_al (A : Nat) : Int32 := nI (2 ^ A - 1)
theorem ag_alb {A : Nat} (hA : A ≤ 8) {b : Nat} (hb : b < 32) : bt (ag_al A) b = decide (b < A) := ag_allb A (by omega) b hb
/-! ===== counting ===== -/
def ag_cn (f : Nat → Bool) : Nat → Nat
  | 0 => 0
  | n + 1 => if f n = true then ag_cn f n + 1 else ag_cn f n
theorem ag_cnT {f : Nat → Bool} {n : Nat} (h : f n = true) : ag_cn f (n + 1) = ag_cn f n + 1 := if_pos h
theorem ag_cnF {f : Nat → Bool} {n : Nat} (h : ¬ f n = true) : ag_cn f (n + 1) = ag_cn f n := if_neg h
theorem ag_cn_le (f : Nat → Bool) : ∀ n, ag_cn f n ≤ n := by
  intro n
  induction n with
  | zero => exact Nat.le_refl 0
  | succ n ih =>
    by_cases h : f n = true
    · rw [ag_cnT h]; omega
    · rw [ag_cnF h]; omega
theorem ag_cn_mono {f g : Nat → Bool} : ∀ n, (∀ i, i < n → f i = true → g i = true) → ag_cn f n ≤ ag_cn g n := by
  intro n
  induction n with
  | zero => intro _; exact Nat.le_refl 0
  | succ n ih =>
    intro h
    have k := ih (fun i hi => h i (by omega))
    by_cases z : f n = true
    · rw [ag_cnT z, ag_cnT (h n (by omega) z)]; omega
    · rw [ag_cnF z]
      by_cases y : g n = true
      · rw [ag_cnT y]; omega
      · rw [ag_cnF y]; exact k
theorem ag_cn_lt {f g : Nat → Bool} : ∀ n, (∀ i, i < n → f i = true → g i = true) → (∃ i, i < n ∧ g i = true ∧ ¬ f i = true) → ag_cn f n < ag_cn g n := by
  intro n
  induction n with
  | zero => intro _ ⟨i, hi, _⟩; omega
  | succ n ih =>
    intro h ⟨i, hi, hg, hf⟩
    have h' : ∀ i, i < n → f i = true → g i = true := fun i hi => h i (by omega)
    rcases Nat.lt_or_ge i n with z | z
    · have k := ih h' ⟨i, z, hg, hf⟩
      by_cases y : f n = true
      · rw [ag_cnT y, ag_cnT (h n (by omega) y)]; omega
      · rw [ag_cnF y]
        by_cases x : g n = true
        · rw [ag_cnT x]; omega
        · rw [ag_cnF x]; exact k
    · have e : i = n := by omega
      subst e
      rw [ag_cnF hf, ag_cnT hg]
      have k := ag_cn_mono i h'
      omega
theorem ag_cn_congr {f g : Nat → Bool} : ∀ n, (∀ i, i < n → (f i = true ↔ g i = true)) → ag_cn f n = ag_cn g n := fun n h => Nat.le_antisymm (ag_cn_mono n fun i hi => (h i hi).mp) (ag_cn_mono n fun i hi => (h i hi).mpr)
theorem ag_cn_add (f : Nat → Bool) (m : Nat) : ∀ n, ag_cn f (m + n) = ag_cn f m + ag_cn (fun i => f (m + i)) n := by
  intro n
  induction n with
  | zero => rfl
  | succ n ih =>
    by_cases h : f (m + n) = true
    · rw [← Nat.add_assoc, ag_cnT h, ag_cnT (f := fun i => f (m + i)) h, ih]; omega
    · rw [← Nat.add_assoc, ag_cnF h, ag_cnF (f := fun i => f (m + i)) h, ih]
theorem ag_cn_0 {f : Nat → Bool} : ∀ n, (∀ i, i < n → f i = false) → ag_cn f n = 0 := by
  intro n
  induction n with
  | zero => intro _; rfl
  | succ n ih =>
    intro h
    rw [ag_cnF (by rw [h n (by omega)]; decide)]
    exact ih fun i hi => h i (by omega)
theorem ag_cn_up {f : Nat → Bool} {m n : Nat} (hmn : m ≤ n) (h : ∀ i, m ≤ i → i < n → f i = false) : ag_cn f n = ag_cn f m := by
  obtain ⟨d, rfl⟩ : ∃ d, n = m + d := ⟨n - m, by omega⟩
  rw [ag_cn_add, ag_cn_0 d fun i hi => h (m + i) (by omega) (by omega)]
  rfl
/-! ===== what a set attacks, what it defends ===== -/
def ag_af (t : Nat → Int32) (s : Int32) : Nat → Int32
  | 0 => 0
  | n + 1 => if bt s n = true then ag_af t s n ||| t n else ag_af t s n
theorem ag_afT {t : Nat → Int32} {s : Int32} {n : Nat} (h : bt s n = true) : ag_af t s (n + 1) = ag_af t s n ||| t n := if_pos h
theorem ag_afF {t : Nat → Int32} {s : Int32} {n : Nat} (h : ¬ bt s n = true) : ag_af t s (n + 1) = ag_af t s n := if_neg h
theorem ag_af_bit (t : Nat → Int32) (s : Int32) (b : Nat) : ∀ n, bt (ag_af t s n) b = true ↔ ∃ a, a < n ∧ bt s a = true ∧ bt (t a) b = true := by
  intro n
  induction n with
  | zero =>
    show bt 0 b = true ↔ _
    rw [b_0]
    exact ⟨fun h => absurd h (by decide), fun ⟨a, h, _⟩ => absurd h (by omega)⟩
  | succ n ih =>
    by_cases z : bt s n = true
    · rw [ag_afT z, b_or, Bool.or_eq_true, ih]
      constructor
      · rintro (⟨a, h1, h2⟩ | h)
        · exact ⟨a, by omega, h2⟩
        · exact ⟨n, by omega, z, h⟩
      · rintro ⟨a, h1, h2, h3⟩
        rcases Nat.lt_or_ge a n with y | y
        · exact Or.inl ⟨a, y, h2, h3⟩
        · have e : a = n := by omega
          subst e
          exact Or.inr h3
    · rw [ag_afF z, ih]
      constructor
      · rintro ⟨a, h1, h2⟩
        exact ⟨a, by omega, h2⟩
      · rintro ⟨a, h1, h2, h3⟩
        rcases Nat.lt_or_ge a n with y | y
        · exact ⟨a, y, h2, h3⟩
        · have e : a = n := by omega
          subst e
          exact absurd h2 z
def ag_yf (th : Nat → Int32) (s : Int32) : Nat → Int32
  | 0 => 0
  | m + 1 => if ¬ th m = 0 ∧ bt s (m / 8) = true then ag_yf th s m ||| ((1 : Int32) <<< (nI (m % 8) &&& 31)) else ag_yf th s m
theorem ag_yfT {th : Nat → Int32} {s : Int32} {m : Nat} (h : ¬ th m = 0 ∧ bt s (m / 8) = true) : ag_yf th s (m + 1) = ag_yf th s m ||| ((1 : Int32) <<< (nI (m % 8) &&& 31)) := if_pos h
theorem ag_yfF {th : Nat → Int32} {s : Int32} {m : Nat} (h : ¬ (¬ th m = 0 ∧ bt s (m / 8) = true)) : ag_yf th s (m + 1) = ag_yf th s m := if_neg h
theorem ag_yf_bit (th : Nat → Int32) (s : Int32) {b : Nat} (hb : b < 32) : ∀ m, bt (ag_yf th s m) b = true ↔ ∃ j, j < m ∧ (¬ th j = 0 ∧ bt s (j / 8) = true) ∧ b = j % 8 := by
  intro m
  induction m with
  | zero =>
    show bt 0 b = true ↔ _
    rw [b_0]
    exact ⟨fun h => absurd h (by decide), fun ⟨a, h, _⟩ => absurd h (by omega)⟩
  | succ m ih =>
    by_cases z : ¬ th m = 0 ∧ bt s (m / 8) = true
    · rw [ag_yfT z, b_or, Bool.or_eq_true, ih, ag_one (by omega) hb, decide_eq_true_eq]
      constructor
      · rintro (⟨a, h1, h2⟩ | h)
        · exact ⟨a, by omega, h2⟩
        · exact ⟨m, by omega, z, h⟩
      · rintro ⟨a, h1, h2, h3⟩
        rcases Nat.lt_or_ge a m with y | y
        · exact Or.inl ⟨a, y, h2, h3⟩
        · have e : a = m := by omega
          subst e
          exact Or.inr h3
    · rw [ag_yfF z, ih]
      constructor
      · rintro ⟨a, h1, h2⟩
        exact ⟨a, by omega, h2⟩
      · rintro ⟨a, h1, h2, h3⟩
        rcases Nat.lt_or_ge a m with y | y
        · exact ⟨a, y, h2, h3⟩
        · have e : a = m := by omega
          subst e
          exact absurd h2 z
def ag_yd (th : Nat → Int32) (al s : Int32) : Nat → Int32
  | 0 => al
  | m + 1 => if ¬ th m = 0 ∧ ¬ bt s (m / 8) = true then ag_yd th al s m &&& (((1 : Int32) <<< (nI (m % 8) &&& 31)) ^^^ (-1)) else ag_yd th al s m
theorem ag_ydT {th : Nat → Int32} {al s : Int32} {m : Nat} (h : ¬ th m = 0 ∧ ¬ bt s (m / 8) = true) : ag_yd th al s (m + 1) = ag_yd th al s m &&& (((1 : Int32) <<< (nI (m % 8) &&& 31)) ^^^ (-1)) := if_pos h
theorem ag_ydF {th : Nat → Int32} {al s : Int32} {m : Nat} (h : ¬ (¬ th m = 0 ∧ ¬ bt s (m / 8) = true)) : ag_yd th al s (m + 1) = ag_yd th al s m := if_neg h
theorem ag_yd_bit (th : Nat → Int32) (al s : Int32) {b : Nat} (hb : b < 32) : ∀ m, bt (ag_yd th al s m) b = true ↔ bt al b = true ∧ ∀ j, j < m → b = j % 8 → ¬ (¬ th j = 0 ∧ ¬ bt s (j / 8) = true) := by
  intro m
  induction m with
  | zero => exact ⟨fun h => ⟨h, fun j hj => absurd hj (by omega)⟩, fun h => h.1⟩
  | succ m ih =>
    by_cases z : ¬ th m = 0 ∧ ¬ bt s (m / 8) = true
    · rw [ag_ydT z, b_and, Bool.and_eq_true, ih, ag_not _ hb, ag_one (by omega) hb]
      constructor
      · rintro ⟨⟨h1, h2⟩, h3⟩
        refine ⟨h1, fun j hj e => ?_⟩
        rcases Nat.lt_or_ge j m with y | y
        · exact h2 j y e
        · have e2 : j = m := by omega
          subst e2
          rw [decide_eq_true e] at h3
          exact absurd h3 (by decide)
      · rintro ⟨h1, h2⟩
        refine ⟨⟨h1, fun j hj e => h2 j (by omega) e⟩, ?_⟩
        rw [decide_eq_false fun e => h2 m (by omega) e z]
        rfl
    · rw [ag_ydF z, ih]
      constructor
      · rintro ⟨h1, h2⟩
        refine ⟨h1, fun j hj e => ?_⟩
        rcases Nat.lt_or_ge j m with y | y
        · exact h2 j y e
        · have e2 : j = m := by omega
          subst e2
          exact z
      · rintro ⟨h1, h2⟩
        exact ⟨h1, fun j hj e => h2 j (by omega) e⟩
end
section
/-! ===== the relation: X's rows and Y's table are one set of attacks ===== -/
def ag_R (A : Nat) (t th : Nat → Int32) : Prop := 2 ≤ A ∧ A ≤ 8 ∧ (∀ a b, a < 8 → b < 8 → (bt (t a) b = true ↔ ¬ th (8 * a + b) = 0)) ∧ (∀ a b, a < 8 → A ≤ b → bt (t a) b = false) ∧ (∀ a, A ≤ a → a < 8 → t a = 0)
def ag_ar (A : Nat) (t : Nat → Int32) (s : Int32) : Int32 := ag_af t s A
def ag_dr (A : Nat) (t : Nat → Int32) (s : Int32) : Int32 := ag_al A &&& (ag_ar A t (ag_al A &&& (ag_ar A t s ^^^ (-1))) ^^^ (-1))
theorem ag_ar_bit (A : Nat) (t : Nat → Int32) (s : Int32) (b : Nat) : bt (ag_ar A t s) b = true ↔ ∃ a, a < A ∧ bt s a = true ∧ bt (t a) b = true := ag_af_bit t s b A
theorem ag_dr_bit {A : Nat} (hA : A ≤ 8) (t : Nat → Int32) (s : Int32) {b : Nat} (hb : b < 32) : bt (ag_dr A t s) b = true ↔ b < A ∧ ∀ a, a < A → bt (t a) b = true → bt (ag_ar A t s) a = true := by
  unfold ag_dr
  rw [b_and, Bool.and_eq_true, ag_alb hA hb, decide_eq_true_eq, ag_not _ hb]
  refine and_congr_right fun h => ?_
  rw [Bool.not_eq_true', ← Bool.not_eq_true, ag_ar_bit]
  constructor
  · intro n a ha ht
    cases z : bt (ag_ar A t s) a
    · refine absurd ⟨a, ha, ?_, ht⟩ n
      rw [b_and, ag_alb hA (by omega), ag_not _ (by omega), z, decide_eq_true ha]
      rfl
    · rfl
  · rintro n ⟨a, ha, h1, h2⟩
    rw [b_and, ag_alb hA (by omega), ag_not _ (by omega), n a ha h2] at h1
    simp at h1
theorem ag_yf_eq {A : Nat} {t th : Nat → Int32} (R : ag_R A t th) (s : Int32) : ag_yf th s 64 = ag_ar A t s := by
  obtain ⟨h2, h8, r1, r2, r3⟩ := R
  apply b_ext
  intro b hb
  apply Bool.eq_iff_iff.mpr
  rw [ag_yf_bit th s hb, ag_ar_bit]
  constructor
  · rintro ⟨j, hj, ⟨ht, hs⟩, e⟩
    have r := (r1 (j / 8) (j % 8) (by omega) (by omega)).mpr (by rw [show 8 * (j / 8) + j % 8 = j by omega]; exact ht)
    refine ⟨j / 8, ?_, hs, e ▸ r⟩
    apply Nat.lt_of_not_le
    intro z
    rw [r3 (j / 8) z (by omega), b_0] at r
    exact absurd r (by decide)
  · rintro ⟨a, ha, hs, ht⟩
    have hbA : b < A := by
      apply Nat.lt_of_not_le
      intro z
      rw [r2 a b (by omega) z] at ht
      exact absurd ht (by decide)
    refine ⟨8 * a + b, by omega, ⟨(r1 a b (by omega) (by omega)).mp ht, ?_⟩, by omega⟩
    rw [show (8 * a + b) / 8 = a by omega]
    exact hs
theorem ag_yd_eq {A : Nat} {t th : Nat → Int32} (R : ag_R A t th) (s : Int32) : ag_yd th (ag_al A) (ag_ar A t s) 64 = ag_dr A t s := by
  obtain ⟨h2, h8, r1, r2, r3⟩ := R
  apply b_ext
  intro b hb
  apply Bool.eq_iff_iff.mpr
  rw [ag_yd_bit th _ _ hb, ag_dr_bit h8 t s hb, ag_alb h8 hb, decide_eq_true_eq]
  refine and_congr_right fun hbA => ?_
  constructor
  · intro h a ha ht
    have k := h (8 * a + b) (by omega) (by omega)
    rw [show (8 * a + b) / 8 = a by omega] at k
    have y := (r1 a b (by omega) (by omega)).mp ht
    exact Classical.byContradiction fun z => k ⟨y, z⟩
  · rintro h j hj e ⟨k1, k2⟩
    have r := (r1 (j / 8) (j % 8) (by omega) (by omega)).mpr (by rw [show 8 * (j / 8) + j % 8 = j by omega]; exact k1)
    rw [← e] at r
    refine k2 (h (j / 8) ?_ r)
    apply Nat.lt_of_not_le
    intro z
    rw [r3 (j / 8) z (by omega), b_0] at r
    exact absurd r (by decide)
/-- a change of one attack -/
theorem ag_R_upd {A : Nat} {t th : Nat → Int32} (R : ag_R A t th) {a b : Nat} (ha : a < A) (hb : b < A) {x y : Int32} (hx : bt x b = true ↔ ¬ y = 0) (hn : ∀ c, c ≠ b → bt x c = bt (t a) c) : ag_R A (upd t a x) (upd th (8 * a + b) y) := by
  obtain ⟨h2, h8, r1, r2, r3⟩ := R
  refine ⟨h2, h8, ?_, ?_, ?_⟩
  · intro c d hc hd
    by_cases e : c = a
    · subst e
      rw [pk_us]
      by_cases f : d = b
      · subst f
        rw [pk_us]
        exact hx
      · rw [pk_un (by omega), hn d f]
        exact r1 c d hc hd
    · rw [pk_un e, pk_un (by omega)]
      exact r1 c d hc hd
  · intro c d hc hd
    by_cases e : c = a
    · subst e
      rw [pk_us, hn d (by omega)]
      exact r2 c d hc hd
    · rw [pk_un e]
      exact r2 c d hc hd
  · intro c hc h
    rw [pk_un (by omega)]
    exact r3 c hc h
/-! ===== kinds of sets ===== -/
def ag_CF (A : Nat) (t : Nat → Int32) (s : Int32) : Prop := (ag_ar A t s &&& s) = 0
def ag_AD (A : Nat) (t : Nat → Int32) (s : Int32) : Prop := ag_CF A t s ∧ (s &&& (ag_dr A t s ^^^ (-1))) = 0
def ag_CO (A : Nat) (t : Nat → Int32) (s : Int32) : Prop := ag_CF A t s ∧ ag_dr A t s = s
def ag_ST (A : Nat) (t : Nat → Int32) (s : Int32) : Prop := ag_CF A t s ∧ (s ||| ag_ar A t s) = ag_al A
/-- other sets i that stand against k, as PREFERRED, SEMISTABLE have it -/
def ag_QP (A : Nat) (t : Nat → Int32) (s : Int32) (i : Nat) : Prop := (s &&& (nI i ^^^ (-1))) = 0 ∧ ag_AD A t (nI i)
def ag_QS (A : Nat) (t : Nat → Int32) (r : Int32) (i : Nat) : Prop := ¬ (nI i ||| ag_ar A t (nI i)) = r ∧ (r &&& ((nI i ||| ag_ar A t (nI i)) ^^^ (-1))) = 0 ∧ ag_AD A t (nI i)
def ag_PR (A : Nat) (t : Nat → Int32) (k : Nat) : Prop := ag_AD A t (nI k) ∧ ∀ i, i < 2 ^ A → i ≠ k → ¬ ag_QP A t (nI k) i
def ag_SE (A : Nat) (t : Nat → Int32) (k : Nat) : Prop := ag_AD A t (nI k) ∧ ∀ i, i < 2 ^ A → ¬ ag_QS A t (nI k ||| ag_ar A t (nI k)) i
theorem ag_AD_of {A : Nat} {t : Nat → Int32} {s : Int32} : ag_CO A t s ↔ ag_AD A t s ∧ ag_dr A t s = s := by
  constructor
  · rintro ⟨h1, h2⟩
    refine ⟨⟨h1, ?_⟩, h2⟩
    rw [h2]
    exact ag_sub.mpr (ag_Srf s)
  · rintro ⟨⟨h1, _⟩, h2⟩
    exact ⟨h1, h2⟩
/-- X looks above k alone -/
theorem ag_PR_above {A : Nat} {t : Nat → Int32} {k : Nat} (hk : k < 2 ^ 31) (h : ∀ i, k + 1 ≤ i → i < 2 ^ A → ¬ ag_QP A t (nI k) i) : ∀ i, i < 2 ^ A → i ≠ k → ¬ ag_QP A t (nI k) i := by
  intro i hi hn q
  rcases Nat.lt_or_ge k i with z | z
  · exact h i z hi q
  · have y := ag_Sle hk (ag_sub.mp q.1)
    omega
/-! ===== a search: 0 at the first Q, else 1 ===== -/
theorem ag_srch (M : Nat) (Q : Nat → Prop) (post : Int32 → Prop) (W : Nat → Int32 → Prop) (hs : ∀ n j, j < M → (Q j → post 0) → (¬ Q j → W n (nI (j + 1))) → W (n + 1) (nI j)) (hd : ∀ n, post 1 → W (n + 1) (nI M)) : ∀ n j, j ≤ M → M - j < n → ((∀ i, j ≤ i → i < M → ¬ Q i) → post 1) → ((∃ i, j ≤ i ∧ i < M ∧ Q i) → post 0) → W n (nI j) := by
  intro n
  induction n with
  | zero => intro j _ h; omega
  | succ n ih =>
    intro j hj hn h1 h0
    rcases Nat.lt_or_ge j M with z | z
    · refine hs n j z (fun q => h0 ⟨j, Nat.le_refl j, z, q⟩) fun q => ih (j + 1) (by omega) (by omega) (fun a => h1 fun i hi hm => ?_) fun ⟨i, a, b, c⟩ => h0 ⟨i, by omega, b, c⟩
      rcases Nat.eq_or_lt_of_le hi with e | e
      · subst e
        exact q
      · exact a i e hm
    · have e : j = M := by omega
      subst e
      exact hd n (h1 fun i a b => absurd a (by omega))
/-! ===== two folds in step ===== -/
theorem ag_lk (M : Nat) (E : Nat → Prop) (g : Int32 → Int32 → Int32) (WX WY : (Int32 → Prop) → Nat → Int32 → Int32 → Prop) (xs : ∀ post n j c, j < M → (E j → WX post n (g c (nI j)) (nI (j + 1))) → (¬ E j → WX post n c (nI (j + 1))) → WX post (n + 1) c (nI j)) (xd : ∀ post n c, post c → WX post (n + 1) c (nI M)) (ys : ∀ post n j c, j < M → (E j → WY post n (g c (nI j)) (nI (j + 1))) → (¬ E j → WY post n c (nI (j + 1))) → WY post (n + 1) c (nI j)) (yd : ∀ post n c, post c → WY post (n + 1) c (nI M)) : ∀ d j c, j + d = M → ∃ r, (∀ post : Int32 → Prop, post r → WX post (d + 1) c (nI j)) ∧ (∀ post : Int32 → Prop, post r → WY post (d + 1) c (nI j)) := by
  intro d
  induction d with
  | zero =>
    intro j c hj
    have e : j = M := by omega
    subst e
    exact ⟨c, fun post h => xd post 0 c h, fun post h => yd post 0 c h⟩
  | succ d ih =>
    intro j c hj
    by_cases e : E j
    · obtain ⟨r, h1, h2⟩ := ih (j + 1) (g c (nI j)) (by omega)
      exact ⟨r, fun post h => xs post _ j c (by omega) (fun _ => h1 post h) fun z => absurd e z, fun post h => ys post _ j c (by omega) (fun _ => h2 post h) fun z => absurd e z⟩
    · obtain ⟨r, h1, h2⟩ := ih (j + 1) c (by omega)
      exact ⟨r, fun post h => xs post _ j c (by omega) (fun z => absurd z e) fun _ => h1 post h, fun post h => ys post _ j c (by omega) (fun z => absurd z e) fun _ => h2 post h⟩
theorem ag_le (M : Nat) (E : Nat → Prop) (k : Int32) (WX WY : (Int32 → Prop) → Nat → Int32 → Int32 → Prop) (xs : ∀ post n j c, j < M → (E j → c = k → post (nI j)) → (E j → ¬ c = k → WX post n (c + 1) (nI (j + 1))) → (¬ E j → WX post n c (nI (j + 1))) → WX post (n + 1) c (nI j)) (xd : ∀ post n c, post (-2) → WX post (n + 1) c (nI M)) (ys : ∀ post n j c, j < M → (E j → c = k → post (nI j)) → (E j → ¬ c = k → WY post n (c + 1) (nI (j + 1))) → (¬ E j → WY post n c (nI (j + 1))) → WY post (n + 1) c (nI j)) (yd : ∀ post n c, post (-2) → WY post (n + 1) c (nI M)) : ∀ d j c, j + d = M → ∃ r, (∀ post : Int32 → Prop, post r → WX post (d + 1) c (nI j)) ∧ (∀ post : Int32 → Prop, post r → WY post (d + 1) c (nI j)) := by
  intro d
  induction d with
  | zero =>
    intro j c hj
    have e : j = M := by omega
    subst e
    exact ⟨-2, fun post h => xd post 0 c h, fun post h => yd post 0 c h⟩
  | succ d ih =>
    intro j c hj
    by_cases e : E j
    · by_cases f : c = k
      · exact ⟨nI j, fun post h => xs post _ j c (by omega) (fun _ _ => h) (fun _ z => absurd f z) fun z => absurd e z, fun post h => ys post _ j c (by omega) (fun _ _ => h) (fun _ z => absurd f z) fun z => absurd e z⟩
      · obtain ⟨r, h1, h2⟩ := ih (j + 1) (c + 1) (by omega)
        exact ⟨r, fun post h => xs post _ j c (by omega) (fun _ z => absurd z f) (fun _ _ => h1 post h) fun z => absurd e z, fun post h => ys post _ j c (by omega) (fun _ z => absurd z f) (fun _ _ => h2 post h) fun z => absurd e z⟩
    · obtain ⟨r, h1, h2⟩ := ih (j + 1) c (by omega)
      exact ⟨r, fun post h => xs post _ j c (by omega) (fun z => absurd z e) (fun z => absurd z e) fun _ => h1 post h, fun post h => ys post _ j c (by omega) (fun z => absurd z e) (fun z => absurd z e) fun _ => h2 post h⟩
/-! ===== the grounded set: X's rounds end at the least set that has all that it defends ===== -/
theorem ag_ar_mono {A : Nat} (hA : A ≤ 8) (t : Nat → Int32) {s o : Int32} (h : ag_S s o) : ag_S (ag_ar A t s) (ag_ar A t o) := by
  intro b hb z
  obtain ⟨a, ha, h1, h2⟩ := (ag_ar_bit A t s b).mp z
  exact (ag_ar_bit A t o b).mpr ⟨a, ha, h a (by omega) h1, h2⟩
theorem ag_dr_mono {A : Nat} (hA : A ≤ 8) (t : Nat → Int32) {s o : Int32} (h : ag_S s o) : ag_S (ag_dr A t s) (ag_dr A t o) := by
  intro b hb z
  obtain ⟨h1, h2⟩ := (ag_dr_bit hA t s hb).mp z
  exact (ag_dr_bit hA t o hb).mpr ⟨h1, fun a ha ht => ag_ar_mono hA t h a (by omega) (h2 a ha ht)⟩
def ag_it (A : Nat) (t : Nat → Int32) : Nat → Int32
  | 0 => 0
  | n + 1 => ag_dr A t (ag_it A t n)
theorem ag_it_up {A : Nat} (hA : A ≤ 8) (t : Nat → Int32) : ∀ n, ag_S (ag_it A t n) (ag_it A t (n + 1)) := by
  intro n
  induction n with
  | zero =>
    intro b hb z
    have z : bt 0 b = true := z
    rw [b_0] at z
    exact absurd z (by decide)
  | succ n ih => exact ag_dr_mono hA t ih
theorem ag_it_le {A : Nat} (hA : A ≤ 8) (t : Nat → Int32) {o : Int32} (h : ag_S (ag_dr A t o) o) : ∀ n, ag_S (ag_it A t n) o := by
  intro n
  induction n with
  | zero =>
    intro b hb z
    have z : bt 0 b = true := z
    rw [b_0] at z
    exact absurd z (by decide)
  | succ n ih => exact ag_Str (ag_dr_mono hA t ih) h
theorem ag_it_in {A : Nat} (hA : A ≤ 8) (t : Nat → Int32) : ∀ n b, b < 32 → A ≤ b → bt (ag_it A t n) b = false := by
  intro n b hb h
  cases n with
  | zero => exact b_0 b
  | succ n =>
    rw [← Bool.not_eq_true]
    intro z
    have y := ((ag_dr_bit hA t _ hb).mp z).1
    omega
theorem ag_grow {A : Nat} (hA : A ≤ 8) {s o : Int32} (h : ag_S s o) (hn : ¬ o = s) (ho : ∀ b, b < 32 → A ≤ b → bt o b = false) : ag_cn (bt s) A < ag_cn (bt o) A := by
  refine ag_cn_lt A (fun i hi => h i (by omega)) (Classical.byContradiction fun z => hn (ag_Seq (fun b hb y => ?_) h))
  rcases Nat.lt_or_ge b A with x | x
  · exact Classical.byContradiction fun w => z ⟨b, x, y, w⟩
  · rw [ho b hb x] at y
    exact absurd y (by decide)
theorem ag_it_fix {A : Nat} (hA : A ≤ 8) (t : Nat → Int32) : ag_dr A t (ag_it A t A) = ag_it A t A := by
  have key : ∀ n, ag_it A t (n + 1) = ag_it A t n ∨ n < ag_cn (bt (ag_it A t (n + 1))) A := by
    intro n
    induction n with
    | zero =>
      by_cases z : ag_it A t 1 = ag_it A t 0
      · exact Or.inl z
      · have y := ag_grow hA (ag_it_up hA t 0) z (ag_it_in hA t 1)
        exact Or.inr (by omega)
    | succ n ih =>
      rcases ih with e | e
      · exact Or.inl (congrArg (ag_dr A t) e)
      · by_cases z : ag_it A t (n + 1 + 1) = ag_it A t (n + 1)
        · exact Or.inl z
        · have y := ag_grow hA (ag_it_up hA t (n + 1)) z (ag_it_in hA t (n + 1 + 1))
          exact Or.inr (by omega)
  rcases key A with e | e
  · exact e
  · have y := ag_cn_le (bt (ag_it A t (A + 1))) A
    omega
/-- the set with number j is the least that has all that it defends -/
def ag_LP (A : Nat) (t : Nat → Int32) (j : Nat) : Prop := (ag_dr A t (nI j) &&& (nI j ^^^ (-1))) = 0 ∧ ∀ i, i < 2 ^ A → ¬ ((ag_dr A t (nI i) &&& (nI i ^^^ (-1))) = 0 ∧ ¬ (nI j &&& (nI i ^^^ (-1))) = 0)
theorem ag_gr {A : Nat} (hA : A ≤ 8) (t : Nat → Int32) : ∃ g, g < 2 ^ A ∧ ag_it A t A = nI g ∧ ag_LP A t g ∧ ∀ j, j < 2 ^ A → ag_LP A t j → j = g := by
  obtain ⟨g, hg, e⟩ := ag_set (A := A) (ag_it_in hA t A)
  have hp := ag_pw hA
  have fx := ag_it_fix hA t
  have lp : ag_LP A t g := by
    refine ⟨?_, ?_⟩
    · rw [← e, fx]
      exact ag_sub.mpr (ag_Srf _)
    · rintro i hi ⟨h1, h2⟩
      rw [← e] at h2
      exact h2 (ag_sub.mpr (ag_it_le hA t (ag_sub.mp h1) A))
  refine ⟨g, hg, e, lp, fun j hj l => ?_⟩
  have s1 : ag_S (nI g) (nI j) := ag_sub.mp (Classical.byContradiction fun z => lp.2 j hj ⟨l.1, z⟩)
  have s2 : ag_S (nI j) (nI g) := ag_sub.mp (Classical.byContradiction fun z => l.2 g hg ⟨lp.1, z⟩)
  have q := ag_Seq s2 s1
  exact (nI_eq (by omega) (by omega)).mp q
/-! ===== how many attacks there are ===== -/
def ag_sm (A : Nat) (t : Nat → Int32) : Nat → Nat
  | 0 => 0
  | n + 1 => ag_sm A t n + ag_cn (bt (t n)) A
theorem ag_sum {A : Nat} {t th : Nat → Int32} (R : ag_R A t th) : ag_cn (fun j => decide (¬ th j = 0)) 64 = ag_sm A t A := by
  obtain ⟨h2, h8, r1, r2, r3⟩ := R
  have row : ∀ a, a < 8 → ag_cn (fun i => decide (¬ th (8 * a + i) = 0)) 8 = ag_cn (bt (t a)) A := by
    intro a ha
    rw [ag_cn_congr (g := bt (t a)) 8 fun i hi => by rw [decide_eq_true_eq]; exact (r1 a i ha hi).symm]
    exact ag_cn_up h8 fun i hi _ => r2 a i ha hi
  have all : ∀ a, a ≤ 8 → ag_cn (fun j => decide (¬ th j = 0)) (8 * a) = ag_sm A t a := by
    intro a
    induction a with
    | zero => intro _; rfl
    | succ a ih =>
      intro ha
      rw [show 8 * (a + 1) = 8 * a + 8 by omega, ag_cn_add, ih (by omega), row a (by omega)]
      rfl
  have top : ∀ d, A + d ≤ 8 → ag_sm A t (A + d) = ag_sm A t A := by
    intro d
    induction d with
    | zero => intro _; rfl
    | succ d ih =>
      intro hd
      show ag_sm A t (A + d) + ag_cn (bt (t (A + d))) A = _
      rw [ih (by omega), r3 (A + d) (by omega) (by omega), ag_cn_0 A fun i _ => b_0 i]
      rfl
  have x := all 8 (by omega)
  have y := top (8 - A) (by omega)
  rw [show A + (8 - A) = 8 by omega] at y
  rw [← y, ← x]
end
section
/-! ===== X's walks ===== -/
theorem ag_xa_loop {post : Int32 → Prop} {A : Nat} (hA : A ≤ 8) (al : Int32) (t : Nat → Int32) (s : Int32) (h : post (ag_ar A t s)) : ∀ n i, i ≤ A → A - i < n → wX_attackedBy_4 post s (nI A) al t n (ag_af t s i) (nI i) := by
  intro n
  induction n with
  | zero => intro i _ hn; omega
  | succ n ih =>
    intro i hi hn
    refine pk_le A i (fun z => ?_) (fun z => ?_)
    · have e : i = A := by omega
      subst e
      exact h
    · by_cases b : bt s i = true
      · refine br_t ((ag_bit s (by omega)).mpr b) ⟨pk_in i 8 (by omega), fun y ey x ex => ?_⟩
        rw [ey, ex, nI_1, pk_cl i, ← ag_afT b]
        exact ih (i + 1) (by omega) (by omega)
      · refine br_f (fun c => b ((ag_bit s (by omega)).mp c)) fun x ex => ?_
        rw [ex, nI_1, ← ag_afF (t := t) b]
        exact ih (i + 1) (by omega) (by omega)
theorem ag_xa {post : Int32 → Prop} {A : Nat} (hA : A ≤ 8) (al : Int32) (t : Nat → Int32) (s : Int32) (h : post (ag_ar A t s)) : wpX_attackedBy post (nI A, al, t) s := ⟨A + 1, ag_xa_loop hA al t s h (A + 1) 0 (by omega) (by omega)⟩
theorem ag_xd {post : Int32 → Prop} {A : Nat} (hA : A ≤ 8) (t : Nat → Int32) (s : Int32) (h : post (ag_dr A t s)) : wpX_defendedBy post (nI A, ag_al A, t) s := by
  unfold wpX_defendedBy
  dsimp only
  refine ag_xa hA _ _ _ ?_
  intro y ey
  subst ey
  exact ag_xa hA _ _ _ h
theorem ag_xcf {post : Int32 → Prop} {A : Nat} (hA : A ≤ 8) (t : Nat → Int32) (s : Int32) (h1 : ag_CF A t s → post 1) (h0 : ¬ ag_CF A t s → post 0) : wpX_isConflictFree post (nI A, ag_al A, t) s := by
  unfold wpX_isConflictFree
  dsimp only
  exact ag_xa hA _ _ _ ⟨h1, h0⟩
theorem ag_xco {post : Int32 → Prop} {A : Nat} (hA : A ≤ 8) (t : Nat → Int32) (s : Int32) (h1 : ag_CO A t s → post 1) (h0 : ¬ ag_CO A t s → post 0) : wpX_isComplete post (nI A, ag_al A, t) s := by
  unfold wpX_isComplete
  dsimp only
  refine ag_xcf hA _ _ (fun c => ?_) (fun c => ?_)
  · exact br_f (by decide) (ag_xd hA _ _ ⟨fun e => h1 ⟨c, e⟩, fun e => h0 fun z => e z.2⟩)
  · exact br_t rfl (h0 fun z => c z.1)
theorem ag_xad {post : Int32 → Prop} {A : Nat} (hA : A ≤ 8) (t : Nat → Int32) (s : Int32) (h1 : ag_AD A t s → post 1) (h0 : ¬ ag_AD A t s → post 0) : wpX_isAdmissible post (nI A, ag_al A, t) s := by
  unfold wpX_isAdmissible
  dsimp only
  refine ag_xcf hA _ _ (fun c => ?_) (fun c => ?_)
  · exact br_f (by decide) (ag_xd hA _ _ ⟨fun e => ⟨rfl, h1 ⟨c, e⟩⟩, fun e => ⟨rfl, h0 fun z => e z.2⟩⟩)
  · exact br_t rfl (h0 fun z => c z.1)
theorem ag_xr {post : Int32 → Prop} {A : Nat} (hA : A ≤ 8) (t : Nat → Int32) (s : Int32) (h : post (s ||| ag_ar A t s)) : wpX_rangeOf post (nI A, ag_al A, t) s := by
  unfold wpX_rangeOf
  dsimp only
  exact ag_xa hA _ _ _ h
theorem ag_xst {post : Int32 → Prop} {A : Nat} (hA : A ≤ 8) (t : Nat → Int32) (s : Int32) (h1 : ag_ST A t s → post 1) (h0 : ¬ ag_ST A t s → post 0) : wpX_isStable post (nI A, ag_al A, t) s := by
  unfold wpX_isStable
  dsimp only
  refine ag_xcf hA _ _ (fun c => ?_) (fun c => ?_)
  · exact br_f (by decide) (ag_xr hA _ _ ⟨fun e => h1 ⟨c, e⟩, fun e => h0 fun z => e z.2⟩)
  · exact br_t rfl (h0 fun z => c z.1)
theorem ag_xpr_s {post : Int32 → Prop} {A : Nat} (hA : A ≤ 8) (t : Nat → Int32) (s : Int32) (n j : Nat) (hj : j < 2 ^ A) (h0 : ag_QP A t s j → post 0) (hn : ¬ ag_QP A t s j → wX_isPreferred_14 post s (nI A) (ag_al A) t n (nI (j + 1))) : wX_isPreferred_14 post s (nI A) (ag_al A) t (n + 1) (nI j) := by
  have hp := ag_pw hA
  have hp0 := ag_pw0 A
  refine pk_lt (2 ^ A - 1) j (fun h => absurd h (by omega)) (fun _ => ?_)
  refine br_c (fun e => ?_) (fun e => ?_)
  · refine br_f (by decide) (ag_xad hA t (nI j) (fun ad => ?_) (fun nad => ?_))
    · exact br_f (by decide) (h0 ⟨e, ad⟩)
    · exact br_t rfl (nm_r (nI_1 j) (hn fun q => nad q.2))
  · exact br_t rfl (nm_r (nI_1 j) (hn fun q => e q.1))
theorem ag_xpr {post : Int32 → Prop} {A : Nat} (hA : A ≤ 8) (t : Nat → Int32) (k : Nat) (hk : k < 2 ^ A) (h1 : ag_PR A t k → post 1) (h0 : ¬ ag_PR A t k → post 0) : wpX_isPreferred post (nI A, ag_al A, t) (nI k) := by
  have hp := ag_pw hA
  have hp0 := ag_pw0 A
  unfold wpX_isPreferred
  dsimp only
  refine ag_xad hA _ _ (fun c => ?_) (fun c => ?_)
  · refine br_f (by decide) (nm_r (nI_1 k) ⟨2 ^ A + 1, ?_⟩)
    refine ag_srch (2 ^ A) (ag_QP A t (nI k)) post (fun n x => wX_isPreferred_14 post (nI k) (nI A) (ag_al A) t n x) (fun n j hj a b => ag_xpr_s hA t (nI k) n j hj a b) (fun n h => ?_) (2 ^ A + 1) (k + 1) (by omega) (by omega) (fun h => h1 ⟨c, ag_PR_above (by omega) h⟩) (fun ⟨i, a, b, q⟩ => h0 fun z => z.2 i b (by omega) q)
    exact pk_lt (2 ^ A - 1) (2 ^ A) (fun _ => h) (fun z => absurd z (by omega))
  · exact br_t rfl (h0 fun z => c z.1)
theorem ag_xse_s {post : Int32 → Prop} {A : Nat} (hA : A ≤ 8) (t : Nat → Int32) (r : Int32) (n j : Nat) (hj : j < 2 ^ A) (h0 : ag_QS A t r j → post 0) (hn : ¬ ag_QS A t r j → wX_isSemistable_18 post r (nI A) (ag_al A) t n (nI (j + 1))) : wX_isSemistable_18 post r (nI A) (ag_al A) t (n + 1) (nI j) := by
  have hp := ag_pw hA
  have hp0 := ag_pw0 A
  refine pk_lt (2 ^ A - 1) j (fun h => absurd h (by omega)) (fun _ => ?_)
  refine ag_xr hA _ _ (br_c (fun e => ?_) (fun e => br_c (fun c => ?_) (fun c => ?_)))
  · exact nm_r (nI_1 j) (hn fun q => q.1 e)
  · refine br_f (by decide) (ag_xad hA t (nI j) (fun ad => ?_) (fun nad => ?_))
    · exact br_f (by decide) (h0 ⟨e, c, ad⟩)
    · exact br_t rfl (nm_r (nI_1 j) (hn fun q => nad q.2.2))
  · exact br_t rfl (nm_r (nI_1 j) (hn fun q => c q.2.1))
theorem ag_xse {post : Int32 → Prop} {A : Nat} (hA : A ≤ 8) (t : Nat → Int32) (k : Nat) (h1 : ag_SE A t k → post 1) (h0 : ¬ ag_SE A t k → post 0) : wpX_isSemistable post (nI A, ag_al A, t) (nI k) := by
  have hp := ag_pw hA
  have hp0 := ag_pw0 A
  unfold wpX_isSemistable
  dsimp only
  refine ag_xad hA _ _ (fun c => ?_) (fun c => ?_)
  · refine br_f (by decide) (ag_xr hA _ _ ⟨2 ^ A + 1, ?_⟩)
    refine ag_srch (2 ^ A) (ag_QS A t (nI k ||| ag_ar A t (nI k))) post (fun n x => wX_isSemistable_18 post (nI k ||| ag_ar A t (nI k)) (nI A) (ag_al A) t n x) (fun n j hj a b => ag_xse_s hA t _ n j hj a b) (fun n h => ?_) (2 ^ A + 1) 0 (by omega) (by omega) (fun h => h1 ⟨c, fun i hi => h i (by omega) hi⟩) (fun ⟨i, a, b, q⟩ => h0 fun z => z.2 i b q)
    exact pk_lt (2 ^ A - 1) (2 ^ A) (fun _ => h) (fun z => absurd z (by omega))
  · exact br_t rfl (h0 fun z => c z.1)
theorem ag_xg_loop {post : Int32 → Prop} {A : Nat} (hA : A ≤ 8) (t : Nat → Int32) (h : post (ag_it A t A)) : ∀ n i, i ≤ A → A - i < n → wX_grounded_4 post (nI A) (ag_al A) t n (ag_it A t i) (nI i) := by
  intro n
  induction n with
  | zero => intro i _ hn; omega
  | succ n ih =>
    intro i hi hn
    refine pk_le A i (fun z => ?_) (fun z => ?_)
    · have e : i = A := by omega
      subst e
      exact h
    · exact ag_xd hA t _ (nm_r (nI_1 i) (ih (i + 1) (by omega) (by omega)))
theorem ag_xg {post : Int32 → Prop} {A : Nat} (hA : A ≤ 8) (t : Nat → Int32) (h : post (ag_it A t A)) : wpX_grounded post (nI A, ag_al A, t) := ⟨A + 1, ag_xg_loop hA t h (A + 1) 0 (by omega) (by omega)⟩
/-! ===== Y's walks ===== -/
theorem ag_sh3 {m : Nat} (hm : m < 64) : nI m >>> ((3 : Int32) &&& 31) = nI (m / 8) := pk_shrN (by omega) _ 3 (by decide)
theorem ag_and7 {m : Nat} (hm : m < 64) : nI m &&& 7 = nI (m % 8) := pk_andN (by omega) 3 (by decide)
theorem ag_in {post : Int32 → Prop} {n al : Int32} {th : Nat → Int32} (s : Int32) {i : Nat} (hi : i < 32) (h1 : bt s i = true → post 1) (h0 : ¬ bt s i = true → post 0) : wpY_in post (n, al, th) s (nI i) := br_c (fun c => h1 ((ag_bit s hi).mp c)) (fun c => h0 fun b => c ((ag_bit s hi).mpr b))
theorem ag_ya_loop {post : Int32 → Prop} (n0 al : Int32) (th : Nat → Int32) (s : Int32) (h : post (ag_yf th s 64)) : ∀ n i, i ≤ 64 → 64 - i < n → wY_attacked_4 post s n0 al th n (ag_yf th s i) (nI i) := by
  intro n
  induction n with
  | zero => intro i _ hn; omega
  | succ n ih =>
    intro i hi hn
    refine pk_le 64 i (fun z => ?_) (fun z => ?_)
    · have e : i = 64 := by omega
      subst e
      exact h
    · refine ⟨pk_in i 64 z, ?_⟩
      rw [ag_sh3 z, ag_and7 z, nI_clamp (show i < 2 ^ 31 by omega)]
      refine br_c (fun e => ?_) (fun e => ?_)
      · refine nm_r (nI_1 i) ?_
        rw [← ag_yfF (th := th) (s := s) (m := i) fun c => c.1 e]
        exact ih (i + 1) (by omega) (by omega)
      · refine ag_in s (by omega) (fun b => br_f (by decide) (nm_e (nm_r (nI_1 i) ?_))) (fun b => br_t rfl (nm_r (nI_1 i) ?_))
        · rw [← ag_yfT (th := th) (s := s) (m := i) ⟨e, b⟩]
          exact ih (i + 1) (by omega) (by omega)
        · rw [← ag_yfF (th := th) (s := s) (m := i) fun c => b c.2]
          exact ih (i + 1) (by omega) (by omega)
theorem ag_ya {post : Int32 → Prop} {A : Nat} {t th : Nat → Int32} (R : ag_R A t th) (n0 al : Int32) (s : Int32) (h : post (ag_ar A t s)) : wpY_attacked post (n0, al, th) s := by
  rw [← ag_yf_eq R] at h
  exact ⟨65, ag_ya_loop n0 al th s h 65 0 (by omega) (by omega)⟩
theorem ag_yd_loop {post : Int32 → Prop} (n0 al al0 : Int32) (th : Nat → Int32) (s : Int32) (h : post (ag_yd th al0 s 64)) : ∀ n i, i ≤ 64 → 64 - i < n → wY_defended_14 post s n0 al th n (ag_yd th al0 s i) (nI i) := by
  intro n
  induction n with
  | zero => intro i _ hn; omega
  | succ n ih =>
    intro i hi hn
    refine pk_le 64 i (fun z => ?_) (fun z => ?_)
    · have e : i = 64 := by omega
      subst e
      exact h
    · refine ⟨pk_in i 64 z, ?_⟩
      rw [ag_sh3 z, ag_and7 z, nI_clamp (show i < 2 ^ 31 by omega)]
      refine br_c (fun e => ?_) (fun e => ?_)
      · refine nm_r (nI_1 i) ?_
        rw [← ag_ydF (th := th) (al := al0) (s := s) (m := i) fun c => c.1 e]
        exact ih (i + 1) (by omega) (by omega)
      · refine ag_in s (by omega) (fun b => br_f (by decide) (nm_r (nI_1 i) ?_)) (fun b => br_t rfl (nm_e (nm_r (nI_1 i) ?_)))
        · rw [← ag_ydF (th := th) (al := al0) (s := s) (m := i) fun c => c.2 b]
          exact ih (i + 1) (by omega) (by omega)
        · rw [← ag_ydT (th := th) (al := al0) (s := s) (m := i) ⟨e, b⟩]
          exact ih (i + 1) (by omega) (by omega)
theorem ag_yde {post : Int32 → Prop} {A : Nat} {t th : Nat → Int32} (R : ag_R A t th) (n0 : Int32) (s : Int32) (h : post (ag_dr A t s)) : wpY_defended post (n0, ag_al A, th) s := by
  unfold wpY_defended
  dsimp only
  refine ag_ya R _ _ _ ?_
  rw [← ag_yd_eq R] at h
  exact ⟨65, ag_yd_loop n0 _ _ th _ h 65 0 (by omega) (by omega)⟩
theorem ag_ycf {post : Int32 → Prop} {A : Nat} {t th : Nat → Int32} (R : ag_R A t th) (s : Int32) (h1 : ag_CF A t s → post 1) (h0 : ¬ ag_CF A t s → post 0) : wpY_conflictFree post (nI A, ag_al A, th) s := by
  unfold wpY_conflictFree
  dsimp only
  exact ag_ya R _ _ _ ⟨h1, h0⟩
theorem ag_yad {post : Int32 → Prop} {A : Nat} {t th : Nat → Int32} (R : ag_R A t th) (s : Int32) (h1 : ag_AD A t s → post 1) (h0 : ¬ ag_AD A t s → post 0) : wpY_admissible post (nI A, ag_al A, th) s := by
  unfold wpY_admissible
  dsimp only
  refine ag_ycf R _ (fun c => ?_) (fun c => ?_)
  · exact br_f (by decide) (ag_yde R _ _ ⟨fun e => h1 ⟨c, e⟩, fun e => h0 fun z => e z.2⟩)
  · exact br_t rfl (h0 fun z => c z.1)
theorem ag_ymx_s {post : Int32 → Prop} {A : Nat} {t th : Nat → Int32} (R : ag_R A t th) (k : Nat) (hk : k < 2 ^ A) (n j : Nat) (hj : j < 2 ^ A) (h0 : (j ≠ k ∧ ag_QP A t (nI k) j) → post 0) (hn : ¬ (j ≠ k ∧ ag_QP A t (nI k) j) → wY_maximal_2 post (nI k) (nI A) (ag_al A) th n (nI (j + 1))) : wY_maximal_2 post (nI k) (nI A) (ag_al A) th (n + 1) (nI j) := by
  have hp := ag_pw R.2.1
  have hp0 := ag_pw0 A
  refine pk_lt (2 ^ A - 1) j (fun h => absurd h (by omega)) (fun _ => ?_)
  refine pk_eq j k (fun e => ?_) (fun e => br_c (fun c => ?_) (fun c => ?_))
  · exact nm_r (nI_1 j) (hn fun q => q.1 e)
  · refine ag_yad R (nI j) (fun ad => ?_) (fun nad => ?_)
    · exact br_f (by decide) (h0 ⟨e, c, ad⟩)
    · exact br_t rfl (nm_r (nI_1 j) (hn fun q => nad q.2.2))
  · exact nm_r (nI_1 j) (hn fun q => c q.2.1)
theorem ag_ymx {post : Int32 → Prop} {A : Nat} {t th : Nat → Int32} (R : ag_R A t th) (k : Nat) (hk : k < 2 ^ A) (h1 : (∀ i, i < 2 ^ A → i ≠ k → ¬ ag_QP A t (nI k) i) → post 1) (h0 : ¬ (∀ i, i < 2 ^ A → i ≠ k → ¬ ag_QP A t (nI k) i) → post 0) : wpY_maximal post (nI A, ag_al A, th) (nI k) := by
  have hp := ag_pw R.2.1
  have hp0 := ag_pw0 A
  refine ⟨2 ^ A + 1, ?_⟩
  refine ag_srch (2 ^ A) (fun j => j ≠ k ∧ ag_QP A t (nI k) j) post (fun n x => wY_maximal_2 post (nI k) (nI A) (ag_al A) th n x) (fun n j hj a b => ag_ymx_s R k hk n j hj a b) (fun n h => ?_) (2 ^ A + 1) 0 (by omega) (by omega) (fun h => h1 fun i hi e q => h i (by omega) hi ⟨e, q⟩) (fun ⟨i, a, b, q⟩ => h0 fun z => z i b q.1 q.2)
  exact pk_lt (2 ^ A - 1) (2 ^ A) (fun _ => h) (fun z => absurd z (by omega))
theorem ag_ywd_s {post : Int32 → Prop} {A : Nat} {t th : Nat → Int32} (R : ag_R A t th) (r : Int32) (n j : Nat) (hj : j < 2 ^ A) (h0 : ag_QS A t r j → post 0) (hn : ¬ ag_QS A t r j → wY_widest_10 post r (nI A) (ag_al A) th n (nI (j + 1))) : wY_widest_10 post r (nI A) (ag_al A) th (n + 1) (nI j) := by
  have hp := ag_pw R.2.1
  have hp0 := ag_pw0 A
  refine pk_lt (2 ^ A - 1) j (fun h => absurd h (by omega)) (fun _ => ?_)
  refine ag_ya R _ _ _ (nm_e (br_c (fun e => ?_) (fun e => br_c (fun c => ?_) (fun c => ?_))))
  · exact nm_r (nI_1 j) (hn fun q => q.1 e)
  · refine ag_yad R (nI j) (fun ad => ?_) (fun nad => ?_)
    · exact br_f (by decide) (h0 ⟨e, c, ad⟩)
    · exact br_t rfl (nm_r (nI_1 j) (hn fun q => nad q.2.2))
  · exact nm_r (nI_1 j) (hn fun q => c q.2.1)
theorem ag_ywd {post : Int32 → Prop} {A : Nat} {t th : Nat → Int32} (R : ag_R A t th) (k : Nat) (h1 : (∀ i, i < 2 ^ A → ¬ ag_QS A t (nI k ||| ag_ar A t (nI k)) i) → post 1) (h0 : ¬ (∀ i, i < 2 ^ A → ¬ ag_QS A t (nI k ||| ag_ar A t (nI k)) i) → post 0) : wpY_widest post (nI A, ag_al A, th) (nI k) := by
  have hp := ag_pw R.2.1
  have hp0 := ag_pw0 A
  unfold wpY_widest
  dsimp only
  refine ag_ya R _ _ _ (nm_e ⟨2 ^ A + 1, ?_⟩)
  refine ag_srch (2 ^ A) (ag_QS A t (nI k ||| ag_ar A t (nI k))) post (fun n x => wY_widest_10 post (nI k ||| ag_ar A t (nI k)) (nI A) (ag_al A) th n x) (fun n j hj a b => ag_ywd_s R _ n j hj a b) (fun n h => ?_) (2 ^ A + 1) 0 (by omega) (by omega) (fun h => h1 fun i hi => h i (by omega) hi) (fun ⟨i, a, b, q⟩ => h0 fun z => z i b q)
  exact pk_lt (2 ^ A - 1) (2 ^ A) (fun _ => h) (fun z => absurd z (by omega))
end
section
/-! ===== one kind, both sides ===== -/
theorem ag_0 {A : Nat} {t th : Nat → Int32} (R : ag_R A t th) (k : Nat) (hk : k < 2 ^ A) (post : Int32 → Prop) (h1 : ag_CO A t (nI k) → post 1) (h0 : ¬ ag_CO A t (nI k) → post 0) : wpX_isExtension post (nI A, ag_al A, t) 0 (nI k) ∧ wpY_is post (nI A, ag_al A, th) 0 (nI k) := by
  constructor
  · unfold wpX_isExtension
    dsimp only
    refine br_f (by decide) (br_f (by decide) (br_t rfl ?_))
    exact ag_xco R.2.1 t _ (fun h => ⟨rfl, h1 h⟩) (fun h => ⟨rfl, h0 h⟩)
  · unfold wpY_is
    dsimp only
    refine br_f (by decide) (ag_yad R _ (fun ad => br_f (by decide) (br_t rfl ?_)) (fun nad => br_t rfl (h0 fun z => nad (ag_AD_of.mp z).1)))
    exact ag_yde R _ _ ⟨fun e => h1 (ag_AD_of.mpr ⟨ad, e⟩), fun e => h0 fun z => e z.2⟩
theorem ag_k1 {A : Nat} {t th : Nat → Int32} (R : ag_R A t th) (k : Nat) (hk : k < 2 ^ A) (post : Int32 → Prop) (h1 : ag_PR A t k → post 1) (h0 : ¬ ag_PR A t k → post 0) : wpX_isExtension post (nI A, ag_al A, t) 1 (nI k) ∧ wpY_is post (nI A, ag_al A, th) 1 (nI k) := by
  constructor
  · unfold wpX_isExtension
    dsimp only
    refine br_f (by decide) (br_f (by decide) (br_f (by decide) (br_t rfl ?_)))
    exact ag_xpr R.2.1 t k hk (fun h => ⟨rfl, h1 h⟩) (fun h => ⟨rfl, h0 h⟩)
  · unfold wpY_is
    dsimp only
    refine br_f (by decide) (ag_yad R _ (fun ad => br_f (by decide) (br_f (by decide) (br_t rfl ?_))) (fun nad => br_t rfl (h0 fun z => nad z.1)))
    exact ag_ymx R k hk (fun h => ⟨rfl, h1 ⟨ad, h⟩⟩) (fun h => ⟨rfl, h0 fun z => h z.2⟩)
theorem ag_k2 {A : Nat} {t th : Nat → Int32} (R : ag_R A t th) (k : Nat) (hk : k < 2 ^ A) (post : Int32 → Prop) (h1 : ag_ST A t (nI k) → post 1) (h0 : ¬ ag_ST A t (nI k) → post 0) : wpX_isExtension post (nI A, ag_al A, t) 2 (nI k) ∧ wpY_is post (nI A, ag_al A, th) 2 (nI k) := by
  constructor
  · unfold wpX_isExtension
    dsimp only
    refine br_f (by decide) (br_f (by decide) (br_f (by decide) (br_f (by decide) (br_t rfl ?_))))
    exact ag_xst R.2.1 t _ (fun h => ⟨rfl, h1 h⟩) (fun h => ⟨rfl, h0 h⟩)
  · unfold wpY_is
    dsimp only
    refine br_t rfl (ag_ycf R _ (fun c => br_f (by decide) ?_) (fun c => br_t rfl (h0 fun z => c z.1)))
    exact ag_ya R _ _ _ ⟨fun e => h1 ⟨c, e⟩, fun e => h0 fun z => e z.2⟩
theorem ag_k3 {A : Nat} {t th : Nat → Int32} (R : ag_R A t th) (k : Nat) (hk : k < 2 ^ A) (post : Int32 → Prop) (h1 : ag_SE A t k → post 1) (h0 : ¬ ag_SE A t k → post 0) : wpX_isExtension post (nI A, ag_al A, t) 3 (nI k) ∧ wpY_is post (nI A, ag_al A, th) 3 (nI k) := by
  constructor
  · unfold wpX_isExtension
    dsimp only
    refine br_f (by decide) (br_t (by decide) ?_)
    exact ag_xse R.2.1 t k (fun h => ⟨rfl, h1 h⟩) (fun h => ⟨rfl, h0 h⟩)
  · unfold wpY_is
    dsimp only
    refine br_f (by decide) (ag_yad R _ (fun ad => br_f (by decide) (br_f (by decide) (br_f (by decide) ?_))) (fun nad => br_t rfl (h0 fun z => nad z.1)))
    exact ag_ywd R k (fun h => ⟨rfl, h1 ⟨ad, h⟩⟩) (fun h => ⟨rfl, h0 fun z => h z.2⟩)
/-- what 'is an extension of this kind' is: one E for both sides -/
def ag_E (A : Nat) (t th : Nat → Int32) (v : Int32) (E : Nat → Prop) : Prop := ∀ k, k < 2 ^ A → ∀ post : Int32 → Prop, (E k → post 1) → (¬ E k → post 0) → wpX_isExtension post (nI A, ag_al A, t) v (nI k) ∧ wpY_is post (nI A, ag_al A, th) v (nI k)
theorem ag_kind {A : Nat} {t th : Nat → Int32} (R : ag_R A t th) (v : Int32) : v < 0 ∨ (¬ v < 0 ∧ 3 < v) ∨ (¬ v < 0 ∧ ¬ 3 < v ∧ ∃ E, ag_E A t th v E) := by
  by_cases h : v < 0
  · exact Or.inl h
  · by_cases h3 : 3 < v
    · exact Or.inr (Or.inl ⟨h, h3⟩)
    · refine Or.inr (Or.inr ⟨h, h3, ?_⟩)
      obtain ⟨j, hj, rfl⟩ := nI_of h
      have h4 : j ≤ 3 := by
        apply Nat.le_of_not_lt
        intro z
        exact h3 (nI_lt (a := 3) z hj)
      have c : j = 0 ∨ j = 1 ∨ j = 2 ∨ j = 3 := by omega
      rcases c with rfl | rfl | rfl | rfl
      · exact ⟨fun k => ag_CO A t (nI k), ag_0 R⟩
      · exact ⟨fun k => ag_PR A t k, ag_k1 R⟩
      · exact ⟨fun k => ag_ST A t (nI k), ag_k2 R⟩
      · exact ⟨fun k => ag_SE A t k, ag_k3 R⟩
/-! ===== the four folds ===== -/
theorem ag_count {A : Nat} (hA : A ≤ 8) {t th : Nat → Int32} {v : Int32} {E : Nat → Prop} (hE : ag_E A t th v E) : ∃ r, (∀ post : Int32 → Prop, post r → wX_count_13 post v (nI A) (ag_al A) t (2 ^ A + 1) 0 0) ∧ (∀ post : Int32 → Prop, post r → wY_count_14 post v (nI A) (ag_al A) th (2 ^ A + 1) 0 0) := by
  have hp := ag_pw hA
  have hp0 := ag_pw0 A
  refine ag_lk (2 ^ A) E (fun c _ => c + 1) (fun post n c x => wX_count_13 post v (nI A) (ag_al A) t n c x) (fun post n c x => wY_count_14 post v (nI A) (ag_al A) th n c x) ?_ ?_ ?_ ?_ (2 ^ A) 0 0 (by omega)
  · intro post n j c hj h1 h0
    exact pk_lt (2 ^ A - 1) j (fun h => absurd h (by omega)) (fun _ => (hE j hj _ (fun e => br_f (by decide) (nm_e (nm_r (nI_1 j) (h1 e)))) (fun e => br_t rfl (nm_r (nI_1 j) (h0 e)))).1)
  · intro post n c h
    exact pk_lt (2 ^ A - 1) (2 ^ A) (fun _ => h) (fun z => absurd z (by omega))
  · intro post n j c hj h1 h0
    exact pk_lt (2 ^ A - 1) j (fun h => absurd h (by omega)) (fun _ => (hE j hj _ (fun e => br_f (by decide) (nm_e (nm_r (nI_1 j) (h1 e)))) (fun e => br_t rfl (nm_r (nI_1 j) (h0 e)))).2)
  · intro post n c h
    exact pk_lt (2 ^ A - 1) (2 ^ A) (fun _ => h) (fun z => absurd z (by omega))
theorem ag_some {A : Nat} (hA : A ≤ 8) {t th : Nat → Int32} {v : Int32} {E : Nat → Prop} (hE : ag_E A t th v E) : ∃ r, (∀ post : Int32 → Prop, post r → wX_inSome_13 post v (nI A) (ag_al A) t (2 ^ A + 1) 0 0) ∧ (∀ post : Int32 → Prop, post r → wY_inSome_14 post v (nI A) (ag_al A) th (2 ^ A + 1) 0 0) := by
  have hp := ag_pw hA
  have hp0 := ag_pw0 A
  refine ag_lk (2 ^ A) E (fun c x => c ||| x) (fun post n c x => wX_inSome_13 post v (nI A) (ag_al A) t n c x) (fun post n c x => wY_inSome_14 post v (nI A) (ag_al A) th n c x) ?_ ?_ ?_ ?_ (2 ^ A) 0 0 (by omega)
  · intro post n j c hj h1 h0
    exact pk_lt (2 ^ A - 1) j (fun h => absurd h (by omega)) (fun _ => (hE j hj _ (fun e => br_f (by decide) (nm_e (nm_r (nI_1 j) (h1 e)))) (fun e => br_t rfl (nm_r (nI_1 j) (h0 e)))).1)
  · intro post n c h
    exact pk_lt (2 ^ A - 1) (2 ^ A) (fun _ => h) (fun z => absurd z (by omega))
  · intro post n j c hj h1 h0
    exact pk_lt (2 ^ A - 1) j (fun h => absurd h (by omega)) (fun _ => (hE j hj _ (fun e => br_f (by decide) (nm_e (nm_r (nI_1 j) (h1 e)))) (fun e => br_t rfl (nm_r (nI_1 j) (h0 e)))).2)
  · intro post n c h
    exact pk_lt (2 ^ A - 1) (2 ^ A) (fun _ => h) (fun z => absurd z (by omega))
theorem ag_every {A : Nat} (hA : A ≤ 8) {t th : Nat → Int32} {v : Int32} {E : Nat → Prop} (hE : ag_E A t th v E) : ∃ r, (∀ post : Int32 → Prop, post r → wX_inEvery_16 post v (nI A) (ag_al A) t (2 ^ A + 1) (ag_al A) 0) ∧ (∀ post : Int32 → Prop, post r → wY_inEvery_17 post v (nI A) (ag_al A) th (2 ^ A + 1) (ag_al A) 0) := by
  have hp := ag_pw hA
  have hp0 := ag_pw0 A
  refine ag_lk (2 ^ A) E (fun c x => c &&& x) (fun post n c x => wX_inEvery_16 post v (nI A) (ag_al A) t n c x) (fun post n c x => wY_inEvery_17 post v (nI A) (ag_al A) th n c x) ?_ ?_ ?_ ?_ (2 ^ A) 0 (ag_al A) (by omega)
  · intro post n j c hj h1 h0
    exact pk_lt (2 ^ A - 1) j (fun h => absurd h (by omega)) (fun _ => (hE j hj _ (fun e => br_f (by decide) (nm_e (nm_r (nI_1 j) (h1 e)))) (fun e => br_t rfl (nm_r (nI_1 j) (h0 e)))).1)
  · intro post n c h
    exact pk_lt (2 ^ A - 1) (2 ^ A) (fun _ => h) (fun z => absurd z (by omega))
  · intro post n j c hj h1 h0
    exact pk_lt (2 ^ A - 1) j (fun h => absurd h (by omega)) (fun _ => (hE j hj _ (fun e => br_f (by decide) (nm_e (nm_r (nI_1 j) (h1 e)))) (fun e => br_t rfl (nm_r (nI_1 j) (h0 e)))).2)
  · intro post n c h
    exact pk_lt (2 ^ A - 1) (2 ^ A) (fun _ => h) (fun z => absurd z (by omega))
theorem ag_ext {A : Nat} (hA : A ≤ 8) {t th : Nat → Int32} {v : Int32} {E : Nat → Prop} (hE : ag_E A t th v E) (k : Int32) : ∃ r, (∀ post : Int32 → Prop, post r → wX_extension_14 post v k (nI A) (ag_al A) t (2 ^ A + 1) 0 0) ∧ (∀ post : Int32 → Prop, post r → wY_extension_15 post v k (nI A) (ag_al A) th (2 ^ A + 1) 0 0) := by
  have hp := ag_pw hA
  have hp0 := ag_pw0 A
  refine ag_le (2 ^ A) E k (fun post n c x => wX_extension_14 post v k (nI A) (ag_al A) t n c x) (fun post n c x => wY_extension_15 post v k (nI A) (ag_al A) th n c x) ?_ ?_ ?_ ?_ (2 ^ A) 0 0 (by omega)
  · intro post n j c hj h2 h1 h0
    exact pk_lt (2 ^ A - 1) j (fun h => absurd h (by omega)) (fun _ => (hE j hj _ (fun e => br_f (by decide) (br_c (h2 e) (fun f => nm_e (nm_r (nI_1 j) (h1 e f))))) (fun e => br_t rfl (nm_r (nI_1 j) (h0 e)))).1)
  · intro post n c h
    exact pk_lt (2 ^ A - 1) (2 ^ A) (fun _ => h) (fun z => absurd z (by omega))
  · intro post n j c hj h2 h1 h0
    exact pk_lt (2 ^ A - 1) j (fun h => absurd h (by omega)) (fun _ => (hE j hj _ (fun e => br_f (by decide) (br_c (h2 e) (fun f => nm_e (nm_r (nI_1 j) (h1 e f))))) (fun e => br_t rfl (nm_r (nI_1 j) (h0 e)))).2)
  · intro post n c h
    exact pk_lt (2 ^ A - 1) (2 ^ A) (fun _ => h) (fun z => absurd z (by omega))
/-! ===== Y's grounded ===== -/
theorem ag_yg_in0 {post J : Int32 → Prop} {x n0 al : Int32} {th : Nat → Int32} {i : Int32} (n : Nat) (h : J (x + 1)) : wY_grounded_30 post J x n0 al th (n + 1) 0 i := br_c (fun _ => br_t rfl (nm_e h)) (fun _ => br_t rfl (br_t rfl (nm_e h)))
def ag_Qg (A : Nat) (t : Nat → Int32) (x : Int32) (i : Nat) : Prop := (ag_dr A t (nI i) &&& (nI i ^^^ (-1))) = 0 ∧ ¬ (x &&& (nI i ^^^ (-1))) = 0
theorem ag_yg_in {post J : Int32 → Prop} {A : Nat} {t th : Nat → Int32} (R : ag_R A t th) (x : Int32) : ∀ n j, j ≤ 2 ^ A → 2 ^ A - j + 1 < n → ((∀ i, j ≤ i → i < 2 ^ A → ¬ ag_Qg A t x i) → post x) → ((∃ i, j ≤ i ∧ i < 2 ^ A ∧ ag_Qg A t x i) → J (x + 1)) → wY_grounded_30 post J x (nI A) (ag_al A) th n 1 (nI j) := by
  have hp := ag_pw R.2.1
  have hp0 := ag_pw0 A
  intro n
  induction n with
  | zero => intro j _ hn; omega
  | succ n ih =>
    intro j hj hn h1 h0
    refine pk_lt (2 ^ A - 1) j (fun z => ?_) (fun z => ?_)
    · exact br_f (by decide) (h1 fun i hi hm => absurd hi (by omega))
    · refine br_f (by decide) (ag_yde R _ _ (br_c (fun e => br_c (fun f => ?_) (fun f => ?_)) (fun e => ?_)))
      · refine nm_r (nI_1 j) (ih (j + 1) (by omega) (by omega) (fun a => h1 fun i hi hm q => ?_) (fun ⟨i, a, b, q⟩ => h0 ⟨i, by omega, b, q⟩))
        rcases Nat.eq_or_lt_of_le hi with y | y
        · subst y
          exact q.2 f
        · exact a i y hm q
      · obtain ⟨m, rfl⟩ : ∃ m, n = m + 1 := ⟨n - 1, by omega⟩
        exact nm_e (ag_yg_in0 m (h0 ⟨j, Nat.le_refl j, by omega, e, f⟩))
      · refine nm_r (nI_1 j) (ih (j + 1) (by omega) (by omega) (fun a => h1 fun i hi hm q => ?_) (fun ⟨i, a, b, q⟩ => h0 ⟨i, by omega, b, q⟩))
        rcases Nat.eq_or_lt_of_le hi with y | y
        · subst y
          exact e q.1
        · exact a i y hm q
theorem ag_yg_loop {post : Int32 → Prop} {A : Nat} {t th : Nat → Int32} (R : ag_R A t th) {g : Nat} (hg : g < 2 ^ A) (lg : ag_LP A t g) (un : ∀ j, j < 2 ^ A → ag_LP A t j → j = g) (h : post (nI g)) : ∀ n j, j ≤ g → g - j < n → wY_grounded_2 post (nI A) (ag_al A) th n (nI j) := by
  have hp := ag_pw R.2.1
  have hp0 := ag_pw0 A
  intro n
  induction n with
  | zero => intro j _ hn; omega
  | succ n ih =>
    intro j hj hn
    refine pk_lt (2 ^ A - 1) j (fun z => absurd z (by omega)) (fun _ => ag_yde R _ _ ?_)
    have nxt : ¬ ag_LP A t j → wY_grounded_2 post (nI A) (ag_al A) th n (nI j + 1) := by
      intro nl
      have ne : j ≠ g := fun e => nl (e ▸ lg)
      rw [nI_1]
      exact ih (j + 1) (by omega) (by omega)
    refine br_c (fun e => ⟨2 ^ A + 2, ?_⟩) (fun e => ⟨1, ?_⟩)
    · refine ag_yg_in R (nI j) (2 ^ A + 2) 0 (by omega) (by omega) (fun a => ?_) (fun ⟨i, a, b, q⟩ => nxt fun l => l.2 i b q)
      have l : ag_LP A t j := ⟨e, fun i hi => a i (by omega) hi⟩
      have f := un j (by omega) l
      subst f
      exact h
    · exact ag_yg_in0 0 (nxt fun l => e l.1)
theorem ag_grd {A : Nat} {t th : Nat → Int32} (R : ag_R A t th) : ∃ r, (∀ post : Int32 → Prop, post r → wpX_grounded post (nI A, ag_al A, t)) ∧ (∀ post : Int32 → Prop, post r → wpY_grounded post (nI A, ag_al A, th)) := by
  obtain ⟨g, hg, e, lg, un⟩ := ag_gr R.2.1 t
  refine ⟨nI g, fun post h => ag_xg R.2.1 t (by rw [e]; exact h), fun post h => ⟨g + 1, ?_⟩⟩
  exact ag_yg_loop R hg lg un h (g + 1) 0 (by omega) (by omega)
end
section
/-! ===== clear ===== -/
theorem ag_has {post : Int32 → Prop} (s : Int32) {i : Nat} (hi : i < 32) (h1 : bt s i = true → post 1) (h0 : ¬ bt s i = true → post 0) : wpX_has post s (nI i) := br_c (fun c => h1 ((ag_bit s hi).mp c)) (fun c => h0 fun b => c ((ag_bit s hi).mpr b))
theorem ag_xs_loop {post : Int32 → Prop} {A : Nat} (hA : A ≤ 8) (al : Int32) (t : Nat → Int32) (s : Int32) (h : post (nI (ag_cn (bt s) A))) : ∀ n i, i ≤ A → A - i < n → wX_sizeOf_4 post s (nI A) al t n (nI (ag_cn (bt s) i)) (nI i) := by
  intro n
  induction n with
  | zero => intro i _ hn; omega
  | succ n ih =>
    intro i hi hn
    refine pk_le A i (fun z => ?_) (fun z => ?_)
    · have e : i = A := by omega
      subst e
      exact h
    · refine ag_has s (by omega) (fun b => br_f (by decide) (nm_r (nI_1 _) (nm_r (nI_1 i) ?_))) (fun b => br_t rfl (nm_r (nI_1 i) ?_))
      · rw [← ag_cnT (f := bt s) b]
        exact ih (i + 1) (by omega) (by omega)
      · rw [← ag_cnF (f := bt s) b]
        exact ih (i + 1) (by omega) (by omega)
theorem ag_xs {post : Int32 → Prop} {A : Nat} (hA : A ≤ 8) (al : Int32) (t : Nat → Int32) (s : Int32) (h : post (nI (ag_cn (bt s) A))) : wpX_sizeOf post (nI A, al, t) s := ⟨A + 1, ag_xs_loop hA al t s h (A + 1) 0 (by omega) (by omega)⟩
theorem ag_xc_loop {post : Int32 → SX → Prop} {A : Nat} (hA : A ≤ 8) (al : Int32) (t : Nat → Int32) (h : ∀ r : Nat → Int32, (∀ a, a < A → r a = 0) → (∀ a, A ≤ a → r a = t a) → post (nI (ag_sm A t A)) (nI A, al, r)) : ∀ n i (r : Nat → Int32), i ≤ A → A - i < n → (∀ a, a < i → r a = 0) → (∀ a, i ≤ a → r a = t a) → wX_clear_4 post (nI A) al n (nI (ag_sm A t i)) (nI i) r := by
  intro n
  induction n with
  | zero => intro i r _ hn; omega
  | succ n ih =>
    intro i r hi hn r0 r1
    refine pk_le A i (fun z => ?_) (fun z => ?_)
    · have e : i = A := by omega
      subst e
      exact h r r0 r1
    · have hin : vp_in (nI i) 8 := pk_in i 8 (by omega)
      refine ⟨hin, ?_⟩
      rw [nI_clamp (show i < 2 ^ 31 by omega), r1 i (Nat.le_refl i)]
      refine ag_xs hA _ _ _ (nm_r (nI_add _ _) ⟨hin, nm_e (nm_r (nI_1 i) ?_)⟩)
      refine ih (i + 1) (upd r i 0) (by omega) (by omega) (fun a ha => ?_) (fun a ha => ?_)
      · by_cases e : a = i
        · subst e
          exact pk_us
        · rw [pk_un e]
          exact r0 a (by omega)
      · rw [pk_un (by omega)]
        exact r1 a (by omega)
theorem ag_xc {post : Int32 → SX → Prop} {A : Nat} (hA : A ≤ 8) (al : Int32) (t : Nat → Int32) (h : ∀ r : Nat → Int32, (∀ a, a < A → r a = 0) → (∀ a, A ≤ a → r a = t a) → post (nI (ag_sm A t A)) (nI A, al, r)) : wpX_clear post (nI A, al, t) := ⟨A + 1, ag_xc_loop hA al t h (A + 1) 0 t (by omega) (by omega) (fun a ha => absurd ha (by omega)) (fun a _ => rfl)⟩
theorem ag_nb0 : vp_nar .boolean 0 = 0 := rfl
theorem ag_nb1 : ¬ vp_nar .boolean 1 = 0 := by
  have e : vp_nar .boolean 1 = 1 := rfl
  rw [e]
  decide
theorem ag_yc_loop {post : Int32 → SY → Prop} (n0 al : Int32) (th : Nat → Int32) (h : ∀ r : Nat → Int32, (∀ a, a < 64 → r a = 0) → post (nI (ag_cn (fun j => decide (¬ th j = 0)) 64)) (n0, al, r)) : ∀ n i (r : Nat → Int32), i ≤ 64 → 64 - i < n → (∀ a, a < i → r a = 0) → (∀ a, i ≤ a → r a = th a) → wY_clear_4 post n0 al n (nI (ag_cn (fun j => decide (¬ th j = 0)) i)) (nI i) r := by
  intro n
  induction n with
  | zero => intro i r _ hn; omega
  | succ n ih =>
    intro i r hi hn r0 r1
    refine pk_le 64 i (fun z => ?_) (fun z => ?_)
    · have e : i = 64 := by omega
      subst e
      exact h r r0
    · have hin : vp_in (nI i) 64 := pk_in i 64 z
      refine ⟨hin, ?_⟩
      rw [nI_clamp (show i < 2 ^ 31 by omega), r1 i (Nat.le_refl i)]
      have k0 : ∀ a, a < i + 1 → upd r i (vp_nar .boolean 0) a = 0 := by
        intro a ha
        by_cases e : a = i
        · subst e
          exact pk_us
        · rw [pk_un e]
          exact r0 a (by omega)
      have k1 : ∀ a, i + 1 ≤ a → upd r i (vp_nar .boolean 0) a = th a := by
        intro a ha
        rw [pk_un (by omega)]
        exact r1 a (by omega)
      refine br_c (fun e => ⟨hin, nm_e (nm_r (nI_1 i) ?_)⟩) (fun e => nm_r (nI_1 _) ⟨hin, nm_e (nm_r (nI_1 i) ?_)⟩)
      · rw [← ag_cnF (f := fun j => decide (¬ th j = 0)) (n := i) fun c => (decide_eq_true_eq.mp c) e]
        exact ih (i + 1) _ (by omega) (by omega) k0 k1
      · rw [← ag_cnT (f := fun j => decide (¬ th j = 0)) (n := i) (decide_eq_true e)]
        exact ih (i + 1) _ (by omega) (by omega) k0 k1
theorem ag_yc {post : Int32 → SY → Prop} (n0 al : Int32) (th : Nat → Int32) (h : ∀ r : Nat → Int32, (∀ a, a < 64 → r a = 0) → post (nI (ag_cn (fun j => decide (¬ th j = 0)) 64)) (n0, al, r)) : wpY_clear post (n0, al, th) := ⟨65, ag_yc_loop n0 al th h 65 0 th (by omega) (by omega) (fun a ha => absurd ha (by omega)) (fun a _ => rfl)⟩
theorem ag_R_0 {A : Nat} (h2 : 2 ≤ A) (h8 : A ≤ 8) {t th : Nat → Int32} (z1 : ∀ a, a < 8 → t a = 0) (z2 : ∀ a, a < 64 → th a = 0) : ag_R A t th := by
  refine ⟨h2, h8, fun a b ha hb => ?_, fun a b ha _ => ?_, fun a _ ha => z1 a ha⟩
  · rw [z1 a ha, z2 (8 * a + b) (by omega), b_0]
    exact ⟨fun h => absurd h (by decide), fun h => absurd rfl h⟩
  · rw [z1 a ha, b_0]
/-! ===== arguments ===== -/
theorem ag_arg (v : Int32) {A : Nat} (hA : A ≤ 8) : (v < 0 ∨ nI A ≤ v) ∨ ∃ a, a < A ∧ v = nI a := by
  rcases pk_ix v (n := A) (by omega) with h | h | h
  · exact Or.inl (Or.inl h)
  · exact Or.inl (Or.inr h)
  · exact Or.inr h
theorem ag_xno {post : Int32 → Prop} {n al : Int32} {t : Nat → Int32} {v : Int32} (h : v < 0 ∨ n ≤ v) (h0 : post 0) : wpX_isArgument post (n, al, t) v := br_c (fun _ => h0) (fun z => br_t (h.resolve_left z) h0)
theorem ag_xok {post : Int32 → Prop} {A : Nat} (hA : A ≤ 8) {al : Int32} {t : Nat → Int32} {a : Nat} (ha : a < A) (h1 : post 1) : wpX_isArgument post (nI A, al, t) (nI a) := br_f (nI_pos (by omega)) (br_f (nI_ge ha (by omega)) h1)
theorem ag_yno {post : Int32 → Prop} {n al : Int32} {t : Nat → Int32} {v : Int32} (h : v < 0 ∨ n ≤ v) (h0 : post 0) : wpY_isArgument post (n, al, t) v := br_c (fun _ => h0) (fun z => br_t (h.resolve_left z) h0)
theorem ag_yok {post : Int32 → Prop} {A : Nat} (hA : A ≤ 8) {al : Int32} {t : Nat → Int32} {a : Nat} (ha : a < A) (h1 : post 1) : wpY_isArgument post (nI A, al, t) (nI a) := br_f (nI_pos (by omega)) (br_f (nI_ge ha (by omega)) h1)
theorem ag_ix (a b : Nat) : (8 : Int32) * nI a + nI b = nI (8 * a + b) := by
  show nI 8 * nI a + nI b = _
  rw [pk_mul, nI_add]
theorem ag_big {x y : Int32} {b c : Nat} (h : c < 32 → bt x c = bt y c) : bt x c = bt y c := by
  rcases Nat.lt_or_ge c 32 with z | z
  · exact h z
  · rw [b_big z, b_big z]
theorem ag_R_on {A : Nat} {t th : Nat → Int32} (R : ag_R A t th) {a b : Nat} (ha : a < A) (hb : b < A) : ag_R A (upd t a (t a ||| ((1 : Int32) <<< (nI b &&& 31)))) (upd th (8 * a + b) (vp_nar .boolean 1)) := by
  have h8 := R.2.1
  refine ag_R_upd R ha hb ⟨fun _ => ag_nb1, fun _ => ?_⟩ (fun c hc => ?_)
  · rw [b_or, ag_one (by omega) (by omega), decide_eq_true rfl, Bool.or_true]
  · refine ag_big (b := b) fun h => ?_
    rw [b_or, ag_one (by omega) h, decide_eq_false hc, Bool.or_false]
theorem ag_R_off {A : Nat} {t th : Nat → Int32} (R : ag_R A t th) {a b : Nat} (ha : a < A) (hb : b < A) : ag_R A (upd t a (t a &&& (((1 : Int32) <<< (nI b &&& 31)) ^^^ (-1)))) (upd th (8 * a + b) (vp_nar .boolean 0)) := by
  have h8 := R.2.1
  refine ag_R_upd R ha hb ⟨fun h => ?_, fun h => absurd ag_nb0 h⟩ (fun c hc => ?_)
  · rw [b_and, ag_not _ (by omega), ag_one (by omega) (by omega), decide_eq_true rfl] at h
    simp at h
  · refine ag_big (b := b) fun h => ?_
    rw [b_and, ag_not _ h, ag_one (by omega) h, decide_eq_false hc]
    simp
end
section
/-- both sides hold A arguments and the same attacks -/
def i_Rel (k : Nat) (u : SX) (v : SY) : Prop := ∃ (A : Nat) (t th : Nat → Int32), u = (nI A, ag_al A, t) ∧ v = (nI A, ag_al A, th) ∧ ag_R A t th
theorem i_up {k : Nat} {u : SX} {v : SY} (h : i_Rel k u v) : i_Rel (k + 3) u v := h
theorem ag_mk {k A : Nat} {t th : Nat → Int32} (R : ag_R A t th) : i_Rel k (nI A, ag_al A, t) (nI A, ag_al A, th) := ⟨A, t, th, rfl, rfl, R⟩
theorem ag_al2 : ∀ A, A < 9 → ((1 : Int32) <<< (nI A &&& 31)) - 1 = nI (2 ^ A - 1) := by decide +kernel
theorem ag_new {A : Nat} (h2 : 2 ≤ A) (h8 : A ≤ 8) : i_Rel 1 (nI A, ((1 : Int32) <<< (nI A &&& 31)) - 1, fun _ => 0) (nI A, ((1 : Int32) <<< (nI A &&& 31)) - 1, fun _ => 0) := by
  rw [ag_al2 A (by omega)]
  exact ag_mk (ag_R_0 h2 h8 (fun _ _ => rfl) (fun _ _ => rfl))
theorem i_vc0 (k0 : Int32) : wpX_init (fun u => wpY_init (fun v => i_Rel 1 u v) k0) k0 := by
  by_cases h2 : 2 ≤ k0
  · by_cases h8 : k0 ≤ 8
    · refine br_t h2 (br_t h8 (nm_e (br_t h2 (br_t h8 (nm_e ?_)))))
      have hn : ¬ k0 < 0 := fun z => absurd (Int32.lt_of_le_of_lt h2 z) (by decide)
      obtain ⟨j, hj, rfl⟩ := nI_of hn
      have a2 : 2 ≤ j := (nI_leI (a := 2) (by decide) hj).mp h2
      have a8 : j ≤ 8 := (nI_leI (b := 8) hj (by decide)).mp h8
      exact ag_new a2 a8
    · exact br_t h2 (br_f h8 (nm_e (br_t h2 (br_f h8 (nm_e (ag_new (A := 8) (by decide) (by decide)))))))
  · exact br_f h2 (br_t (by decide) (nm_e (br_f h2 (nm_e (ag_new (A := 2) (by decide) (by decide))))))
theorem i_vc_attack {k : Nat} {u : SX} {v : SY} (I : i_Rel k u v) (hk : k + 3 ≤ 1537) (v1 : Int32) (v2 : Int32) : wpX_attack (fun r u' => wpY_attack (fun r' v' => r' = r ∧ i_Rel (k + 3) u' v') v v1 v2) u v1 v2 := by
  obtain ⟨A, t, th, rfl, rfl, R⟩ := I
  have hA := R.2.1
  unfold wpX_attack wpY_attack
  dsimp only
  rcases ag_arg v1 hA with h | ⟨a, ha, rfl⟩
  · exact ag_xno h (br_t rfl (ag_yno h (br_t rfl ⟨rfl, ag_mk R⟩)))
  · rcases ag_arg v2 hA with h | ⟨b, hb, rfl⟩
    · exact ag_xok hA ha (br_f (by decide) (ag_xno h (br_t rfl (ag_yok hA ha (br_f (by decide) (ag_yno h (br_t rfl ⟨rfl, ag_mk R⟩)))))))
    · have i8 : vp_in (nI a) 8 := pk_in a 8 (by omega)
      have i64 : vp_in (nI (8 * a + b)) 64 := pk_in (8 * a + b) 64 (by omega)
      have r := R.2.2.1 a b (by omega) (by omega)
      rw [ag_ix, nI_clamp (show a < 2 ^ 31 by omega), nI_clamp (show 8 * a + b < 2 ^ 31 by omega)]
      refine ag_xok hA ha (br_f (by decide) (ag_xok hA hb (br_f (by decide) ⟨i8, ag_has _ (by omega) (fun z => ?_) (fun z => ?_)⟩)))
      · exact br_f (by decide) (ag_yok hA ha (br_f (by decide) (ag_yok hA hb (br_f (by decide) ⟨i64, br_f (r.mp z) ⟨rfl, ag_mk R⟩⟩))))
      · have z0 : th (8 * a + b) = 0 := Classical.byContradiction fun y => z (r.mpr y)
        exact br_t rfl ⟨i8, i8, nm_e (ag_yok hA ha (br_f (by decide) (ag_yok hA hb (br_f (by decide) ⟨i64, br_t z0 ⟨i64, nm_e ⟨rfl, ag_mk (ag_R_on R ha hb)⟩⟩⟩))))⟩
theorem i_vc_withdraw {k : Nat} {u : SX} {v : SY} (I : i_Rel k u v) (hk : k + 3 ≤ 1537) (v1 : Int32) (v2 : Int32) : wpX_withdraw (fun r u' => wpY_withdraw (fun r' v' => r' = r ∧ i_Rel (k + 3) u' v') v v1 v2) u v1 v2 := by
  obtain ⟨A, t, th, rfl, rfl, R⟩ := I
  have hA := R.2.1
  unfold wpX_withdraw wpY_withdraw
  dsimp only
  rcases ag_arg v1 hA with h | ⟨a, ha, rfl⟩
  · exact ag_xno h (br_t rfl (ag_yno h (br_t rfl ⟨rfl, ag_mk R⟩)))
  · rcases ag_arg v2 hA with h | ⟨b, hb, rfl⟩
    · exact ag_xok hA ha (br_f (by decide) (ag_xno h (br_t rfl (ag_yok hA ha (br_f (by decide) (ag_yno h (br_t rfl ⟨rfl, ag_mk R⟩)))))))
    · have i8 : vp_in (nI a) 8 := pk_in a 8 (by omega)
      have i64 : vp_in (nI (8 * a + b)) 64 := pk_in (8 * a + b) 64 (by omega)
      have r := R.2.2.1 a b (by omega) (by omega)
      rw [ag_ix, nI_clamp (show a < 2 ^ 31 by omega), nI_clamp (show 8 * a + b < 2 ^ 31 by omega)]
      refine ag_xok hA ha (br_f (by decide) (ag_xok hA hb (br_f (by decide) ⟨i8, ag_has _ (by omega) (fun z => ?_) (fun z => ?_)⟩)))
      · exact br_f (by decide) ⟨i8, i8, nm_e (ag_yok hA ha (br_f (by decide) (ag_yok hA hb (br_f (by decide) ⟨i64, br_f (r.mp z) ⟨i64, nm_e ⟨rfl, ag_mk (ag_R_off R ha hb)⟩⟩⟩))))⟩
      · have z0 : th (8 * a + b) = 0 := Classical.byContradiction fun y => z (r.mpr y)
        exact br_t rfl (ag_yok hA ha (br_f (by decide) (ag_yok hA hb (br_f (by decide) ⟨i64, br_t z0 ⟨rfl, ag_mk R⟩⟩))))
theorem i_vc_attacks {k : Nat} {u : SX} {v : SY} (I : i_Rel k u v) (hk : k + 3 ≤ 1537) (v1 : Int32) (v2 : Int32) : wpX_attacks (fun r => wpY_attacks (fun r' => r' = r ∧ i_Rel (k + 3) u v) v v1 v2) u v1 v2 := by
  obtain ⟨A, t, th, rfl, rfl, R⟩ := I
  have hA := R.2.1
  unfold wpX_attacks wpY_attacks
  dsimp only
  rcases ag_arg v1 hA with h | ⟨a, ha, rfl⟩
  · exact ag_xno h (br_t rfl (ag_yno h (br_t rfl ⟨rfl, ag_mk R⟩)))
  · rcases ag_arg v2 hA with h | ⟨b, hb, rfl⟩
    · exact ag_xok hA ha (br_f (by decide) (ag_xno h (br_t rfl (ag_yok hA ha (br_f (by decide) (ag_yno h (br_t rfl ⟨rfl, ag_mk R⟩)))))))
    · have i8 : vp_in (nI a) 8 := pk_in a 8 (by omega)
      have i64 : vp_in (nI (8 * a + b)) 64 := pk_in (8 * a + b) 64 (by omega)
      have r := R.2.2.1 a b (by omega) (by omega)
      rw [ag_ix, nI_clamp (show a < 2 ^ 31 by omega), nI_clamp (show 8 * a + b < 2 ^ 31 by omega)]
      refine ag_xok hA ha (br_f (by decide) (ag_xok hA hb (br_f (by decide) ⟨i8, ag_has _ (by omega) (fun z => ?_) (fun z => ?_)⟩)))
      · exact br_f (by decide) (ag_yok hA ha (br_f (by decide) (ag_yok hA hb (br_f (by decide) ⟨i64, br_f (r.mp z) ⟨rfl, ag_mk R⟩⟩))))
      · have z0 : th (8 * a + b) = 0 := Classical.byContradiction fun y => z (r.mpr y)
        exact br_t rfl (ag_yok hA ha (br_f (by decide) (ag_yok hA hb (br_f (by decide) ⟨i64, br_t z0 ⟨rfl, ag_mk R⟩⟩))))
theorem i_vc_grounded {k : Nat} {u : SX} {v : SY} (I : i_Rel k u v) (hk : k + 3 ≤ 1537) : wpX_grounded (fun r => wpY_grounded (fun r' => r' = r ∧ i_Rel (k + 3) u v) v) u := by
  obtain ⟨A, t, th, rfl, rfl, R⟩ := I
  obtain ⟨r, hX, hY⟩ := ag_grd R
  exact hX _ (hY _ ⟨rfl, ag_mk R⟩)
theorem i_vc_count {k : Nat} {u : SX} {v : SY} (I : i_Rel k u v) (hk : k + 3 ≤ 1537) (v1 : Int32) : wpX_count (fun r => wpY_count (fun r' => r' = r ∧ i_Rel (k + 3) u v) v v1) u v1 := by
  obtain ⟨A, t, th, rfl, rfl, R⟩ := I
  unfold wpX_count wpY_count
  dsimp only
  rcases ag_kind R v1 with h | ⟨h, h3⟩ | ⟨h, h3, E, hE⟩
  · exact br_t h (br_t rfl (br_t h (br_t rfl ⟨rfl, ag_mk R⟩)))
  · exact br_f h (br_t h3 (br_t rfl (br_f h (br_t h3 (br_t rfl ⟨rfl, ag_mk R⟩)))))
  · obtain ⟨r, hX, hY⟩ := ag_count R.2.1 hE
    exact br_f h (br_f h3 (br_f (by decide) ⟨2 ^ A + 1, hX _ (br_f h (br_f h3 (br_f (by decide) ⟨2 ^ A + 1, hY _ ⟨rfl, ag_mk R⟩⟩)))⟩))
theorem i_vc_extension {k : Nat} {u : SX} {v : SY} (I : i_Rel k u v) (hk : k + 3 ≤ 1537) (v1 : Int32) (v2 : Int32) : wpX_extension (fun r => wpY_extension (fun r' => r' = r ∧ i_Rel (k + 3) u v) v v1 v2) u v1 v2 := by
  obtain ⟨A, t, th, rfl, rfl, R⟩ := I
  unfold wpX_extension wpY_extension
  dsimp only
  rcases ag_kind R v1 with h | ⟨h, h3⟩ | ⟨h, h3, E, hE⟩
  · exact br_t h (br_t rfl (br_t h (br_t rfl ⟨rfl, ag_mk R⟩)))
  · exact br_f h (br_t h3 (br_t rfl (br_f h (br_t h3 (br_t rfl ⟨rfl, ag_mk R⟩)))))
  · obtain ⟨r, hX, hY⟩ := ag_ext R.2.1 hE v2
    exact br_f h (br_f h3 (br_f (by decide) ⟨2 ^ A + 1, hX _ (br_f h (br_f h3 (br_f (by decide) ⟨2 ^ A + 1, hY _ ⟨rfl, ag_mk R⟩⟩)))⟩))
theorem i_vc_inSome {k : Nat} {u : SX} {v : SY} (I : i_Rel k u v) (hk : k + 3 ≤ 1537) (v1 : Int32) : wpX_inSome (fun r => wpY_inSome (fun r' => r' = r ∧ i_Rel (k + 3) u v) v v1) u v1 := by
  obtain ⟨A, t, th, rfl, rfl, R⟩ := I
  unfold wpX_inSome wpY_inSome
  dsimp only
  rcases ag_kind R v1 with h | ⟨h, h3⟩ | ⟨h, h3, E, hE⟩
  · exact br_t h (br_t rfl (br_t h (br_t rfl ⟨rfl, ag_mk R⟩)))
  · exact br_f h (br_t h3 (br_t rfl (br_f h (br_t h3 (br_t rfl ⟨rfl, ag_mk R⟩)))))
  · obtain ⟨r, hX, hY⟩ := ag_some R.2.1 hE
    exact br_f h (br_f h3 (br_f (by decide) ⟨2 ^ A + 1, hX _ (br_f h (br_f h3 (br_f (by decide) ⟨2 ^ A + 1, hY _ ⟨rfl, ag_mk R⟩⟩)))⟩))
theorem i_vc_inEvery {k : Nat} {u : SX} {v : SY} (I : i_Rel k u v) (hk : k + 3 ≤ 1537) (v1 : Int32) : wpX_inEvery (fun r => wpY_inEvery (fun r' => r' = r ∧ i_Rel (k + 3) u v) v v1) u v1 := by
  obtain ⟨A, t, th, rfl, rfl, R⟩ := I
  unfold wpX_inEvery wpY_inEvery
  dsimp only
  rcases ag_kind R v1 with h | ⟨h, h3⟩ | ⟨h, h3, E, hE⟩
  · exact br_t h (br_t rfl (br_t h (br_t rfl ⟨rfl, ag_mk R⟩)))
  · exact br_f h (br_t h3 (br_t rfl (br_f h (br_t h3 (br_t rfl ⟨rfl, ag_mk R⟩)))))
  · obtain ⟨r, hX, hY⟩ := ag_every R.2.1 hE
    exact br_f h (br_f h3 (br_f (by decide) ⟨2 ^ A + 1, hX _ (br_f h (br_f h3 (br_f (by decide) ⟨2 ^ A + 1, hY _ ⟨rfl, ag_mk R⟩⟩)))⟩))
theorem i_vc_clear {k : Nat} {u : SX} {v : SY} (I : i_Rel k u v) (hk : k + 3 ≤ 1537) : wpX_clear (fun r u' => wpY_clear (fun r' v' => r' = r ∧ i_Rel (k + 3) u' v') v) u := by
  obtain ⟨A, t, th, rfl, rfl, R⟩ := I
  refine ag_xc R.2.1 _ t fun r z1 z2 => ag_yc _ _ th fun s w => ⟨congrArg nI (ag_sum R), ?_⟩
  refine ag_mk (ag_R_0 R.1 R.2.1 (fun a ha => ?_) w)
  rcases Nat.lt_or_ge a A with y | y
  · exact z1 a y
  · rw [z2 a y]
    exact R.2.2.2.2 a y ha
end
