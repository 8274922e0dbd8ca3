section
/-! ===== Int32 by its bits: bt x i ===== -/
def bt (x : Int32) (i : Nat) : Bool := x.toBitVec.getLsbD i
theorem b_ext {x y : Int32} (h : ∀ i, i < 32 → bt x i = bt y i) : x = y := Int32.toBitVec_inj.mp (BitVec.eq_of_getLsbD_eq (fun i hi => h i hi))
theorem b_or (x y : Int32) (i : Nat) : bt (x ||| y) i = (bt x i || bt y i) := by unfold bt; rw [Int32.toBitVec_or, BitVec.getLsbD_or]
theorem b_and (x y : Int32) (i : Nat) : bt (x &&& y) i = (bt x i && bt y i) := by unfold bt; rw [Int32.toBitVec_and, BitVec.getLsbD_and]
theorem b_xor (x y : Int32) (i : Nat) : bt (x ^^^ y) i = (bt x i ^^ bt y i) := by unfold bt; rw [Int32.toBitVec_xor, BitVec.getLsbD_xor]
theorem b_big {x : Int32} {i : Nat} (h : 32 ≤ i) : bt x i = false := BitVec.getLsbD_of_ge _ _ h
theorem b_255 (i : Nat) : bt 255 i = decide (i < 8) := by
  rcases Nat.lt_or_ge i 32 with h | h
  · exact (by decide +kernel : ∀ i, i < 32 → bt 255 i = decide (i < 8)) i h
  · rw [b_big h, decide_eq_false (by omega)]
theorem b_65535 (i : Nat) : bt 65535 i = decide (i < 16) := by
  rcases Nat.lt_or_ge i 32 with h | h
  · exact (by decide +kernel : ∀ i, i < 32 → bt 65535 i = decide (i < 16)) i h
  · rw [b_big h, decide_eq_false (by omega)]
theorem b_m1 : ∀ i, i < 32 → bt (-1) i = true := by decide +kernel
theorem b_0 (i : Nat) : bt 0 i = false := BitVec.getLsbD_zero
theorem s_l : ∀ n, n < 32 → ((nI n &&& 31).toBitVec.smod 32).toNat = n := by decide +kernel
theorem s_u : ∀ n, n < 32 → (((nI n).toUInt32 &&& Int32.toUInt32 31).toBitVec % 32).toNat = n := by decide +kernel
theorem b_shl (n : Nat) (hn : n < 32) (x : Int32) {i : Nat} (hi : i < 32) : bt (x <<< (nI n &&& 31)) i = (decide (n ≤ i) && bt x (i - n)) := by
  unfold bt
  rw [Int32.toBitVec_shiftLeft]
  show (x.toBitVec <<< ((nI n &&& 31).toBitVec.smod 32).toNat).getLsbD i = _
  rw [s_l n hn, BitVec.getLsbD_shiftLeft]
  rcases Nat.lt_or_ge i n with h | h
  · simp [h, Nat.not_le.mpr h]
  · simp [hi, h, Nat.not_lt.mpr h]
theorem b_ushr (n : Nat) (hn : n < 32) (x : Int32) (i : Nat) : bt ((x.toUInt32 >>> ((nI n).toUInt32 &&& Int32.toUInt32 31)).toInt32) i = bt x (n + i) := by
  show (x.toUInt32 >>> ((nI n).toUInt32 &&& Int32.toUInt32 31)).toBitVec.getLsbD i = x.toUInt32.toBitVec.getLsbD (n + i)
  rw [UInt32.toBitVec_shiftRight]
  show (x.toUInt32.toBitVec >>> (((nI n).toUInt32 &&& Int32.toUInt32 31).toBitVec % 32).toNat).getLsbD i = _
  rw [s_u n hn, BitVec.getLsbD_ushiftRight]
theorem b_sshr (n : Nat) (hn : n < 32) (x : Int32) {i : Nat} (hi : i < 32) : bt (x >>> (nI n &&& 31)) i = if n + i < 32 then bt x (n + i) else bt x 31 := by
  unfold bt
  rw [Int32.toBitVec_shiftRight]
  show (x.toBitVec.sshiftRight ((nI n &&& 31).toBitVec.smod 32).toNat).getLsbD i = _
  rw [s_l n hn, BitVec.getLsbD_sshiftRight, BitVec.msb_eq_getLsbD_last]
  simp [hi]
theorem b_shl8 (x : Int32) {i : Nat} (hi : i < 32) : bt (x <<< ((8 : Int32) &&& 31)) i = (decide (8 ≤ i) && bt x (i - 8)) := b_shl 8 (by omega) x hi
theorem b_shl16 (x : Int32) {i : Nat} (hi : i < 32) : bt (x <<< ((16 : Int32) &&& 31)) i = (decide (16 ≤ i) && bt x (i - 16)) := b_shl 16 (by omega) x hi
theorem b_shl24 (x : Int32) {i : Nat} (hi : i < 32) : bt (x <<< ((24 : Int32) &&& 31)) i = (decide (24 ≤ i) && bt x (i - 24)) := b_shl 24 (by omega) x hi
theorem b_sshr8 (x : Int32) {i : Nat} (hi : i < 32) : bt (x >>> ((8 : Int32) &&& 31)) i = if 8 + i < 32 then bt x (8 + i) else bt x 31 := b_sshr 8 (by omega) x hi
theorem nx_and (a b : Nat) : nI a &&& nI b = nI (a &&& b) := by
  apply Int32.toBitVec_inj.1
  show BitVec.ofNat 32 a &&& BitVec.ofNat 32 b = BitVec.ofNat 32 (a &&& b)
  apply BitVec.eq_of_getLsbD_eq
  intro i hi
  simp [hi]
theorem pk_us {f : Nat → Int32} {k : Nat} {x : Int32} : upd f k x k = x := if_pos rfl
theorem pk_un {f : Nat → Int32} {k j : Nat} {x : Int32} (h : j ≠ k) : upd f k x j = f j := if_neg h
theorem pk_mul (a b : Nat) : nI a * nI b = nI (a * b) := (Int32.ofNat_mul a b).symm
theorem pk_ix (x : Int32) {n : Nat} (hn : n < 2 ^ 31) : x < 0 ∨ nI n ≤ x ∨ ∃ j : Nat, j < n ∧ x = nI j := by
  by_cases h : x < 0
  · exact Or.inl h
  · obtain ⟨j, hj, rfl⟩ := nI_of h
    by_cases h2 : j < n
    · exact Or.inr (Or.inr ⟨j, h2, rfl⟩)
    · exact Or.inr (Or.inl (nI_le (by omega) hj))
theorem pk_le {x y : Int32} {A B : Prop} (a b : Nat) (f : a ≤ b → A) (g : b < a → B) (hx : x = nI a := by rfl) (hy : y = nI b := by rfl) (ha : a < 2 ^ 31 := by omega) (hb : b < 2 ^ 31 := by omega) : (x ≤ y → A) ∧ (¬ x ≤ y → B) := by
  subst hx hy
  rw [nI_leI ha hb]
  exact ⟨f, fun z => g (by omega)⟩
theorem pk_lt {x y : Int32} {A B : Prop} (a b : Nat) (f : a < b → A) (g : b ≤ a → B) (hx : x = nI a := by rfl) (hy : y = nI b := by rfl) (ha : a < 2 ^ 31 := by omega) (hb : b < 2 ^ 31 := by omega) : (x < y → A) ∧ (¬ x < y → B) := by
  subst hx hy
  rw [nI_ltI ha hb]
  exact ⟨f, fun z => g (by omega)⟩
theorem pk_eq {x y : Int32} {A B : Prop} (a b : Nat) (f : a = b → A) (g : a ≠ b → B) (hx : x = nI a := by rfl) (hy : y = nI b := by rfl) (ha : a < 2 ^ 31 := by omega) (hb : b < 2 ^ 31 := by omega) : (x = y → A) ∧ (¬ x = y → B) := by
  subst hx hy
  rw [nI_eq ha hb]
  exact ⟨f, g⟩
theorem pk_in {x : Int32} (n N : Nat) (h : n < N) (hx : x = nI n := by rfl) (hN : N < 2 ^ 31 := by omega) : vp_in x N := by
  subst hx
  exact vp_in_nI h hN
theorem pk_cl {x : Int32} (n : Nat) (hx : x = nI n := by rfl) (h : n < 2 ^ 31 := by omega) : x.toNatClampNeg = n := by
  subst hx
  exact nI_clamp h
theorem pk_tn {n : Nat} (h : n < 2 ^ 32) : (nI n).toBitVec.toNat = n := Nat.mod_eq_of_lt h
theorem pk_and (x : Int32) {m : Int32} (k : Nat) (hm : m.toBitVec.toNat = 2 ^ k - 1) : x &&& m = nI (x.toBitVec.toNat % 2 ^ k) := by
  apply Int32.toBitVec_inj.mp
  apply BitVec.eq_of_toNat_eq
  rw [Int32.toBitVec_and, BitVec.toNat_and, hm, Nat.and_two_pow_sub_one_eq_mod]
  show _ = (BitVec.ofNat 32 _).toNat
  rw [BitVec.toNat_ofNat]
  exact (Nat.mod_eq_of_lt (Nat.lt_of_le_of_lt (Nat.mod_le _ _) x.toBitVec.isLt)).symm
theorem pk_andN {n : Nat} (h : n < 2 ^ 32) {m : Int32} (k : Nat) (hm : m.toBitVec.toNat = 2 ^ k - 1) : nI n &&& m = nI (n % 2 ^ k) := by
  rw [pk_and _ k hm, pk_tn h]
theorem pk_shr (a s : Int32) (k : Nat) (hs : (s.toBitVec.smod 32).toNat = k) : (a >>> s).toInt = a.toInt >>> k := by
  show (a.toBitVec.sshiftRight (s.toBitVec.smod 32).toNat).toInt = _
  rw [hs, BitVec.toInt_sshiftRight]
  rfl
theorem pk_shrN {n : Nat} (h : n < 2 ^ 31) (s : Int32) (k : Nat) (hs : (s.toBitVec.smod 32).toNat = k) : nI n >>> s = nI (n / 2 ^ k) := by
  apply Int32.toInt_inj.mp
  have h2 : n / 2 ^ k ≤ n := Nat.div_le_self _ _
  rw [pk_shr _ _ k hs, nI_toInt h, nI_toInt (by omega), Int.shiftRight_eq_div_pow]
  rfl
end
section
/-! ===== bits of a set ===== -/
theorem ag_1 : ∀ j, j < 32 → bt 1 j = decide (j = 0) := by decide +kernel
theorem ag_bit (s : Int32) {i : Nat} (hi : i < 32) : ((s >>> (nI i &&& 31)) &&& 1) = 1 ↔ bt s i = true := by
  constructor
  · intro h
    have e : bt ((s >>> (nI i &&& 31)) &&& 1) 0 = bt 1 0 := by rw [h]
    rw [b_and, b_sshr i hi s (by decide), if_pos (by omega), ag_1 0 (by decide)] at e
    simpa using e
  · intro h
    apply b_ext
    intro j hj
    rw [b_and, b_sshr i hi s hj, ag_1 j hj]
    by_cases z : j = 0
    · subst z
      rw [if_pos (by omega)]
      simpa using h
    · simp [z]
theorem ag_one {i : Nat} (hi : i < 32) {b : Nat} (hb : b < 32) : bt ((1 : Int32) <<< (nI i &&& 31)) b = decide (b = i) := by
  rw [b_shl i hi 1 hb]
  by_cases z : i ≤ b
  · rw [ag_1 (b - i) (by omega)]
    have e : (b - i = 0) ↔ (b = i) := by omega
    simp [z, e]
  · have e : ¬ b = i := by omega
    simp [z, e]
theorem ag_not (x : Int32) {b : Nat} (hb : b < 32) : bt (x ^^^ (-1)) b = !(bt x b) := by
  rw [b_xor, b_m1 b hb]
  cases bt x b <;> rfl
/-- s lies within o -/
def ag_S (s o : Int32) : Prop := ∀ b, b < 32 → bt s b = true → bt o b = true
theorem ag_sub {s o : Int32} : (s &&& (o ^^^ (-1))) = 0 ↔ ag_S s o := by
  constructor
  · intro h b hb hs
    have e : bt (s &&& (o ^^^ (-1))) b = bt 0 b := by rw [h]
    rw [b_and, ag_not o hb, b_0, hs] at e
    cases z : bt o b
    · rw [z] at e
      exact absurd e (by decide)
    · rfl
  · intro h
    apply b_ext
    intro b hb
    rw [b_and, ag_not o hb, b_0]
    cases z : bt s b
    · rfl
    · rw [h b hb z]
      rfl
theorem ag_Seq {s o : Int32} (h : ag_S s o) (k : ag_S o s) : s = o := by
  apply b_ext
  intro b hb
  exact Bool.eq_iff_iff.mpr ⟨h b hb, k b hb⟩
theorem ag_Srf (s : Int32) : ag_S s s := fun _ _ h => h
theorem ag_Str {s o p : Int32} (h : ag_S s o) (k : ag_S o p) : ag_S s p := fun b hb z => k b hb (h b hb z)
theorem ag_nI (j : Nat) {b : Nat} (hb : b < 32) : bt (nI j) b = j.testBit b := by
  show (BitVec.ofNat 32 j).getLsbD b = _
  rw [BitVec.getLsbD_ofNat]
  simp [hb]
theorem ag_set {A : Nat} {x : Int32} (h : ∀ b, b < 32 → A ≤ b → bt x b = false) : ∃ j, j < 2 ^ A ∧ x = nI j := by
  refine ⟨x.toBitVec.toNat, ?_, ?_⟩
  · apply Nat.lt_pow_two_of_testBit
    intro i hi
    rcases Nat.lt_or_ge i 32 with z | z
    · exact h i z hi
    · exact (b_big z : bt x i = false)
  · exact Int32.toBitVec_inj.mp (by show _ = BitVec.ofNat 32 _; simp)
theorem ag_pw {A : Nat} (h : A ≤ 8) : 2 ^ A ≤ 256 := Nat.pow_le_pow_right (by decide) h
theorem ag_pw0 (A : Nat) : 0 < 2 ^ A := Nat.two_pow_pos A
/-- a set within another is no greater a number -/
theorem ag_Sle {i j : Nat} (hi : i < 2 ^ 31) (h : ag_S (nI i) (nI j)) : i ≤ j := by
  have e : nI i &&& nI j = nI i := by
    apply b_ext
    intro b hb
    rw [b_and]
    cases z : bt (nI i) b
    · rfl
    · rw [h b hb z]
      rfl
  rw [nx_and] at e
  have l : i &&& j ≤ i := Nat.and_le_left
  have r : i &&& j ≤ j := Nat.and_le_right
  rw [nI_eq (by omega) hi] at e
  omega
theorem ag_allb : ∀ A, A < 9 → ∀ b, b < 32 → bt (nI (2 ^ A - 1)) b = decide (b < A) := by decide +kernel
def ag_al (A : Nat) : Int32 := nI (2 ^ A - 1)
theorem ag_alb {A : Nat} (hA : A ≤ 8) {b : Nat} (hb : b < 32) : bt (ag_al A) b = decide (b < A) := ag_allb A (by omega) b hb
/-! ===== counting ===== -/
def ag_cn (f : Nat → Bool) : Nat → Nat
  | 0 => 0
  | n + 1 => if f n = true then ag_cn f n + 1 else ag_cn f n
theorem ag_cnT {f : Nat → Bool} {n : Nat} (h : f n = true) : ag_cn f (n + 1) = ag_cn f n + 1 := if_pos h
theorem ag_cnF {f : Nat → Bool} {n : Nat} (h : ¬ f n = true) : ag_cn f (n + 1) = ag_cn f n := if_neg h
theorem ag_cn_le (f : Nat → Bool) : ∀ n, ag_cn f n ≤ n := by
  intro n
  induction n with
  | zero => exact Nat.le_refl 0
  | succ n ih =>
    by_cases h : f n = true
    · rw [ag_cnT h]; omega
    · rw [ag_cnF h]; omega
theorem ag_cn_mono {f g : Nat → Bool} : ∀ n, (∀ i, i < n → f i = true → g i = true) → ag_cn f n ≤ ag_cn g n := by
  intro n
  induction n with
  | zero => intro _; exact Nat.le_refl 0
  | succ n ih =>
    intro h
    have k := ih (fun i hi => h i (by omega))
    by_cases z : f n = true
    · rw [ag_cnT z, ag_cnT (h n (by omega) z)]; omega
    · rw [ag_cnF z]
      by_cases y : g n = true
      · rw [ag_cnT y]; omega
      · rw [ag_cnF y]; exact k
theorem ag_cn_lt {f g : Nat → Bool} : ∀ n, (∀ i, i < n → f i = true → g i = true) → (∃ i, i < n ∧ g i = true ∧ ¬ f i = true) → ag_cn f n < ag_cn g n := by
  intro n
  induction n with
  | zero => intro _ ⟨i, hi, _⟩; omega
  | succ n ih =>
    intro h ⟨i, hi, hg, hf⟩
    have h' : ∀ i, i < n → f i = true → g i = true := fun i hi => h i (by omega)
    rcases Nat.lt_or_ge i n with z | z
    · have k := ih h' ⟨i, z, hg, hf⟩
      by_cases y : f n = true
      · rw [ag_cnT y, ag_cnT (h n (by omega) y)]; omega
      · rw [ag_cnF y]
        by_cases x : g n = true
        · rw [ag_cnT x]; omega
        · rw [ag_cnF x]; exact k
    · have e : i = n := by omega
      subst e
      rw [ag_cnF hf, ag_cnT hg]
      have k := ag_cn_mono i h'
      omega
theorem ag_cn_congr {f g : Nat → Bool} : ∀ n, (∀ i, i < n → (f i = true ↔ g i = true)) → ag_cn f n = ag_cn g n := fun n h => Nat.le_antisymm (ag_cn_mono n fun i hi => (h i hi).mp) (ag_cn_mono n fun i hi => (h i hi).mpr)
theorem ag_cn_add (f : Nat → Bool) (m : Nat) : ∀ n, ag_cn f (m + n) = ag_cn f m + ag_cn (fun i => f (m + i)) n := by
  intro n
  induction n with
  | zero => rfl
  | succ n ih =>
    by_cases h : f (m + n) = true
    · rw [← Nat.add_assoc, ag_cnT h, ag_cnT (f := fun i => f (m + i)) h, ih]; omega
    · rw [← Nat.add_assoc, ag_cnF h, ag_cnF (f := fun i => f (m + i)) h, ih]
theorem ag_cn_0 {f : Nat → Bool} : ∀ n, (∀ i, i < n → f i = false) → ag_cn f n = 0 := by
  intro n
  induction n with
  | zero => intro _; rfl
  | succ n ih =>
    intro h
    rw [ag_cnF (by rw [h n (by omega)]; decide)]
    exact ih fun i hi => h i (by omega)
theorem ag_cn_up {f : Nat → Bool} {m n : Nat} (hmn : m ≤ n) (h : ∀ i, m ≤ i → i < n → f i = false) : ag_cn f n = ag_cn f m := by
  obtain ⟨d, rfl⟩ : ∃ d, n = m + d := ⟨n - m, by omega⟩
  rw [ag_cn_add, ag_cn_0 d fun i hi => h (m + i) (by omega) (by omega)]
  rfl
/-! ===== what a set attacks, what it defends ===== -/
def ag_af (t : Nat → Int32) (s : Int32) : Nat → Int32
  | 0 => 0
  | n + 1 => if bt s n = true then ag_af t s n ||| t n else ag_af t s n
theorem ag_afT {t : Nat → Int32} {s : Int32} {n : Nat} (h : bt s n = true) : ag_af t s (n + 1) = ag_af t s n ||| t n := if_pos h
theorem ag_afF {t : Nat → Int32} {s : Int32} {n : Nat} (h : ¬ bt s n = true) : ag_af t s (n + 1) = ag_af t s n := if_neg h
theorem ag_af_bit (t : Nat → Int32) (s : Int32) (b : Nat) : ∀ n, bt (ag_af t s n) b = true ↔ ∃ a, a < n ∧ bt s a = true ∧ bt (t a) b = true := by
  intro n
  induction n with
  | zero =>
    show bt 0 b = true ↔ _
    rw [b_0]
    exact ⟨fun h => absurd h (by decide), fun ⟨a, h, _⟩ => absurd h (by omega)⟩
  | succ n ih =>
    by_cases z : bt s n = true
    · rw [ag_afT z, b_or, Bool.or_eq_true, ih]
      constructor
      · rintro (⟨a, h1, h2⟩ | h)
        · exact ⟨a, by omega, h2⟩
        · exact ⟨n, by omega, z, h⟩
      · rintro ⟨a, h1, h2, h3⟩
        rcases Nat.lt_or_ge a n with y | y
        · exact Or.inl ⟨a, y, h2, h3⟩
        · have e : a = n := by omega
          subst e
          exact Or.inr h3
    · rw [ag_afF z, ih]
      constructor
      · rintro ⟨a, h1, h2⟩
        exact ⟨a, by omega, h2⟩
      · rintro ⟨a, h1, h2, h3⟩
        rcases Nat.lt_or_ge a n with y | y
        · exact ⟨a, y, h2, h3⟩
        · have e : a = n := by omega
          subst e
          exact absurd h2 z
def ag_yf (th : Nat → Int32) (s : Int32) : Nat → Int32
  | 0 => 0
  | m + 1 => if ¬ th m = 0 ∧ bt s (m / 8) = true then ag_yf th s m ||| ((1 : Int32) <<< (nI (m % 8) &&& 31)) else ag_yf th s m
theorem ag_yfT {th : Nat → Int32} {s : Int32} {m : Nat} (h : ¬ th m = 0 ∧ bt s (m / 8) = true) : ag_yf th s (m + 1) = ag_yf th s m ||| ((1 : Int32) <<< (nI (m % 8) &&& 31)) := if_pos h
theorem ag_yfF {th : Nat → Int32} {s : Int32} {m : Nat} (h : ¬ (¬ th m = 0 ∧ bt s (m / 8) = true)) : ag_yf th s (m + 1) = ag_yf th s m := if_neg h
theorem ag_yf_bit (th : Nat → Int32) (s : Int32) {b : Nat} (hb : b < 32) : ∀ m, bt (ag_yf th s m) b = true ↔ ∃ j, j < m ∧ (¬ th j = 0 ∧ bt s (j / 8) = true) ∧ b = j % 8 := by
  intro m
  induction m with
  | zero =>
    show bt 0 b = true ↔ _
    rw [b_0]
    exact ⟨fun h => absurd h (by decide), fun ⟨a, h, _⟩ => absurd h (by omega)⟩
  | succ m ih =>
    by_cases z : ¬ th m = 0 ∧ bt s (m / 8) = true
    · rw [ag_yfT z, b_or, Bool.or_eq_true, ih, ag_one (by omega) hb, decide_eq_true_eq]
      constructor
      · rintro (⟨a, h1, h2⟩ | h)
        · exact ⟨a, by omega, h2⟩
        · exact ⟨m, by omega, z, h⟩
      · rintro ⟨a, h1, h2, h3⟩
        rcases Nat.lt_or_ge a m with y | y
        · exact Or.inl ⟨a, y, h2, h3⟩
        · have e : a = m := by omega
          subst e
          exact Or.inr h3
    · rw [ag_yfF z, ih]
      constructor
      · rintro ⟨a, h1, h2⟩
        exact ⟨a, by omega, h2⟩
      · rintro ⟨a, h1, h2, h3⟩
        rcases Nat.lt_or_ge a m with y | y
        · exact ⟨a, y, h2, h3⟩
        · have e : a = m := by omega
          subst e
          exact absurd h2 z
def ag_yd (th : Nat → Int32) (al s : Int32) : Nat → Int32
  | 0 => al
  | m + 1 => if ¬ th m = 0 ∧ ¬ bt s (m / 8) = true then ag_yd th al s m &&& (((1 : Int32) <<< (nI (m % 8) &&& 31)) ^^^ (-1)) else ag_yd th al s m
theorem ag_ydT {th : Nat → Int32} {al s : Int32} {m : Nat} (h : ¬ th m = 0 ∧ ¬ bt s (m / 8) = true) : ag_yd th al s (m + 1) = ag_yd th al s m &&& (((1 : Int32) <<< (nI (m % 8) &&& 31)) ^^^ (-1)) := if_pos h
theorem ag_ydF {th : Nat → Int32} {al s : Int32} {m : Nat} (h : ¬ (¬ th m = 0 ∧ ¬ bt s (m / 8) = true)) : ag_yd th al s (m + 1) = ag_yd th al s m := if_neg h
theorem ag_yd_bit (th : Nat → Int32) (al s : Int32) {b : Nat} (hb : b < 32) : ∀ m, bt (ag_yd th al s m) b = true ↔ bt al b = true ∧ ∀ j, j < m → b = j % 8 → ¬ (¬ th j = 0 ∧ ¬ bt s (j / 8) = true) := by
  intro m
  induction m with
  | zero => exact ⟨fun h => ⟨h, fun j hj => absurd hj (by omega)⟩, fun h => h.1⟩
  | succ m ih =>
    by_cases z : ¬ th m = 0 ∧ ¬ bt s (m / 8) = true
    · rw [ag_ydT z, b_and, Bool.and_eq_true, ih, ag_not _ hb, ag_one (by omega) hb]
      constructor
      · rintro ⟨⟨h1, h2⟩, h3⟩
        refine ⟨h1, fun j hj e => ?_⟩
        rcases Nat.lt_or_ge j m with y | y
        · exact h2 j y e
        · have e2 : j = m := by omega
          subst e2
          rw [decide_eq_true e] at h3
          exact absurd h3 (by decide)
      · rintro ⟨h1, h2⟩
        refine ⟨⟨h1, fun j hj e => h2 j (by omega) e⟩, ?_⟩
        rw [decide_eq_false fun e => h2 m (by omega) e z]
        rfl
    · rw [ag_ydF z, ih]
      constructor
      · rintro ⟨h1, h2⟩
        refine ⟨h1, fun j hj e => ?_⟩
        rcases Nat.lt_or_ge j m with y | y
        · exact h2 j y e
        · have e2 : j = m := by omega
          subst e2
          exact z
      · rintro ⟨h1, h2⟩
        exact ⟨h1, fun j hj e => h2 j (by omega) e⟩
end
