/-! ===== the relation: X's rows and Y's table are one set of attacks ===== -/
def ag_R (A : Nat) (t th : Nat → Int32) : Prop := 2 ≤ A ∧ A ≤ 8 ∧ (∀ a b, a < 8 → b < 8 → (bt (t a) b = true ↔ ¬ th (8 * a + b) = 0)) ∧ (∀ a b, a < 8 → A ≤ b → bt (t a) b = false) ∧ (∀ a, A ≤ a → a < 8 → t a = 0)
def ag_ar (A : Nat) (t : Nat → Int32) (s : Int32) : Int32 := ag_af t s A
def ag_dr (A : Nat) (t : Nat → Int32) (s : Int32) : Int32 := ag_al A &&& (ag_ar A t (ag_al A &&& (ag_ar A t s ^^^ (-1))) ^^^ (-1))
theorem ag_ar_bit (A : Nat) (t : Nat → Int32) (s : Int32) (b : Nat) : bt (ag_ar A t s) b = true ↔ ∃ a, a < A ∧ bt s a = true ∧ bt (t a) b = true := ag_af_bit t s b A
theorem ag_dr_bit {A : Nat} (hA : A ≤ 8) (t : Nat → Int32) (s : Int32) {b : Nat} (hb : b < 32) : bt (ag_dr A t s) b = true ↔ b < A ∧ ∀ a, a < A → bt (t a) b = true → bt (ag_ar A t s) a = true := by
  unfold ag_dr
  rw [b_and, Bool.and_eq_true, ag_alb hA hb, decide_eq_true_eq, ag_not _ hb]
  refine and_congr_right fun h => ?_
  rw [Bool.not_eq_true', ← Bool.not_eq_true, ag_ar_bit]
  constructor
  · intro n a ha ht
    cases z : bt (ag_ar A t s) a
    · refine absurd ⟨a, ha, ?_, ht⟩ n
      rw [b_and, ag_alb hA (by omega), ag_not _ (by omega), z, decide_eq_true ha]
      rfl
    · rfl
  · rintro n ⟨a, ha, h1, h2⟩
    rw [b_and, ag_alb hA (by omega), ag_not _ (by omega), n a ha h2] at h1
    simp at h1
theorem ag_yf_eq {A : Nat} {t th : Nat → Int32} (R : ag_R A t th) (s : Int32) : ag_yf th s 64 = ag_ar A t s := by
  obtain ⟨h2, h8, r1, r2, r3⟩ := R
  apply b_ext
  intro b hb
  apply Bool.eq_iff_iff.mpr
  rw [ag_yf_bit th s hb, ag_ar_bit]
  constructor
  · rintro ⟨j, hj, ⟨ht, hs⟩, e⟩
    have r := (r1 (j / 8) (j % 8) (by omega) (by omega)).mpr (by rw [show 8 * (j / 8) + j % 8 = j by omega]; exact ht)
    refine ⟨j / 8, ?_, hs, e ▸ r⟩
    apply Nat.lt_of_not_le
    intro z
    rw [r3 (j / 8) z (by omega), b_0] at r
    exact absurd r (by decide)
  · rintro ⟨a, ha, hs, ht⟩
    have hbA : b < A := by
      apply Nat.lt_of_not_le
      intro z
      rw [r2 a b (by omega) z] at ht
      exact absurd ht (by decide)
    refine ⟨8 * a + b, by omega, ⟨(r1 a b (by omega) (by omega)).mp ht, ?_⟩, by omega⟩
    rw [show (8 * a + b) / 8 = a by omega]
    exact hs
theorem ag_yd_eq {A : Nat} {t th : Nat → Int32} (R : ag_R A t th) (s : Int32) : ag_yd th (ag_al A) (ag_ar A t s) 64 = ag_dr A t s := by
  obtain ⟨h2, h8, r1, r2, r3⟩ := R
  apply b_ext
  intro b hb
  apply Bool.eq_iff_iff.mpr
  rw [ag_yd_bit th _ _ hb, ag_dr_bit h8 t s hb, ag_alb h8 hb, decide_eq_true_eq]
  refine and_congr_right fun hbA => ?_
  constructor
  · intro h a ha ht
    have k := h (8 * a + b) (by omega) (by omega)
    rw [show (8 * a + b) / 8 = a by omega] at k
    have y := (r1 a b (by omega) (by omega)).mp ht
    exact Classical.byContradiction fun z => k ⟨y, z⟩
  · rintro h j hj e ⟨k1, k2⟩
    have r := (r1 (j / 8) (j % 8) (by omega) (by omega)).mpr (by rw [show 8 * (j / 8) + j % 8 = j by omega]; exact k1)
    rw [← e] at r
    refine k2 (h (j / 8) ?_ r)
    apply Nat.lt_of_not_le
    intro z
    rw [r3 (j / 8) z (by omega), b_0] at r
    exact absurd r (by decide)
/-- a change of one attack -/
theorem ag_R_upd {A : Nat} {t th : Nat → Int32} (R : ag_R A t th) {a b : Nat} (ha : a < A) (hb : b < A) {x y : Int32} (hx : bt x b = true ↔ ¬ y = 0) (hn : ∀ c, c ≠ b → bt x c = bt (t a) c) : ag_R A (upd t a x) (upd th (8 * a + b) y) := by
  obtain ⟨h2, h8, r1, r2, r3⟩ := R
  refine ⟨h2, h8, ?_, ?_, ?_⟩
  · intro c d hc hd
    by_cases e : c = a
    · subst e
      rw [pk_us]
      by_cases f : d = b
      · subst f
        rw [pk_us]
        exact hx
      · rw [pk_un (by omega), hn d f]
        exact r1 c d hc hd
    · rw [pk_un e, pk_un (by omega)]
      exact r1 c d hc hd
  · intro c d hc hd
    by_cases e : c = a
    · subst e
      rw [pk_us, hn d (by omega)]
      exact r2 c d hc hd
    · rw [pk_un e]
      exact r2 c d hc hd
  · intro c hc h
    rw [pk_un (by omega)]
    exact r3 c hc h
/-! ===== kinds of sets ===== -/
def ag_CF (A : Nat) (t : Nat → Int32) (s : Int32) : Prop := (ag_ar A t s &&& s) = 0
def ag_AD (A : Nat) (t : Nat → Int32) (s : Int32) : Prop := ag_CF A t s ∧ (s &&& (ag_dr A t s ^^^ (-1))) = 0
def ag_CO (A : Nat) (t : Nat → Int32) (s : Int32) : Prop := ag_CF A t s ∧ ag_dr A t s = s
def ag_ST (A : Nat) (t : Nat → Int32) (s : Int32) : Prop := ag_CF A t s ∧ (s ||| ag_ar A t s) = ag_al A
/-- other sets i that stand against k, as PREFERRED, SEMISTABLE have it -/
def ag_QP (A : Nat) (t : Nat → Int32) (s : Int32) (i : Nat) : Prop := (s &&& (nI i ^^^ (-1))) = 0 ∧ ag_AD A t (nI i)
def ag_QS (A : Nat) (t : Nat → Int32) (r : Int32) (i : Nat) : Prop := ¬ (nI i ||| ag_ar A t (nI i)) = r ∧ (r &&& ((nI i ||| ag_ar A t (nI i)) ^^^ (-1))) = 0 ∧ ag_AD A t (nI i)
def ag_PR (A : Nat) (t : Nat → Int32) (k : Nat) : Prop := ag_AD A t (nI k) ∧ ∀ i, i < 2 ^ A → i ≠ k → ¬ ag_QP A t (nI k) i
def ag_SE (A : Nat) (t : Nat → Int32) (k : Nat) : Prop := ag_AD A t (nI k) ∧ ∀ i, i < 2 ^ A → ¬ ag_QS A t (nI k ||| ag_ar A t (nI k)) i
theorem ag_AD_of {A : Nat} {t : Nat → Int32} {s : Int32} : ag_CO A t s ↔ ag_AD A t s ∧ ag_dr A t s = s := by
  constructor
  · rintro ⟨h1, h2⟩
    refine ⟨⟨h1, ?_⟩, h2⟩
    rw [h2]
    exact ag_sub.mpr (ag_Srf s)
  · rintro ⟨⟨h1, _⟩, h2⟩
    exact ⟨h1, h2⟩
/-- X looks above k alone -/
theorem ag_PR_above {A : Nat} {t : Nat → Int32} {k : Nat} (hk : k < 2 ^ 31) (h : ∀ i, k + 1 ≤ i → i < 2 ^ A → ¬ ag_QP A t (nI k) i) : ∀ i, i < 2 ^ A → i ≠ k → ¬ ag_QP A t (nI k) i := by
  intro i hi hn q
  rcases Nat.lt_or_ge k i with z | z
  · exact h i z hi q
  · have y := ag_Sle hk (ag_sub.mp q.1)
    omega
/-! ===== a search: 0 at the first Q, else 1 ===== -/
theorem ag_srch (M : Nat) (Q : Nat → Prop) (post : Int32 → Prop) (W : Nat → Int32 → Prop) (hs : ∀ n j, j < M → (Q j → post 0) → (¬ Q j → W n (nI (j + 1))) → W (n + 1) (nI j)) (hd : ∀ n, post 1 → W (n + 1) (nI M)) : ∀ n j, j ≤ M → M - j < n → ((∀ i, j ≤ i → i < M → ¬ Q i) → post 1) → ((∃ i, j ≤ i ∧ i < M ∧ Q i) → post 0) → W n (nI j) := by
  intro n
  induction n with
  | zero => intro j _ h; omega
  | succ n ih =>
    intro j hj hn h1 h0
    rcases Nat.lt_or_ge j M with z | z
    · refine hs n j z (fun q => h0 ⟨j, Nat.le_refl j, z, q⟩) fun q => ih (j + 1) (by omega) (by omega) (fun a => h1 fun i hi hm => ?_) fun ⟨i, a, b, c⟩ => h0 ⟨i, by omega, b, c⟩
      rcases Nat.eq_or_lt_of_le hi with e | e
      · subst e
        exact q
      · exact a i e hm
    · have e : j = M := by omega
      subst e
      exact hd n (h1 fun i a b => absurd a (by omega))
/-! ===== two folds in step ===== -/
theorem ag_lk (M : Nat) (E : Nat → Prop) (g : Int32 → Int32 → Int32) (WX WY : (Int32 → Prop) → Nat → Int32 → Int32 → Prop) (xs : ∀ post n j c, j < M → (E j → WX post n (g c (nI j)) (nI (j + 1))) → (¬ E j → WX post n c (nI (j + 1))) → WX post (n + 1) c (nI j)) (xd : ∀ post n c, post c → WX post (n + 1) c (nI M)) (ys : ∀ post n j c, j < M → (E j → WY post n (g c (nI j)) (nI (j + 1))) → (¬ E j → WY post n c (nI (j + 1))) → WY post (n + 1) c (nI j)) (yd : ∀ post n c, post c → WY post (n + 1) c (nI M)) : ∀ d j c, j + d = M → ∃ r, (∀ post : Int32 → Prop, post r → WX post (d + 1) c (nI j)) ∧ (∀ post : Int32 → Prop, post r → WY post (d + 1) c (nI j)) := by
  intro d
  induction d with
  | zero =>
    intro j c hj
    have e : j = M := by omega
    subst e
    exact ⟨c, fun post h => xd post 0 c h, fun post h => yd post 0 c h⟩
  | succ d ih =>
    intro j c hj
    by_cases e : E j
    · obtain ⟨r, h1, h2⟩ := ih (j + 1) (g c (nI j)) (by omega)
      exact ⟨r, fun post h => xs post _ j c (by omega) (fun _ => h1 post h) fun z => absurd e z, fun post h => ys post _ j c (by omega) (fun _ => h2 post h) fun z => absurd e z⟩
    · obtain ⟨r, h1, h2⟩ := ih (j + 1) c (by omega)
      exact ⟨r, fun post h => xs post _ j c (by omega) (fun z => absurd z e) fun _ => h1 post h, fun post h => ys post _ j c (by omega) (fun z => absurd z e) fun _ => h2 post h⟩
theorem ag_le (M : Nat) (E : Nat → Prop) (k : Int32) (WX WY : (Int32 → Prop) → Nat → Int32 → Int32 → Prop) (xs : ∀ post n j c, j < M → (E j → c = k → post (nI j)) → (E j → ¬ c = k → WX post n (c + 1) (nI (j + 1))) → (¬ E j → WX post n c (nI (j + 1))) → WX post (n + 1) c (nI j)) (xd : ∀ post n c, post (-2) → WX post (n + 1) c (nI M)) (ys : ∀ post n j c, j < M → (E j → c = k → post (nI j)) → (E j → ¬ c = k → WY post n (c + 1) (nI (j + 1))) → (¬ E j → WY post n c (nI (j + 1))) → WY post (n + 1) c (nI j)) (yd : ∀ post n c, post (-2) → WY post (n + 1) c (nI M)) : ∀ d j c, j + d = M → ∃ r, (∀ post : Int32 → Prop, post r → WX post (d + 1) c (nI j)) ∧ (∀ post : Int32 → Prop, post r → WY post (d + 1) c (nI j)) := by
  intro d
  induction d with
  | zero =>
    intro j c hj
    have e : j = M := by omega
    subst e
    exact ⟨-2, fun post h => xd post 0 c h, fun post h => yd post 0 c h⟩
  | succ d ih =>
    intro j c hj
    by_cases e : E j
    · by_cases f : c = k
      · exact ⟨nI j, fun post h => xs post _ j c (by omega) (fun _ _ => h) (fun _ z => absurd f z) fun z => absurd e z, fun post h => ys post _ j c (by omega) (fun _ _ => h) (fun _ z => absurd f z) fun z => absurd e z⟩
      · obtain ⟨r, h1, h2⟩ := ih (j + 1) (c + 1) (by omega)
        exact ⟨r, fun post h => xs post _ j c (by omega) (fun _ z => absurd z f) (fun _ _ => h1 post h) fun z => absurd e z, fun post h => ys post _ j c (by omega) (fun _ z => absurd z f) (fun _ _ => h2 post h) fun z => absurd e z⟩
    · obtain ⟨r, h1, h2⟩ := ih (j + 1) c (by omega)
      exact ⟨r, fun post h => xs post _ j c (by omega) (fun z => absurd z e) (fun z => absurd z e) fun _ => h1 post h, fun post h => ys post _ j c (by omega) (fun z => absurd z e) (fun z => absurd z e) fun _ => h2 post h⟩
/-! ===== the grounded set: X's rounds end at the least set that has all that it defends ===== -/
theorem ag_ar_mono {A : Nat} (hA : A ≤ 8) (t : Nat → Int32) {s o : Int32} (h : ag_S s o) : ag_S (ag_ar A t s) (ag_ar A t o) := by
  intro b hb z
  obtain ⟨a, ha, h1, h2⟩ := (ag_ar_bit A t s b).mp z
  exact (ag_ar_bit A t o b).mpr ⟨a, ha, h a (by omega) h1, h2⟩
theorem ag_dr_mono {A : Nat} (hA : A ≤ 8) (t : Nat → Int32) {s o : Int32} (h : ag_S s o) : ag_S (ag_dr A t s) (ag_dr A t o) := by
  intro b hb z
  obtain ⟨h1, h2⟩ := (ag_dr_bit hA t s hb).mp z
  exact (ag_dr_bit hA t o hb).mpr ⟨h1, fun a ha ht => ag_ar_mono hA t h a (by omega) (h2 a ha ht)⟩
def ag_it (A : Nat) (t : Nat → Int32) : Nat → Int32
  | 0 => 0
  | n + 1 => ag_dr A t (ag_it A t n)
theorem ag_it_up {A : Nat} (hA : A ≤ 8) (t : Nat → Int32) : ∀ n, ag_S (ag_it A t n) (ag_it A t (n + 1)) := by
  intro n
  induction n with
  | zero =>
    intro b hb z
    have z : bt 0 b = true := z
    rw [b_0] at z
    exact absurd z (by decide)
  | succ n ih => exact ag_dr_mono hA t ih
theorem ag_it_le {A : Nat} (hA : A ≤ 8) (t : Nat → Int32) {o : Int32} (h : ag_S (ag_dr A t o) o) : ∀ n, ag_S (ag_it A t n) o := by
  intro n
  induction n with
  | zero =>
    intro b hb z
    have z : bt 0 b = true := z
    rw [b_0] at z
    exact absurd z (by decide)
  | succ n ih => exact ag_Str (ag_dr_mono hA t ih) h
theorem ag_it_in {A : Nat} (hA : A ≤ 8) (t : Nat → Int32) : ∀ n b, b < 32 → A ≤ b → bt (ag_it A t n) b = false := by
  intro n b hb h
  cases n with
  | zero => exact b_0 b
  | succ n =>
    rw [← Bool.not_eq_true]
    intro z
    have y := ((ag_dr_bit hA t _ hb).mp z).1
    omega
theorem ag_grow {A : Nat} (hA : A ≤ 8) {s o : Int32} (h : ag_S s o) (hn : ¬ o = s) (ho : ∀ b, b < 32 → A ≤ b → bt o b = false) : ag_cn (bt s) A < ag_cn (bt o) A := by
  refine ag_cn_lt A (fun i hi => h i (by omega)) (Classical.byContradiction fun z => hn (ag_Seq (fun b hb y => ?_) h))
  rcases Nat.lt_or_ge b A with x | x
  · exact Classical.byContradiction fun w => z ⟨b, x, y, w⟩
  · rw [ho b hb x] at y
    exact absurd y (by decide)
theorem ag_it_fix {A : Nat} (hA : A ≤ 8) (t : Nat → Int32) : ag_dr A t (ag_it A t A) = ag_it A t A := by
  have key : ∀ n, ag_it A t (n + 1) = ag_it A t n ∨ n < ag_cn (bt (ag_it A t (n + 1))) A := by
    intro n
    induction n with
    | zero =>
      by_cases z : ag_it A t 1 = ag_it A t 0
      · exact Or.inl z
      · have y := ag_grow hA (ag_it_up hA t 0) z (ag_it_in hA t 1)
        exact Or.inr (by omega)
    | succ n ih =>
      rcases ih with e | e
      · exact Or.inl (congrArg (ag_dr A t) e)
      · by_cases z : ag_it A t (n + 1 + 1) = ag_it A t (n + 1)
        · exact Or.inl z
        · have y := ag_grow hA (ag_it_up hA t (n + 1)) z (ag_it_in hA t (n + 1 + 1))
          exact Or.inr (by omega)
  rcases key A with e | e
  · exact e
  · have y := ag_cn_le (bt (ag_it A t (A + 1))) A
    omega
/-- the set with number j is the least that has all that it defends -/
def ag_LP (A : Nat) (t : Nat → Int32) (j : Nat) : Prop := (ag_dr A t (nI j) &&& (nI j ^^^ (-1))) = 0 ∧ ∀ i, i < 2 ^ A → ¬ ((ag_dr A t (nI i) &&& (nI i ^^^ (-1))) = 0 ∧ ¬ (nI j &&& (nI i ^^^ (-1))) = 0)
theorem ag_gr {A : Nat} (hA : A ≤ 8) (t : Nat → Int32) : ∃ g, g < 2 ^ A ∧ ag_it A t A = nI g ∧ ag_LP A t g ∧ ∀ j, j < 2 ^ A → ag_LP A t j → j = g := by
  obtain ⟨g, hg, e⟩ := ag_set (A := A) (ag_it_in hA t A)
  have hp := ag_pw hA
  have fx := ag_it_fix hA t
  have lp : ag_LP A t g := by
    refine ⟨?_, ?_⟩
    · rw [← e, fx]
      exact ag_sub.mpr (ag_Srf _)
    · rintro i hi ⟨h1, h2⟩
      rw [← e] at h2
      exact h2 (ag_sub.mpr (ag_it_le hA t (ag_sub.mp h1) A))
  refine ⟨g, hg, e, lp, fun j hj l => ?_⟩
  have s1 : ag_S (nI g) (nI j) := ag_sub.mp (Classical.byContradiction fun z => lp.2 j hj ⟨l.1, z⟩)
  have s2 : ag_S (nI j) (nI g) := ag_sub.mp (Classical.byContradiction fun z => l.2 g hg ⟨lp.1, z⟩)
  have q := ag_Seq s2 s1
  exact (nI_eq (by omega) (by omega)).mp q
/-! ===== how many attacks there are ===== -/
def ag_sm (A : Nat) (t : Nat → Int32) : Nat → Nat
  | 0 => 0
  | n + 1 => ag_sm A t n + ag_cn (bt (t n)) A
theorem ag_sum {A : Nat} {t th : Nat → Int32} (R : ag_R A t th) : ag_cn (fun j => decide (¬ th j = 0)) 64 = ag_sm A t A := by
  obtain ⟨h2, h8, r1, r2, r3⟩ := R
  have row : ∀ a, a < 8 → ag_cn (fun i => decide (¬ th (8 * a + i) = 0)) 8 = ag_cn (bt (t a)) A := by
    intro a ha
    rw [ag_cn_congr (g := bt (t a)) 8 fun i hi => by rw [decide_eq_true_eq]; exact (r1 a i ha hi).symm]
    exact ag_cn_up h8 fun i hi _ => r2 a i ha hi
  have all : ∀ a, a ≤ 8 → ag_cn (fun j => decide (¬ th j = 0)) (8 * a) = ag_sm A t a := by
    intro a
    induction a with
    | zero => intro _; rfl
    | succ a ih =>
      intro ha
      rw [show 8 * (a + 1) = 8 * a + 8 by omega, ag_cn_add, ih (by omega), row a (by omega)]
      rfl
  have top : ∀ d, A + d ≤ 8 → ag_sm A t (A + d) = ag_sm A t A := by
    intro d
    induction d with
    | zero => intro _; rfl
    | succ d ih =>
      intro hd
      show ag_sm A t (A + d) + ag_cn (bt (t (A + d))) A = _
      rw [ih (by omega), r3 (A + d) (by omega) (by omega), ag_cn_0 A fun i _ => b_0 i]
      rfl
  have x := all 8 (by omega)
  have y := top (8 - A) (by omega)
  rw [show A + (8 - A) = 8 by omega] at y
  rw [← y, ← x]
