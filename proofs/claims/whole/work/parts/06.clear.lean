/-! ===== clear ===== -/
theorem ag_has {post : Int32 → Prop} (s : Int32) {i : Nat} (hi : i < 32) (h1 : bt s i = true → post 1) (h0 : ¬ bt s i = true → post 0) : wpX_has post s (nI i) := br_c (fun c => h1 ((ag_bit s hi).mp c)) (fun c => h0 fun b => c ((ag_bit s hi).mpr b))
theorem ag_xs_loop {post : Int32 → Prop} {A : Nat} (hA : A ≤ 8) (al : Int32) (t : Nat → Int32) (s : Int32) (h : post (nI (ag_cn (bt s) A))) : ∀ n i, i ≤ A → A - i < n → wX_sizeOf_4 post s (nI A) al t n (nI (ag_cn (bt s) i)) (nI i) := by
  intro n
  induction n with
  | zero => intro i _ hn; omega
  | succ n ih =>
    intro i hi hn
    refine pk_le A i (fun z => ?_) (fun z => ?_)
    · have e : i = A := by omega
      subst e
      exact h
    · refine ag_has s (by omega) (fun b => br_f (by decide) (nm_r (nI_1 _) (nm_r (nI_1 i) ?_))) (fun b => br_t rfl (nm_r (nI_1 i) ?_))
      · rw [← ag_cnT (f := bt s) b]
        exact ih (i + 1) (by omega) (by omega)
      · rw [← ag_cnF (f := bt s) b]
        exact ih (i + 1) (by omega) (by omega)
theorem ag_xs {post : Int32 → Prop} {A : Nat} (hA : A ≤ 8) (al : Int32) (t : Nat → Int32) (s : Int32) (h : post (nI (ag_cn (bt s) A))) : wpX_sizeOf post (nI A, al, t) s := ⟨A + 1, ag_xs_loop hA al t s h (A + 1) 0 (by omega) (by omega)⟩
theorem ag_xc_loop {post : Int32 → SX → Prop} {A : Nat} (hA : A ≤ 8) (al : Int32) (t : Nat → Int32) (h : ∀ r : Nat → Int32, (∀ a, a < A → r a = 0) → (∀ a, A ≤ a → r a = t a) → post (nI (ag_sm A t A)) (nI A, al, r)) : ∀ n i (r : Nat → Int32), i ≤ A → A - i < n → (∀ a, a < i → r a = 0) → (∀ a, i ≤ a → r a = t a) → wX_clear_4 post (nI A) al n (nI (ag_sm A t i)) (nI i) r := by
  intro n
  induction n with
  | zero => intro i r _ hn; omega
  | succ n ih =>
    intro i r hi hn r0 r1
    refine pk_le A i (fun z => ?_) (fun z => ?_)
    · have e : i = A := by omega
      subst e
      exact h r r0 r1
    · have hin : vp_in (nI i) 8 := pk_in i 8 (by omega)
      refine ⟨hin, ?_⟩
      rw [nI_clamp (show i < 2 ^ 31 by omega), r1 i (Nat.le_refl i)]
      refine ag_xs hA _ _ _ (nm_r (nI_add _ _) ⟨hin, nm_e (nm_r (nI_1 i) ?_)⟩)
      refine ih (i + 1) (upd r i 0) (by omega) (by omega) (fun a ha => ?_) (fun a ha => ?_)
      · by_cases e : a = i
        · subst e
          exact pk_us
        · rw [pk_un e]
          exact r0 a (by omega)
      · rw [pk_un (by omega)]
        exact r1 a (by omega)
theorem ag_xc {post : Int32 → SX → Prop} {A : Nat} (hA : A ≤ 8) (al : Int32) (t : Nat → Int32) (h : ∀ r : Nat → Int32, (∀ a, a < A → r a = 0) → (∀ a, A ≤ a → r a = t a) → post (nI (ag_sm A t A)) (nI A, al, r)) : wpX_clear post (nI A, al, t) := ⟨A + 1, ag_xc_loop hA al t h (A + 1) 0 t (by omega) (by omega) (fun a ha => absurd ha (by omega)) (fun a _ => rfl)⟩
theorem ag_nb0 : vp_nar .boolean 0 = 0 := rfl
theorem ag_nb1 : ¬ vp_nar .boolean 1 = 0 := by
  have e : vp_nar .boolean 1 = 1 := rfl
  rw [e]
  decide
theorem ag_yc_loop {post : Int32 → SY → Prop} (n0 al : Int32) (th : Nat → Int32) (h : ∀ r : Nat → Int32, (∀ a, a < 64 → r a = 0) → post (nI (ag_cn (fun j => decide (¬ th j = 0)) 64)) (n0, al, r)) : ∀ n i (r : Nat → Int32), i ≤ 64 → 64 - i < n → (∀ a, a < i → r a = 0) → (∀ a, i ≤ a → r a = th a) → wY_clear_4 post n0 al n (nI (ag_cn (fun j => decide (¬ th j = 0)) i)) (nI i) r := by
  intro n
  induction n with
  | zero => intro i r _ hn; omega
  | succ n ih =>
    intro i r hi hn r0 r1
    refine pk_le 64 i (fun z => ?_) (fun z => ?_)
    · have e : i = 64 := by omega
      subst e
      exact h r r0
    · have hin : vp_in (nI i) 64 := pk_in i 64 z
      refine ⟨hin, ?_⟩
      rw [nI_clamp (show i < 2 ^ 31 by omega), r1 i (Nat.le_refl i)]
      have k0 : ∀ a, a < i + 1 → upd r i (vp_nar .boolean 0) a = 0 := by
        intro a ha
        by_cases e : a = i
        · subst e
          exact pk_us
        · rw [pk_un e]
          exact r0 a (by omega)
      have k1 : ∀ a, i + 1 ≤ a → upd r i (vp_nar .boolean 0) a = th a := by
        intro a ha
        rw [pk_un (by omega)]
        exact r1 a (by omega)
      refine br_c (fun e => ⟨hin, nm_e (nm_r (nI_1 i) ?_)⟩) (fun e => nm_r (nI_1 _) ⟨hin, nm_e (nm_r (nI_1 i) ?_)⟩)
      · rw [← ag_cnF (f := fun j => decide (¬ th j = 0)) (n := i) fun c => (decide_eq_true_eq.mp c) e]
        exact ih (i + 1) _ (by omega) (by omega) k0 k1
      · rw [← ag_cnT (f := fun j => decide (¬ th j = 0)) (n := i) (decide_eq_true e)]
        exact ih (i + 1) _ (by omega) (by omega) k0 k1
theorem ag_yc {post : Int32 → SY → Prop} (n0 al : Int32) (th : Nat → Int32) (h : ∀ r : Nat → Int32, (∀ a, a < 64 → r a = 0) → post (nI (ag_cn (fun j => decide (¬ th j = 0)) 64)) (n0, al, r)) : wpY_clear post (n0, al, th) := ⟨65, ag_yc_loop n0 al th h 65 0 th (by omega) (by omega) (fun a ha => absurd ha (by omega)) (fun a _ => rfl)⟩
theorem ag_R_0 {A : Nat} (h2 : 2 ≤ A) (h8 : A ≤ 8) {t th : Nat → Int32} (z1 : ∀ a, a < 8 → t a = 0) (z2 : ∀ a, a < 64 → th a = 0) : ag_R A t th := by
  refine ⟨h2, h8, fun a b ha hb => ?_, fun a b ha _ => ?_, fun a _ ha => z1 a ha⟩
  · rw [z1 a ha, z2 (8 * a + b) (by omega), b_0]
    exact ⟨fun h => absurd h (by decide), fun h => absurd rfl h⟩
  · rw [z1 a ha, b_0]
/-! ===== arguments ===== -/
theorem ag_arg (v : Int32) {A : Nat} (hA : A ≤ 8) : (v < 0 ∨ nI A ≤ v) ∨ ∃ a, a < A ∧ v = nI a := by
  rcases pk_ix v (n := A) (by omega) with h | h | h
  · exact Or.inl (Or.inl h)
  · exact Or.inl (Or.inr h)
  · exact Or.inr h
theorem ag_xno {post : Int32 → Prop} {n al : Int32} {t : Nat → Int32} {v : Int32} (h : v < 0 ∨ n ≤ v) (h0 : post 0) : wpX_isArgument post (n, al, t) v := br_c (fun _ => h0) (fun z => br_t (h.resolve_left z) h0)
theorem ag_xok {post : Int32 → Prop} {A : Nat} (hA : A ≤ 8) {al : Int32} {t : Nat → Int32} {a : Nat} (ha : a < A) (h1 : post 1) : wpX_isArgument post (nI A, al, t) (nI a) := br_f (nI_pos (by omega)) (br_f (nI_ge ha (by omega)) h1)
theorem ag_yno {post : Int32 → Prop} {n al : Int32} {t : Nat → Int32} {v : Int32} (h : v < 0 ∨ n ≤ v) (h0 : post 0) : wpY_isArgument post (n, al, t) v := br_c (fun _ => h0) (fun z => br_t (h.resolve_left z) h0)
theorem ag_yok {post : Int32 → Prop} {A : Nat} (hA : A ≤ 8) {al : Int32} {t : Nat → Int32} {a : Nat} (ha : a < A) (h1 : post 1) : wpY_isArgument post (nI A, al, t) (nI a) := br_f (nI_pos (by omega)) (br_f (nI_ge ha (by omega)) h1)
theorem ag_ix (a b : Nat) : (8 : Int32) * nI a + nI b = nI (8 * a + b) := by
  show nI 8 * nI a + nI b = _
  rw [pk_mul, nI_add]
theorem ag_big {x y : Int32} {b c : Nat} (h : c < 32 → bt x c = bt y c) : bt x c = bt y c := by
  rcases Nat.lt_or_ge c 32 with z | z
  · exact h z
  · rw [b_big z, b_big z]
theorem ag_R_on {A : Nat} {t th : Nat → Int32} (R : ag_R A t th) {a b : Nat} (ha : a < A) (hb : b < A) : ag_R A (upd t a (t a ||| ((1 : Int32) <<< (nI b &&& 31)))) (upd th (8 * a + b) (vp_nar .boolean 1)) := by
  have h8 := R.2.1
  refine ag_R_upd R ha hb ⟨fun _ => ag_nb1, fun _ => ?_⟩ (fun c hc => ?_)
  · rw [b_or, ag_one (by omega) (by omega), decide_eq_true rfl, Bool.or_true]
  · refine ag_big (b := b) fun h => ?_
    rw [b_or, ag_one (by omega) h, decide_eq_false hc, Bool.or_false]
theorem ag_R_off {A : Nat} {t th : Nat → Int32} (R : ag_R A t th) {a b : Nat} (ha : a < A) (hb : b < A) : ag_R A (upd t a (t a &&& (((1 : Int32) <<< (nI b &&& 31)) ^^^ (-1)))) (upd th (8 * a + b) (vp_nar .boolean 0)) := by
  have h8 := R.2.1
  refine ag_R_upd R ha hb ⟨fun h => ?_, fun h => absurd ag_nb0 h⟩ (fun c hc => ?_)
  · rw [b_and, ag_not _ (by omega), ag_one (by omega) (by omega), decide_eq_true rfl] at h
    simp at h
  · refine ag_big (b := b) fun h => ?_
    rw [b_and, ag_not _ h, ag_one (by omega) h, decide_eq_false hc]
    simp
