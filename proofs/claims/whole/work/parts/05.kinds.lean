/-! ===== one kind, both sides ===== -/
theorem ag_0 {A : Nat} {t th : Nat → Int32} (R : ag_R A t th) (k : Nat) (hk : k < 2 ^ A) (post : Int32 → Prop) (h1 : ag_CO A t (nI k) → post 1) (h0 : ¬ ag_CO A t (nI k) → post 0) : wpX_isExtension post (nI A, ag_al A, t) 0 (nI k) ∧ wpY_is post (nI A, ag_al A, th) 0 (nI k) := by
  constructor
  · unfold wpX_isExtension
    dsimp only
    refine br_f (by decide) (br_f (by decide) (br_t rfl ?_))
    exact ag_xco R.2.1 t _ (fun h => ⟨rfl, h1 h⟩) (fun h => ⟨rfl, h0 h⟩)
  · unfold wpY_is
    dsimp only
    refine br_f (by decide) (ag_yad R _ (fun ad => br_f (by decide) (br_t rfl ?_)) (fun nad => br_t rfl (h0 fun z => nad (ag_AD_of.mp z).1)))
    exact ag_yde R _ _ ⟨fun e => h1 (ag_AD_of.mpr ⟨ad, e⟩), fun e => h0 fun z => e z.2⟩
theorem ag_k1 {A : Nat} {t th : Nat → Int32} (R : ag_R A t th) (k : Nat) (hk : k < 2 ^ A) (post : Int32 → Prop) (h1 : ag_PR A t k → post 1) (h0 : ¬ ag_PR A t k → post 0) : wpX_isExtension post (nI A, ag_al A, t) 1 (nI k) ∧ wpY_is post (nI A, ag_al A, th) 1 (nI k) := by
  constructor
  · unfold wpX_isExtension
    dsimp only
    refine br_f (by decide) (br_f (by decide) (br_f (by decide) (br_t rfl ?_)))
    exact ag_xpr R.2.1 t k hk (fun h => ⟨rfl, h1 h⟩) (fun h => ⟨rfl, h0 h⟩)
  · unfold wpY_is
    dsimp only
    refine br_f (by decide) (ag_yad R _ (fun ad => br_f (by decide) (br_f (by decide) (br_t rfl ?_))) (fun nad => br_t rfl (h0 fun z => nad z.1)))
    exact ag_ymx R k hk (fun h => ⟨rfl, h1 ⟨ad, h⟩⟩) (fun h => ⟨rfl, h0 fun z => h z.2⟩)
theorem ag_k2 {A : Nat} {t th : Nat → Int32} (R : ag_R A t th) (k : Nat) (hk : k < 2 ^ A) (post : Int32 → Prop) (h1 : ag_ST A t (nI k) → post 1) (h0 : ¬ ag_ST A t (nI k) → post 0) : wpX_isExtension post (nI A, ag_al A, t) 2 (nI k) ∧ wpY_is post (nI A, ag_al A, th) 2 (nI k) := by
  constructor
  · unfold wpX_isExtension
    dsimp only
    refine br_f (by decide) (br_f (by decide) (br_f (by decide) (br_f (by decide) (br_t rfl ?_))))
    exact ag_xst R.2.1 t _ (fun h => ⟨rfl, h1 h⟩) (fun h => ⟨rfl, h0 h⟩)
  · unfold wpY_is
    dsimp only
    refine br_t rfl (ag_ycf R _ (fun c => br_f (by decide) ?_) (fun c => br_t rfl (h0 fun z => c z.1)))
    exact ag_ya R _ _ _ ⟨fun e => h1 ⟨c, e⟩, fun e => h0 fun z => e z.2⟩
theorem ag_k3 {A : Nat} {t th : Nat → Int32} (R : ag_R A t th) (k : Nat) (hk : k < 2 ^ A) (post : Int32 → Prop) (h1 : ag_SE A t k → post 1) (h0 : ¬ ag_SE A t k → post 0) : wpX_isExtension post (nI A, ag_al A, t) 3 (nI k) ∧ wpY_is post (nI A, ag_al A, th) 3 (nI k) := by
  constructor
  · unfold wpX_isExtension
    dsimp only
    refine br_f (by decide) (br_t (by decide) ?_)
    exact ag_xse R.2.1 t k (fun h => ⟨rfl, h1 h⟩) (fun h => ⟨rfl, h0 h⟩)
  · unfold wpY_is
    dsimp only
    refine br_f (by decide) (ag_yad R _ (fun ad => br_f (by decide) (br_f (by decide) (br_f (by decide) ?_))) (fun nad => br_t rfl (h0 fun z => nad z.1)))
    exact ag_ywd R k (fun h => ⟨rfl, h1 ⟨ad, h⟩⟩) (fun h => ⟨rfl, h0 fun z => h z.2⟩)
/-- what 'is an extension of this kind' is: one E for both sides -/
def ag_E (A : Nat) (t th : Nat → Int32) (v : Int32) (E : Nat → Prop) : Prop := ∀ k, k < 2 ^ A → ∀ post : Int32 → Prop, (E k → post 1) → (¬ E k → post 0) → wpX_isExtension post (nI A, ag_al A, t) v (nI k) ∧ wpY_is post (nI A, ag_al A, th) v (nI k)
theorem ag_kind {A : Nat} {t th : Nat → Int32} (R : ag_R A t th) (v : Int32) : v < 0 ∨ (¬ v < 0 ∧ 3 < v) ∨ (¬ v < 0 ∧ ¬ 3 < v ∧ ∃ E, ag_E A t th v E) := by
  by_cases h : v < 0
  · exact Or.inl h
  · by_cases h3 : 3 < v
    · exact Or.inr (Or.inl ⟨h, h3⟩)
    · refine Or.inr (Or.inr ⟨h, h3, ?_⟩)
      obtain ⟨j, hj, rfl⟩ := nI_of h
      have h4 : j ≤ 3 := by
        apply Nat.le_of_not_lt
        intro z
        exact h3 (nI_lt (a := 3) z hj)
      have c : j = 0 ∨ j = 1 ∨ j = 2 ∨ j = 3 := by omega
      rcases c with rfl | rfl | rfl | rfl
      · exact ⟨fun k => ag_CO A t (nI k), ag_0 R⟩
      · exact ⟨fun k => ag_PR A t k, ag_k1 R⟩
      · exact ⟨fun k => ag_ST A t (nI k), ag_k2 R⟩
      · exact ⟨fun k => ag_SE A t k, ag_k3 R⟩
/-! ===== the four folds ===== -/
theorem ag_count {A : Nat} (hA : A ≤ 8) {t th : Nat → Int32} {v : Int32} {E : Nat → Prop} (hE : ag_E A t th v E) : ∃ r, (∀ post : Int32 → Prop, post r → wX_count_13 post v (nI A) (ag_al A) t (2 ^ A + 1) 0 0) ∧ (∀ post : Int32 → Prop, post r → wY_count_14 post v (nI A) (ag_al A) th (2 ^ A + 1) 0 0) := by
  have hp := ag_pw hA
  have hp0 := ag_pw0 A
  refine ag_lk (2 ^ A) E (fun c _ => c + 1) (fun post n c x => wX_count_13 post v (nI A) (ag_al A) t n c x) (fun post n c x => wY_count_14 post v (nI A) (ag_al A) th n c x) ?_ ?_ ?_ ?_ (2 ^ A) 0 0 (by omega)
  · intro post n j c hj h1 h0
    exact pk_lt (2 ^ A - 1) j (fun h => absurd h (by omega)) (fun _ => (hE j hj _ (fun e => br_f (by decide) (nm_e (nm_r (nI_1 j) (h1 e)))) (fun e => br_t rfl (nm_r (nI_1 j) (h0 e)))).1)
  · intro post n c h
    exact pk_lt (2 ^ A - 1) (2 ^ A) (fun _ => h) (fun z => absurd z (by omega))
  · intro post n j c hj h1 h0
    exact pk_lt (2 ^ A - 1) j (fun h => absurd h (by omega)) (fun _ => (hE j hj _ (fun e => br_f (by decide) (nm_e (nm_r (nI_1 j) (h1 e)))) (fun e => br_t rfl (nm_r (nI_1 j) (h0 e)))).2)
  · intro post n c h
    exact pk_lt (2 ^ A - 1) (2 ^ A) (fun _ => h) (fun z => absurd z (by omega))
theorem ag_some {A : Nat} (hA : A ≤ 8) {t th : Nat → Int32} {v : Int32} {E : Nat → Prop} (hE : ag_E A t th v E) : ∃ r, (∀ post : Int32 → Prop, post r → wX_inSome_13 post v (nI A) (ag_al A) t (2 ^ A + 1) 0 0) ∧ (∀ post : Int32 → Prop, post r → wY_inSome_14 post v (nI A) (ag_al A) th (2 ^ A + 1) 0 0) := by
  have hp := ag_pw hA
  have hp0 := ag_pw0 A
  refine ag_lk (2 ^ A) E (fun c x => c ||| x) (fun post n c x => wX_inSome_13 post v (nI A) (ag_al A) t n c x) (fun post n c x => wY_inSome_14 post v (nI A) (ag_al A) th n c x) ?_ ?_ ?_ ?_ (2 ^ A) 0 0 (by omega)
  · intro post n j c hj h1 h0
    exact pk_lt (2 ^ A - 1) j (fun h => absurd h (by omega)) (fun _ => (hE j hj _ (fun e => br_f (by decide) (nm_e (nm_r (nI_1 j) (h1 e)))) (fun e => br_t rfl (nm_r (nI_1 j) (h0 e)))).1)
  · intro post n c h
    exact pk_lt (2 ^ A - 1) (2 ^ A) (fun _ => h) (fun z => absurd z (by omega))
  · intro post n j c hj h1 h0
    exact pk_lt (2 ^ A - 1) j (fun h => absurd h (by omega)) (fun _ => (hE j hj _ (fun e => br_f (by decide) (nm_e (nm_r (nI_1 j) (h1 e)))) (fun e => br_t rfl (nm_r (nI_1 j) (h0 e)))).2)
  · intro post n c h
    exact pk_lt (2 ^ A - 1) (2 ^ A) (fun _ => h) (fun z => absurd z (by omega))
theorem ag_every {A : Nat} (hA : A ≤ 8) {t th : Nat → Int32} {v : Int32} {E : Nat → Prop} (hE : ag_E A t th v E) : ∃ r, (∀ post : Int32 → Prop, post r → wX_inEvery_16 post v (nI A) (ag_al A) t (2 ^ A + 1) (ag_al A) 0) ∧ (∀ post : Int32 → Prop, post r → wY_inEvery_17 post v (nI A) (ag_al A) th (2 ^ A + 1) (ag_al A) 0) := by
  have hp := ag_pw hA
  have hp0 := ag_pw0 A
  refine ag_lk (2 ^ A) E (fun c x => c &&& x) (fun post n c x => wX_inEvery_16 post v (nI A) (ag_al A) t n c x) (fun post n c x => wY_inEvery_17 post v (nI A) (ag_al A) th n c x) ?_ ?_ ?_ ?_ (2 ^ A) 0 (ag_al A) (by omega)
  · intro post n j c hj h1 h0
    exact pk_lt (2 ^ A - 1) j (fun h => absurd h (by omega)) (fun _ => (hE j hj _ (fun e => br_f (by decide) (nm_e (nm_r (nI_1 j) (h1 e)))) (fun e => br_t rfl (nm_r (nI_1 j) (h0 e)))).1)
  · intro post n c h
    exact pk_lt (2 ^ A - 1) (2 ^ A) (fun _ => h) (fun z => absurd z (by omega))
  · intro post n j c hj h1 h0
    exact pk_lt (2 ^ A - 1) j (fun h => absurd h (by omega)) (fun _ => (hE j hj _ (fun e => br_f (by decide) (nm_e (nm_r (nI_1 j) (h1 e)))) (fun e => br_t rfl (nm_r (nI_1 j) (h0 e)))).2)
  · intro post n c h
    exact pk_lt (2 ^ A - 1) (2 ^ A) (fun _ => h) (fun z => absurd z (by omega))
theorem ag_ext {A : Nat} (hA : A ≤ 8) {t th : Nat → Int32} {v : Int32} {E : Nat → Prop} (hE : ag_E A t th v E) (k : Int32) : ∃ r, (∀ post : Int32 → Prop, post r → wX_extension_14 post v k (nI A) (ag_al A) t (2 ^ A + 1) 0 0) ∧ (∀ post : Int32 → Prop, post r → wY_extension_15 post v k (nI A) (ag_al A) th (2 ^ A + 1) 0 0) := by
  have hp := ag_pw hA
  have hp0 := ag_pw0 A
  refine ag_le (2 ^ A) E k (fun post n c x => wX_extension_14 post v k (nI A) (ag_al A) t n c x) (fun post n c x => wY_extension_15 post v k (nI A) (ag_al A) th n c x) ?_ ?_ ?_ ?_ (2 ^ A) 0 0 (by omega)
  · intro post n j c hj h2 h1 h0
    exact pk_lt (2 ^ A - 1) j (fun h => absurd h (by omega)) (fun _ => (hE j hj _ (fun e => br_f (by decide) (br_c (h2 e) (fun f => nm_e (nm_r (nI_1 j) (h1 e f))))) (fun e => br_t rfl (nm_r (nI_1 j) (h0 e)))).1)
  · intro post n c h
    exact pk_lt (2 ^ A - 1) (2 ^ A) (fun _ => h) (fun z => absurd z (by omega))
  · intro post n j c hj h2 h1 h0
    exact pk_lt (2 ^ A - 1) j (fun h => absurd h (by omega)) (fun _ => (hE j hj _ (fun e => br_f (by decide) (br_c (h2 e) (fun f => nm_e (nm_r (nI_1 j) (h1 e f))))) (fun e => br_t rfl (nm_r (nI_1 j) (h0 e)))).2)
  · intro post n c h
    exact pk_lt (2 ^ A - 1) (2 ^ A) (fun _ => h) (fun z => absurd z (by omega))
/-! ===== Y's grounded ===== -/
theorem ag_yg_in0 {post J : Int32 → Prop} {x n0 al : Int32} {th : Nat → Int32} {i : Int32} (n : Nat) (h : J (x + 1)) : wY_grounded_30 post J x n0 al th (n + 1) 0 i := br_c (fun _ => br_t rfl (nm_e h)) (fun _ => br_t rfl (br_t rfl (nm_e h)))
def ag_Qg (A : Nat) (t : Nat → Int32) (x : Int32) (i : Nat) : Prop := (ag_dr A t (nI i) &&& (nI i ^^^ (-1))) = 0 ∧ ¬ (x &&& (nI i ^^^ (-1))) = 0
theorem ag_yg_in {post J : Int32 → Prop} {A : Nat} {t th : Nat → Int32} (R : ag_R A t th) (x : Int32) : ∀ n j, j ≤ 2 ^ A → 2 ^ A - j + 1 < n → ((∀ i, j ≤ i → i < 2 ^ A → ¬ ag_Qg A t x i) → post x) → ((∃ i, j ≤ i ∧ i < 2 ^ A ∧ ag_Qg A t x i) → J (x + 1)) → wY_grounded_30 post J x (nI A) (ag_al A) th n 1 (nI j) := by
  have hp := ag_pw R.2.1
  have hp0 := ag_pw0 A
  intro n
  induction n with
  | zero => intro j _ hn; omega
  | succ n ih =>
    intro j hj hn h1 h0
    refine pk_lt (2 ^ A - 1) j (fun z => ?_) (fun z => ?_)
    · exact br_f (by decide) (h1 fun i hi hm => absurd hi (by omega))
    · refine br_f (by decide) (ag_yde R _ _ (br_c (fun e => br_c (fun f => ?_) (fun f => ?_)) (fun e => ?_)))
      · refine nm_r (nI_1 j) (ih (j + 1) (by omega) (by omega) (fun a => h1 fun i hi hm q => ?_) (fun ⟨i, a, b, q⟩ => h0 ⟨i, by omega, b, q⟩))
        rcases Nat.eq_or_lt_of_le hi with y | y
        · subst y
          exact q.2 f
        · exact a i y hm q
      · obtain ⟨m, rfl⟩ : ∃ m, n = m + 1 := ⟨n - 1, by omega⟩
        exact nm_e (ag_yg_in0 m (h0 ⟨j, Nat.le_refl j, by omega, e, f⟩))
      · refine nm_r (nI_1 j) (ih (j + 1) (by omega) (by omega) (fun a => h1 fun i hi hm q => ?_) (fun ⟨i, a, b, q⟩ => h0 ⟨i, by omega, b, q⟩))
        rcases Nat.eq_or_lt_of_le hi with y | y
        · subst y
          exact e q.1
        · exact a i y hm q
theorem ag_yg_loop {post : Int32 → Prop} {A : Nat} {t th : Nat → Int32} (R : ag_R A t th) {g : Nat} (hg : g < 2 ^ A) (lg : ag_LP A t g) (un : ∀ j, j < 2 ^ A → ag_LP A t j → j = g) (h : post (nI g)) : ∀ n j, j ≤ g → g - j < n → wY_grounded_2 post (nI A) (ag_al A) th n (nI j) := by
  have hp := ag_pw R.2.1
  have hp0 := ag_pw0 A
  intro n
  induction n with
  | zero => intro j _ hn; omega
  | succ n ih =>
    intro j hj hn
    refine pk_lt (2 ^ A - 1) j (fun z => absurd z (by omega)) (fun _ => ag_yde R _ _ ?_)
    have nxt : ¬ ag_LP A t j → wY_grounded_2 post (nI A) (ag_al A) th n (nI j + 1) := by
      intro nl
      have ne : j ≠ g := fun e => nl (e ▸ lg)
      rw [nI_1]
      exact ih (j + 1) (by omega) (by omega)
    refine br_c (fun e => ⟨2 ^ A + 2, ?_⟩) (fun e => ⟨1, ?_⟩)
    · refine ag_yg_in R (nI j) (2 ^ A + 2) 0 (by omega) (by omega) (fun a => ?_) (fun ⟨i, a, b, q⟩ => nxt fun l => l.2 i b q)
      have l : ag_LP A t j := ⟨e, fun i hi => a i (by omega) hi⟩
      have f := un j (by omega) l
      subst f
      exact h
    · exact ag_yg_in0 0 (nxt fun l => e l.1)
theorem ag_grd {A : Nat} {t th : Nat → Int32} (R : ag_R A t th) : ∃ r, (∀ post : Int32 → Prop, post r → wpX_grounded post (nI A, ag_al A, t)) ∧ (∀ post : Int32 → Prop, post r → wpY_grounded post (nI A, ag_al A, th)) := by
  obtain ⟨g, hg, e, lg, un⟩ := ag_gr R.2.1 t
  refine ⟨nI g, fun post h => ag_xg R.2.1 t (by rw [e]; exact h), fun post h => ⟨g + 1, ?_⟩⟩
  exact ag_yg_loop R hg lg un h (g + 1) 0 (by omega) (by omega)
