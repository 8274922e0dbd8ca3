/-! ===== X's walks ===== -/
theorem ag_xa_loop {post : Int32 → Prop} {A : Nat} (hA : A ≤ 8) (al : Int32) (t : Nat → Int32) (s : Int32) (h : post (ag_ar A t s)) : ∀ n i, i ≤ A → A - i < n → wX_attackedBy_4 post s (nI A) al t n (ag_af t s i) (nI i) := by
  intro n
  induction n with
  | zero => intro i _ hn; omega
  | succ n ih =>
    intro i hi hn
    refine pk_le A i (fun z => ?_) (fun z => ?_)
    · have e : i = A := by omega
      subst e
      exact h
    · by_cases b : bt s i = true
      · refine br_t ((ag_bit s (by omega)).mpr b) ⟨pk_in i 8 (by omega), fun y ey x ex => ?_⟩
        rw [ey, ex, nI_1, pk_cl i, ← ag_afT b]
        exact ih (i + 1) (by omega) (by omega)
      · refine br_f (fun c => b ((ag_bit s (by omega)).mp c)) fun x ex => ?_
        rw [ex, nI_1, ← ag_afF (t := t) b]
        exact ih (i + 1) (by omega) (by omega)
theorem ag_xa {post : Int32 → Prop} {A : Nat} (hA : A ≤ 8) (al : Int32) (t : Nat → Int32) (s : Int32) (h : post (ag_ar A t s)) : wpX_attackedBy post (nI A, al, t) s := ⟨A + 1, ag_xa_loop hA al t s h (A + 1) 0 (by omega) (by omega)⟩
theorem ag_xd {post : Int32 → Prop} {A : Nat} (hA : A ≤ 8) (t : Nat → Int32) (s : Int32) (h : post (ag_dr A t s)) : wpX_defendedBy post (nI A, ag_al A, t) s := by
  unfold wpX_defendedBy
  dsimp only
  refine ag_xa hA _ _ _ ?_
  intro y ey
  subst ey
  exact ag_xa hA _ _ _ h
theorem ag_xcf {post : Int32 → Prop} {A : Nat} (hA : A ≤ 8) (t : Nat → Int32) (s : Int32) (h1 : ag_CF A t s → post 1) (h0 : ¬ ag_CF A t s → post 0) : wpX_isConflictFree post (nI A, ag_al A, t) s := by
  unfold wpX_isConflictFree
  dsimp only
  exact ag_xa hA _ _ _ ⟨h1, h0⟩
theorem ag_xco {post : Int32 → Prop} {A : Nat} (hA : A ≤ 8) (t : Nat → Int32) (s : Int32) (h1 : ag_CO A t s → post 1) (h0 : ¬ ag_CO A t s → post 0) : wpX_isComplete post (nI A, ag_al A, t) s := by
  unfold wpX_isComplete
  dsimp only
  refine ag_xcf hA _ _ (fun c => ?_) (fun c => ?_)
  · exact br_f (by decide) (ag_xd hA _ _ ⟨fun e => h1 ⟨c, e⟩, fun e => h0 fun z => e z.2⟩)
  · exact br_t rfl (h0 fun z => c z.1)
theorem ag_xad {post : Int32 → Prop} {A : Nat} (hA : A ≤ 8) (t : Nat → Int32) (s : Int32) (h1 : ag_AD A t s → post 1) (h0 : ¬ ag_AD A t s → post 0) : wpX_isAdmissible post (nI A, ag_al A, t) s := by
  unfold wpX_isAdmissible
  dsimp only
  refine ag_xcf hA _ _ (fun c => ?_) (fun c => ?_)
  · exact br_f (by decide) (ag_xd hA _ _ ⟨fun e => ⟨rfl, h1 ⟨c, e⟩⟩, fun e => ⟨rfl, h0 fun z => e z.2⟩⟩)
  · exact br_t rfl (h0 fun z => c z.1)
theorem ag_xr {post : Int32 → Prop} {A : Nat} (hA : A ≤ 8) (t : Nat → Int32) (s : Int32) (h : post (s ||| ag_ar A t s)) : wpX_rangeOf post (nI A, ag_al A, t) s := by
  unfold wpX_rangeOf
  dsimp only
  exact ag_xa hA _ _ _ h
theorem ag_xst {post : Int32 → Prop} {A : Nat} (hA : A ≤ 8) (t : Nat → Int32) (s : Int32) (h1 : ag_ST A t s → post 1) (h0 : ¬ ag_ST A t s → post 0) : wpX_isStable post (nI A, ag_al A, t) s := by
  unfold wpX_isStable
  dsimp only
  refine ag_xcf hA _ _ (fun c => ?_) (fun c => ?_)
  · exact br_f (by decide) (ag_xr hA _ _ ⟨fun e => h1 ⟨c, e⟩, fun e => h0 fun z => e z.2⟩)
  · exact br_t rfl (h0 fun z => c z.1)
theorem ag_xpr_s {post : Int32 → Prop} {A : Nat} (hA : A ≤ 8) (t : Nat → Int32) (s : Int32) (n j : Nat) (hj : j < 2 ^ A) (h0 : ag_QP A t s j → post 0) (hn : ¬ ag_QP A t s j → wX_isPreferred_14 post s (nI A) (ag_al A) t n (nI (j + 1))) : wX_isPreferred_14 post s (nI A) (ag_al A) t (n + 1) (nI j) := by
  have hp := ag_pw hA
  have hp0 := ag_pw0 A
  refine pk_lt (2 ^ A - 1) j (fun h => absurd h (by omega)) (fun _ => ?_)
  refine br_c (fun e => ?_) (fun e => ?_)
  · refine br_f (by decide) (ag_xad hA t (nI j) (fun ad => ?_) (fun nad => ?_))
    · exact br_f (by decide) (h0 ⟨e, ad⟩)
    · exact br_t rfl (nm_r (nI_1 j) (hn fun q => nad q.2))
  · exact br_t rfl (nm_r (nI_1 j) (hn fun q => e q.1))
theorem ag_xpr {post : Int32 → Prop} {A : Nat} (hA : A ≤ 8) (t : Nat → Int32) (k : Nat) (hk : k < 2 ^ A) (h1 : ag_PR A t k → post 1) (h0 : ¬ ag_PR A t k → post 0) : wpX_isPreferred post (nI A, ag_al A, t) (nI k) := by
  have hp := ag_pw hA
  have hp0 := ag_pw0 A
  unfold wpX_isPreferred
  dsimp only
  refine ag_xad hA _ _ (fun c => ?_) (fun c => ?_)
  · refine br_f (by decide) (nm_r (nI_1 k) ⟨2 ^ A + 1, ?_⟩)
    refine ag_srch (2 ^ A) (ag_QP A t (nI k)) post (fun n x => wX_isPreferred_14 post (nI k) (nI A) (ag_al A) t n x) (fun n j hj a b => ag_xpr_s hA t (nI k) n j hj a b) (fun n h => ?_) (2 ^ A + 1) (k + 1) (by omega) (by omega) (fun h => h1 ⟨c, ag_PR_above (by omega) h⟩) (fun ⟨i, a, b, q⟩ => h0 fun z => z.2 i b (by omega) q)
    exact pk_lt (2 ^ A - 1) (2 ^ A) (fun _ => h) (fun z => absurd z (by omega))
  · exact br_t rfl (h0 fun z => c z.1)
theorem ag_xse_s {post : Int32 → Prop} {A : Nat} (hA : A ≤ 8) (t : Nat → Int32) (r : Int32) (n j : Nat) (hj : j < 2 ^ A) (h0 : ag_QS A t r j → post 0) (hn : ¬ ag_QS A t r j → wX_isSemistable_18 post r (nI A) (ag_al A) t n (nI (j + 1))) : wX_isSemistable_18 post r (nI A) (ag_al A) t (n + 1) (nI j) := by
  have hp := ag_pw hA
  have hp0 := ag_pw0 A
  refine pk_lt (2 ^ A - 1) j (fun h => absurd h (by omega)) (fun _ => ?_)
  refine ag_xr hA _ _ (br_c (fun e => ?_) (fun e => br_c (fun c => ?_) (fun c => ?_)))
  · exact nm_r (nI_1 j) (hn fun q => q.1 e)
  · refine br_f (by decide) (ag_xad hA t (nI j) (fun ad => ?_) (fun nad => ?_))
    · exact br_f (by decide) (h0 ⟨e, c, ad⟩)
    · exact br_t rfl (nm_r (nI_1 j) (hn fun q => nad q.2.2))
  · exact br_t rfl (nm_r (nI_1 j) (hn fun q => c q.2.1))
theorem ag_xse {post : Int32 → Prop} {A : Nat} (hA : A ≤ 8) (t : Nat → Int32) (k : Nat) (h1 : ag_SE A t k → post 1) (h0 : ¬ ag_SE A t k → post 0) : wpX_isSemistable post (nI A, ag_al A, t) (nI k) := by
  have hp := ag_pw hA
  have hp0 := ag_pw0 A
  unfold wpX_isSemistable
  dsimp only
  refine ag_xad hA _ _ (fun c => ?_) (fun c => ?_)
  · refine br_f (by decide) (ag_xr hA _ _ ⟨2 ^ A + 1, ?_⟩)
    refine ag_srch (2 ^ A) (ag_QS A t (nI k ||| ag_ar A t (nI k))) post (fun n x => wX_isSemistable_18 post (nI k ||| ag_ar A t (nI k)) (nI A) (ag_al A) t n x) (fun n j hj a b => ag_xse_s hA t _ n j hj a b) (fun n h => ?_) (2 ^ A + 1) 0 (by omega) (by omega) (fun h => h1 ⟨c, fun i hi => h i (by omega) hi⟩) (fun ⟨i, a, b, q⟩ => h0 fun z => z.2 i b q)
    exact pk_lt (2 ^ A - 1) (2 ^ A) (fun _ => h) (fun z => absurd z (by omega))
  · exact br_t rfl (h0 fun z => c z.1)
theorem ag_xg_loop {post : Int32 → Prop} {A : Nat} (hA : A ≤ 8) (t : Nat → Int32) (h : post (ag_it A t A)) : ∀ n i, i ≤ A → A - i < n → wX_grounded_4 post (nI A) (ag_al A) t n (ag_it A t i) (nI i) := by
  intro n
  induction n with
  | zero => intro i _ hn; omega
  | succ n ih =>
    intro i hi hn
    refine pk_le A i (fun z => ?_) (fun z => ?_)
    · have e : i = A := by omega
      subst e
      exact h
    · exact ag_xd hA t _ (nm_r (nI_1 i) (ih (i + 1) (by omega) (by omega)))
theorem ag_xg {post : Int32 → Prop} {A : Nat} (hA : A ≤ 8) (t : Nat → Int32) (h : post (ag_it A t A)) : wpX_grounded post (nI A, ag_al A, t) := ⟨A + 1, ag_xg_loop hA t h (A + 1) 0 (by omega) (by omega)⟩
/-! ===== Y's walks ===== -/
theorem ag_sh3 {m : Nat} (hm : m < 64) : nI m >>> ((3 : Int32) &&& 31) = nI (m / 8) := pk_shrN (by omega) _ 3 (by decide)
theorem ag_and7 {m : Nat} (hm : m < 64) : nI m &&& 7 = nI (m % 8) := pk_andN (by omega) 3 (by decide)
theorem ag_in {post : Int32 → Prop} {n al : Int32} {th : Nat → Int32} (s : Int32) {i : Nat} (hi : i < 32) (h1 : bt s i = true → post 1) (h0 : ¬ bt s i = true → post 0) : wpY_in post (n, al, th) s (nI i) := br_c (fun c => h1 ((ag_bit s hi).mp c)) (fun c => h0 fun b => c ((ag_bit s hi).mpr b))
theorem ag_ya_loop {post : Int32 → Prop} (n0 al : Int32) (th : Nat → Int32) (s : Int32) (h : post (ag_yf th s 64)) : ∀ n i, i ≤ 64 → 64 - i < n → wY_attacked_4 post s n0 al th n (ag_yf th s i) (nI i) := by
  intro n
  induction n with
  | zero => intro i _ hn; omega
  | succ n ih =>
    intro i hi hn
    refine pk_le 64 i (fun z => ?_) (fun z => ?_)
    · have e : i = 64 := by omega
      subst e
      exact h
    · refine ⟨pk_in i 64 z, ?_⟩
      rw [ag_sh3 z, ag_and7 z, nI_clamp (show i < 2 ^ 31 by omega)]
      refine br_c (fun e => ?_) (fun e => ?_)
      · refine nm_r (nI_1 i) ?_
        rw [← ag_yfF (th := th) (s := s) (m := i) fun c => c.1 e]
        exact ih (i + 1) (by omega) (by omega)
      · refine ag_in s (by omega) (fun b => br_f (by decide) (nm_e (nm_r (nI_1 i) ?_))) (fun b => br_t rfl (nm_r (nI_1 i) ?_))
        · rw [← ag_yfT (th := th) (s := s) (m := i) ⟨e, b⟩]
          exact ih (i + 1) (by omega) (by omega)
        · rw [← ag_yfF (th := th) (s := s) (m := i) fun c => b c.2]
          exact ih (i + 1) (by omega) (by omega)
theorem ag_ya {post : Int32 → Prop} {A : Nat} {t th : Nat → Int32} (R : ag_R A t th) (n0 al : Int32) (s : Int32) (h : post (ag_ar A t s)) : wpY_attacked post (n0, al, th) s := by
  rw [← ag_yf_eq R] at h
  exact ⟨65, ag_ya_loop n0 al th s h 65 0 (by omega) (by omega)⟩
theorem ag_yd_loop {post : Int32 → Prop} (n0 al al0 : Int32) (th : Nat → Int32) (s : Int32) (h : post (ag_yd th al0 s 64)) : ∀ n i, i ≤ 64 → 64 - i < n → wY_defended_14 post s n0 al th n (ag_yd th al0 s i) (nI i) := by
  intro n
  induction n with
  | zero => intro i _ hn; omega
  | succ n ih =>
    intro i hi hn
    refine pk_le 64 i (fun z => ?_) (fun z => ?_)
    · have e : i = 64 := by omega
      subst e
      exact h
    · refine ⟨pk_in i 64 z, ?_⟩
      rw [ag_sh3 z, ag_and7 z, nI_clamp (show i < 2 ^ 31 by omega)]
      refine br_c (fun e => ?_) (fun e => ?_)
      · refine nm_r (nI_1 i) ?_
        rw [← ag_ydF (th := th) (al := al0) (s := s) (m := i) fun c => c.1 e]
        exact ih (i + 1) (by omega) (by omega)
      · refine ag_in s (by omega) (fun b => br_f (by decide) (nm_r (nI_1 i) ?_)) (fun b => br_t rfl (nm_e (nm_r (nI_1 i) ?_)))
        · rw [← ag_ydF (th := th) (al := al0) (s := s) (m := i) fun c => c.2 b]
          exact ih (i + 1) (by omega) (by omega)
        · rw [← ag_ydT (th := th) (al := al0) (s := s) (m := i) ⟨e, b⟩]
          exact ih (i + 1) (by omega) (by omega)
theorem ag_yde {post : Int32 → Prop} {A : Nat} {t th : Nat → Int32} (R : ag_R A t th) (n0 : Int32) (s : Int32) (h : post (ag_dr A t s)) : wpY_defended post (n0, ag_al A, th) s := by
  unfold wpY_defended
  dsimp only
  refine ag_ya R _ _ _ ?_
  rw [← ag_yd_eq R] at h
  exact ⟨65, ag_yd_loop n0 _ _ th _ h 65 0 (by omega) (by omega)⟩
theorem ag_ycf {post : Int32 → Prop} {A : Nat} {t th : Nat → Int32} (R : ag_R A t th) (s : Int32) (h1 : ag_CF A t s → post 1) (h0 : ¬ ag_CF A t s → post 0) : wpY_conflictFree post (nI A, ag_al A, th) s := by
  unfold wpY_conflictFree
  dsimp only
  exact ag_ya R _ _ _ ⟨h1, h0⟩
theorem ag_yad {post : Int32 → Prop} {A : Nat} {t th : Nat → Int32} (R : ag_R A t th) (s : Int32) (h1 : ag_AD A t s → post 1) (h0 : ¬ ag_AD A t s → post 0) : wpY_admissible post (nI A, ag_al A, th) s := by
  unfold wpY_admissible
  dsimp only
  refine ag_ycf R _ (fun c => ?_) (fun c => ?_)
  · exact br_f (by decide) (ag_yde R _ _ ⟨fun e => h1 ⟨c, e⟩, fun e => h0 fun z => e z.2⟩)
  · exact br_t rfl (h0 fun z => c z.1)
theorem ag_ymx_s {post : Int32 → Prop} {A : Nat} {t th : Nat → Int32} (R : ag_R A t th) (k : Nat) (hk : k < 2 ^ A) (n j : Nat) (hj : j < 2 ^ A) (h0 : (j ≠ k ∧ ag_QP A t (nI k) j) → post 0) (hn : ¬ (j ≠ k ∧ ag_QP A t (nI k) j) → wY_maximal_2 post (nI k) (nI A) (ag_al A) th n (nI (j + 1))) : wY_maximal_2 post (nI k) (nI A) (ag_al A) th (n + 1) (nI j) := by
  have hp := ag_pw R.2.1
  have hp0 := ag_pw0 A
  refine pk_lt (2 ^ A - 1) j (fun h => absurd h (by omega)) (fun _ => ?_)
  refine pk_eq j k (fun e => ?_) (fun e => br_c (fun c => ?_) (fun c => ?_))
  · exact nm_r (nI_1 j) (hn fun q => q.1 e)
  · refine ag_yad R (nI j) (fun ad => ?_) (fun nad => ?_)
    · exact br_f (by decide) (h0 ⟨e, c, ad⟩)
    · exact br_t rfl (nm_r (nI_1 j) (hn fun q => nad q.2.2))
  · exact nm_r (nI_1 j) (hn fun q => c q.2.1)
theorem ag_ymx {post : Int32 → Prop} {A : Nat} {t th : Nat → Int32} (R : ag_R A t th) (k : Nat) (hk : k < 2 ^ A) (h1 : (∀ i, i < 2 ^ A → i ≠ k → ¬ ag_QP A t (nI k) i) → post 1) (h0 : ¬ (∀ i, i < 2 ^ A → i ≠ k → ¬ ag_QP A t (nI k) i) → post 0) : wpY_maximal post (nI A, ag_al A, th) (nI k) := by
  have hp := ag_pw R.2.1
  have hp0 := ag_pw0 A
  refine ⟨2 ^ A + 1, ?_⟩
  refine ag_srch (2 ^ A) (fun j => j ≠ k ∧ ag_QP A t (nI k) j) post (fun n x => wY_maximal_2 post (nI k) (nI A) (ag_al A) th n x) (fun n j hj a b => ag_ymx_s R k hk n j hj a b) (fun n h => ?_) (2 ^ A + 1) 0 (by omega) (by omega) (fun h => h1 fun i hi e q => h i (by omega) hi ⟨e, q⟩) (fun ⟨i, a, b, q⟩ => h0 fun z => z i b q.1 q.2)
  exact pk_lt (2 ^ A - 1) (2 ^ A) (fun _ => h) (fun z => absurd z (by omega))
theorem ag_ywd_s {post : Int32 → Prop} {A : Nat} {t th : Nat → Int32} (R : ag_R A t th) (r : Int32) (n j : Nat) (hj : j < 2 ^ A) (h0 : ag_QS A t r j → post 0) (hn : ¬ ag_QS A t r j → wY_widest_10 post r (nI A) (ag_al A) th n (nI (j + 1))) : wY_widest_10 post r (nI A) (ag_al A) th (n + 1) (nI j) := by
  have hp := ag_pw R.2.1
  have hp0 := ag_pw0 A
  refine pk_lt (2 ^ A - 1) j (fun h => absurd h (by omega)) (fun _ => ?_)
  refine ag_ya R _ _ _ (nm_e (br_c (fun e => ?_) (fun e => br_c (fun c => ?_) (fun c => ?_))))
  · exact nm_r (nI_1 j) (hn fun q => q.1 e)
  · refine ag_yad R (nI j) (fun ad => ?_) (fun nad => ?_)
    · exact br_f (by decide) (h0 ⟨e, c, ad⟩)
    · exact br_t rfl (nm_r (nI_1 j) (hn fun q => nad q.2.2))
  · exact nm_r (nI_1 j) (hn fun q => c q.2.1)
theorem ag_ywd {post : Int32 → Prop} {A : Nat} {t th : Nat → Int32} (R : ag_R A t th) (k : Nat) (h1 : (∀ i, i < 2 ^ A → ¬ ag_QS A t (nI k ||| ag_ar A t (nI k)) i) → post 1) (h0 : ¬ (∀ i, i < 2 ^ A → ¬ ag_QS A t (nI k ||| ag_ar A t (nI k)) i) → post 0) : wpY_widest post (nI A, ag_al A, th) (nI k) := by
  have hp := ag_pw R.2.1
  have hp0 := ag_pw0 A
  unfold wpY_widest
  dsimp only
  refine ag_ya R _ _ _ (nm_e ⟨2 ^ A + 1, ?_⟩)
  refine ag_srch (2 ^ A) (ag_QS A t (nI k ||| ag_ar A t (nI k))) post (fun n x => wY_widest_10 post (nI k ||| ag_ar A t (nI k)) (nI A) (ag_al A) th n x) (fun n j hj a b => ag_ywd_s R _ n j hj a b) (fun n h => ?_) (2 ^ A + 1) 0 (by omega) (by omega) (fun h => h1 fun i hi => h i (by omega) hi) (fun ⟨i, a, b, q⟩ => h0 fun z => z i b q)
  exact pk_lt (2 ^ A - 1) (2 ^ A) (fun _ => h) (fun z => absurd z (by omega))
