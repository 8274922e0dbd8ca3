/-- both sides hold A arguments and the same attacks -/
def i_Rel (k : Nat) (u : SX) (v : SY) : Prop := ∃ (A : Nat) (t th : Nat → Int32), u = (nI A, ag_al A, t) ∧ v = (nI A, ag_al A, th) ∧ ag_R A t th
theorem i_up {k : Nat} {u : SX} {v : SY} (h : i_Rel k u v) : i_Rel (k + 3) u v := h
theorem ag_mk {k A : Nat} {t th : Nat → Int32} (R : ag_R A t th) : i_Rel k (nI A, ag_al A, t) (nI A, ag_al A, th) := ⟨A, t, th, rfl, rfl, R⟩
theorem ag_al2 : ∀ A, A < 9 → ((1 : Int32) <<< (nI A &&& 31)) - 1 = nI (2 ^ A - 1) := by decide +kernel
theorem ag_new {A : Nat} (h2 : 2 ≤ A) (h8 : A ≤ 8) : i_Rel 1 (nI A, ((1 : Int32) <<< (nI A &&& 31)) - 1, fun _ => 0) (nI A, ((1 : Int32) <<< (nI A &&& 31)) - 1, fun _ => 0) := by
  rw [ag_al2 A (by omega)]
  exact ag_mk (ag_R_0 h2 h8 (fun _ _ => rfl) (fun _ _ => rfl))
theorem i_vc0 (k0 : Int32) : wpX_init (fun u => wpY_init (fun v => i_Rel 1 u v) k0) k0 := by
  by_cases h2 : 2 ≤ k0
  · by_cases h8 : k0 ≤ 8
    · refine br_t h2 (br_t h8 (nm_e (br_t h2 (br_t h8 (nm_e ?_)))))
      have hn : ¬ k0 < 0 := fun z => absurd (Int32.lt_of_le_of_lt h2 z) (by decide)
      obtain ⟨j, hj, rfl⟩ := nI_of hn
      have a2 : 2 ≤ j := (nI_leI (a := 2) (by decide) hj).mp h2
      have a8 : j ≤ 8 := (nI_leI (b := 8) hj (by decide)).mp h8
      exact ag_new a2 a8
    · exact br_t h2 (br_f h8 (nm_e (br_t h2 (br_f h8 (nm_e (ag_new (A := 8) (by decide) (by decide)))))))
  · exact br_f h2 (br_t (by decide) (nm_e (br_f h2 (nm_e (ag_new (A := 2) (by decide) (by decide))))))
theorem i_vc_attack {k : Nat} {u : SX} {v : SY} (I : i_Rel k u v) (hk : k + 3 ≤ 1537) (v1 : Int32) (v2 : Int32) : wpX_attack (fun r u' => wpY_attack (fun r' v' => r' = r ∧ i_Rel (k + 3) u' v') v v1 v2) u v1 v2 := by
  obtain ⟨A, t, th, rfl, rfl, R⟩ := I
  have hA := R.2.1
  unfold wpX_attack wpY_attack
  dsimp only
  rcases ag_arg v1 hA with h | ⟨a, ha, rfl⟩
  · exact ag_xno h (br_t rfl (ag_yno h (br_t rfl ⟨rfl, ag_mk R⟩)))
  · rcases ag_arg v2 hA with h | ⟨b, hb, rfl⟩
    · exact ag_xok hA ha (br_f (by decide) (ag_xno h (br_t rfl (ag_yok hA ha (br_f (by decide) (ag_yno h (br_t rfl ⟨rfl, ag_mk R⟩)))))))
    · have i8 : vp_in (nI a) 8 := pk_in a 8 (by omega)
      have i64 : vp_in (nI (8 * a + b)) 64 := pk_in (8 * a + b) 64 (by omega)
      have r := R.2.2.1 a b (by omega) (by omega)
      rw [ag_ix, nI_clamp (show a < 2 ^ 31 by omega), nI_clamp (show 8 * a + b < 2 ^ 31 by omega)]
      refine ag_xok hA ha (br_f (by decide) (ag_xok hA hb (br_f (by decide) ⟨i8, ag_has _ (by omega) (fun z => ?_) (fun z => ?_)⟩)))
      · exact br_f (by decide) (ag_yok hA ha (br_f (by decide) (ag_yok hA hb (br_f (by decide) ⟨i64, br_f (r.mp z) ⟨rfl, ag_mk R⟩⟩))))
      · have z0 : th (8 * a + b) = 0 := Classical.byContradiction fun y => z (r.mpr y)
        exact br_t rfl ⟨i8, i8, nm_e (ag_yok hA ha (br_f (by decide) (ag_yok hA hb (br_f (by decide) ⟨i64, br_t z0 ⟨i64, nm_e ⟨rfl, ag_mk (ag_R_on R ha hb)⟩⟩⟩))))⟩
theorem i_vc_withdraw {k : Nat} {u : SX} {v : SY} (I : i_Rel k u v) (hk : k + 3 ≤ 1537) (v1 : Int32) (v2 : Int32) : wpX_withdraw (fun r u' => wpY_withdraw (fun r' v' => r' = r ∧ i_Rel (k + 3) u' v') v v1 v2) u v1 v2 := by
  obtain ⟨A, t, th, rfl, rfl, R⟩ := I
  have hA := R.2.1
  unfold wpX_withdraw wpY_withdraw
  dsimp only
  rcases ag_arg v1 hA with h | ⟨a, ha, rfl⟩
  · exact ag_xno h (br_t rfl (ag_yno h (br_t rfl ⟨rfl, ag_mk R⟩)))
  · rcases ag_arg v2 hA with h | ⟨b, hb, rfl⟩
    · exact ag_xok hA ha (br_f (by decide) (ag_xno h (br_t rfl (ag_yok hA ha (br_f (by decide) (ag_yno h (br_t rfl ⟨rfl, ag_mk R⟩)))))))
    · have i8 : vp_in (nI a) 8 := pk_in a 8 (by omega)
      have i64 : vp_in (nI (8 * a + b)) 64 := pk_in (8 * a + b) 64 (by omega)
      have r := R.2.2.1 a b (by omega) (by omega)
      rw [ag_ix, nI_clamp (show a < 2 ^ 31 by omega), nI_clamp (show 8 * a + b < 2 ^ 31 by omega)]
      refine ag_xok hA ha (br_f (by decide) (ag_xok hA hb (br_f (by decide) ⟨i8, ag_has _ (by omega) (fun z => ?_) (fun z => ?_)⟩)))
      · exact br_f (by decide) ⟨i8, i8, nm_e (ag_yok hA ha (br_f (by decide) (ag_yok hA hb (br_f (by decide) ⟨i64, br_f (r.mp z) ⟨i64, nm_e ⟨rfl, ag_mk (ag_R_off R ha hb)⟩⟩⟩))))⟩
      · have z0 : th (8 * a + b) = 0 := Classical.byContradiction fun y => z (r.mpr y)
        exact br_t rfl (ag_yok hA ha (br_f (by decide) (ag_yok hA hb (br_f (by decide) ⟨i64, br_t z0 ⟨rfl, ag_mk R⟩⟩))))
theorem i_vc_attacks {k : Nat} {u : SX} {v : SY} (I : i_Rel k u v) (hk : k + 3 ≤ 1537) (v1 : Int32) (v2 : Int32) : wpX_attacks (fun r => wpY_attacks (fun r' => r' = r ∧ i_Rel (k + 3) u v) v v1 v2) u v1 v2 := by
  obtain ⟨A, t, th, rfl, rfl, R⟩ := I
  have hA := R.2.1
  unfold wpX_attacks wpY_attacks
  dsimp only
  rcases ag_arg v1 hA with h | ⟨a, ha, rfl⟩
  · exact ag_xno h (br_t rfl (ag_yno h (br_t rfl ⟨rfl, ag_mk R⟩)))
  · rcases ag_arg v2 hA with h | ⟨b, hb, rfl⟩
    · exact ag_xok hA ha (br_f (by decide) (ag_xno h (br_t rfl (ag_yok hA ha (br_f (by decide) (ag_yno h (br_t rfl ⟨rfl, ag_mk R⟩)))))))
    · have i8 : vp_in (nI a) 8 := pk_in a 8 (by omega)
      have i64 : vp_in (nI (8 * a + b)) 64 := pk_in (8 * a + b) 64 (by omega)
      have r := R.2.2.1 a b (by omega) (by omega)
      rw [ag_ix, nI_clamp (show a < 2 ^ 31 by omega), nI_clamp (show 8 * a + b < 2 ^ 31 by omega)]
      refine ag_xok hA ha (br_f (by decide) (ag_xok hA hb (br_f (by decide) ⟨i8, ag_has _ (by omega) (fun z => ?_) (fun z => ?_)⟩)))
      · exact br_f (by decide) (ag_yok hA ha (br_f (by decide) (ag_yok hA hb (br_f (by decide) ⟨i64, br_f (r.mp z) ⟨rfl, ag_mk R⟩⟩))))
      · have z0 : th (8 * a + b) = 0 := Classical.byContradiction fun y => z (r.mpr y)
        exact br_t rfl (ag_yok hA ha (br_f (by decide) (ag_yok hA hb (br_f (by decide) ⟨i64, br_t z0 ⟨rfl, ag_mk R⟩⟩))))
theorem i_vc_grounded {k : Nat} {u : SX} {v : SY} (I : i_Rel k u v) (hk : k + 3 ≤ 1537) : wpX_grounded (fun r => wpY_grounded (fun r' => r' = r ∧ i_Rel (k + 3) u v) v) u := by
  obtain ⟨A, t, th, rfl, rfl, R⟩ := I
  obtain ⟨r, hX, hY⟩ := ag_grd R
  exact hX _ (hY _ ⟨rfl, ag_mk R⟩)
theorem i_vc_count {k : Nat} {u : SX} {v : SY} (I : i_Rel k u v) (hk : k + 3 ≤ 1537) (v1 : Int32) : wpX_count (fun r => wpY_count (fun r' => r' = r ∧ i_Rel (k + 3) u v) v v1) u v1 := by
  obtain ⟨A, t, th, rfl, rfl, R⟩ := I
  unfold wpX_count wpY_count
  dsimp only
  rcases ag_kind R v1 with h | ⟨h, h3⟩ | ⟨h, h3, E, hE⟩
  · exact br_t h (br_t rfl (br_t h (br_t rfl ⟨rfl, ag_mk R⟩)))
  · exact br_f h (br_t h3 (br_t rfl (br_f h (br_t h3 (br_t rfl ⟨rfl, ag_mk R⟩)))))
  · obtain ⟨r, hX, hY⟩ := ag_count R.2.1 hE
    exact br_f h (br_f h3 (br_f (by decide) ⟨2 ^ A + 1, hX _ (br_f h (br_f h3 (br_f (by decide) ⟨2 ^ A + 1, hY _ ⟨rfl, ag_mk R⟩⟩)))⟩))
theorem i_vc_extension {k : Nat} {u : SX} {v : SY} (I : i_Rel k u v) (hk : k + 3 ≤ 1537) (v1 : Int32) (v2 : Int32) : wpX_extension (fun r => wpY_extension (fun r' => r' = r ∧ i_Rel (k + 3) u v) v v1 v2) u v1 v2 := by
  obtain ⟨A, t, th, rfl, rfl, R⟩ := I
  unfold wpX_extension wpY_extension
  dsimp only
  rcases ag_kind R v1 with h | ⟨h, h3⟩ | ⟨h, h3, E, hE⟩
  · exact br_t h (br_t rfl (br_t h (br_t rfl ⟨rfl, ag_mk R⟩)))
  · exact br_f h (br_t h3 (br_t rfl (br_f h (br_t h3 (br_t rfl ⟨rfl, ag_mk R⟩)))))
  · obtain ⟨r, hX, hY⟩ := ag_ext R.2.1 hE v2
    exact br_f h (br_f h3 (br_f (by decide) ⟨2 ^ A + 1, hX _ (br_f h (br_f h3 (br_f (by decide) ⟨2 ^ A + 1, hY _ ⟨rfl, ag_mk R⟩⟩)))⟩))
theorem i_vc_inSome {k : Nat} {u : SX} {v : SY} (I : i_Rel k u v) (hk : k + 3 ≤ 1537) (v1 : Int32) : wpX_inSome (fun r => wpY_inSome (fun r' => r' = r ∧ i_Rel (k + 3) u v) v v1) u v1 := by
  obtain ⟨A, t, th, rfl, rfl, R⟩ := I
  unfold wpX_inSome wpY_inSome
  dsimp only
  rcases ag_kind R v1 with h | ⟨h, h3⟩ | ⟨h, h3, E, hE⟩
  · exact br_t h (br_t rfl (br_t h (br_t rfl ⟨rfl, ag_mk R⟩)))
  · exact br_f h (br_t h3 (br_t rfl (br_f h (br_t h3 (br_t rfl ⟨rfl, ag_mk R⟩)))))
  · obtain ⟨r, hX, hY⟩ := ag_some R.2.1 hE
    exact br_f h (br_f h3 (br_f (by decide) ⟨2 ^ A + 1, hX _ (br_f h (br_f h3 (br_f (by decide) ⟨2 ^ A + 1, hY _ ⟨rfl, ag_mk R⟩⟩)))⟩))
theorem i_vc_inEvery {k : Nat} {u : SX} {v : SY} (I : i_Rel k u v) (hk : k + 3 ≤ 1537) (v1 : Int32) : wpX_inEvery (fun r => wpY_inEvery (fun r' => r' = r ∧ i_Rel (k + 3) u v) v v1) u v1 := by
  obtain ⟨A, t, th, rfl, rfl, R⟩ := I
  unfold wpX_inEvery wpY_inEvery
  dsimp only
  rcases ag_kind R v1 with h | ⟨h, h3⟩ | ⟨h, h3, E, hE⟩
  · exact br_t h (br_t rfl (br_t h (br_t rfl ⟨rfl, ag_mk R⟩)))
  · exact br_f h (br_t h3 (br_t rfl (br_f h (br_t h3 (br_t rfl ⟨rfl, ag_mk R⟩)))))
  · obtain ⟨r, hX, hY⟩ := ag_every R.2.1 hE
    exact br_f h (br_f h3 (br_f (by decide) ⟨2 ^ A + 1, hX _ (br_f h (br_f h3 (br_f (by decide) ⟨2 ^ A + 1, hY _ ⟨rfl, ag_mk R⟩⟩)))⟩))
theorem i_vc_clear {k : Nat} {u : SX} {v : SY} (I : i_Rel k u v) (hk : k + 3 ≤ 1537) : wpX_clear (fun r u' => wpY_clear (fun r' v' => r' = r ∧ i_Rel (k + 3) u' v') v) u := by
  obtain ⟨A, t, th, rfl, rfl, R⟩ := I
  refine ag_xc R.2.1 _ t fun r z1 z2 => ag_yc _ _ th fun s w => ⟨congrArg nI (ag_sum R), ?_⟩
  refine ag_mk (ag_R_0 R.1 R.2.1 (fun a ha => ?_) w)
  rcases Nat.lt_or_ge a A with y | y
  · exact z1 a y
  · rw [z2 a y]
    exact R.2.2.2.2 a y ha
