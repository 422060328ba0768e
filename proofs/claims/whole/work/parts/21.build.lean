section PRU
/-! the methods that put terms together -/
theorem dd_a0 (st : Nat → Nat) (m e : Nat) : dd_a st m e 0 = m := if_neg (by decide)
theorem dd_b0 (st : Nat → Nat) (m e : Nat) : dd_b st m e 0 = m := (if_neg (by decide)).trans (dd_a0 st m e)
theorem dd_a1 (st : Nat → Nat) (m e : Nat) : dd_a st m e 1 = st (e - 1) := if_pos (by decide)
theorem dd_b1 (st : Nat → Nat) (m e : Nat) : dd_b st m e 1 = st (e - 1) := (if_neg (by decide)).trans (dd_a1 st m e)
theorem dd_a2 (st : Nat → Nat) (m e : Nat) : dd_a st m e 2 = st (e - 2) := if_pos (by decide)
theorem dd_b2 (st : Nat → Nat) (m e : Nat) : dd_b st m e 2 = st (e - 2 + 1) := if_pos (by decide)
section
variable {z_made z_depth z_size z_rows z_at z_sendings : Int32} {y_sorts y_froms y_tos y_labels y_firsts y_seconds y_around y_stack y_senders y_receivers y_told y_values y_isSent y_isReceived y_last y_met : Nat → Int32} {g : pg_T} {gx : Nat → Nat} {gp : Nat → Option Nat}
theorem yr_P_put {m a b : Nat} {x1 x2 x3 x4 x5 x6 x7 x8 x9 : Int32} (ok : pg_ok g) (P : yr_P g gx gp z_size y_sorts y_froms y_tos y_labels y_firsts y_seconds y_around) : yr_P g gx gp z_size (upd y_sorts (20 + m) x1) (upd y_froms (20 + m) x2) (upd y_tos (20 + m) x3) (upd y_labels (20 + m) x4) (upd y_firsts (20 + m) x5) (upd y_seconds (20 + m) x6) (upd (upd (upd y_around (20 + a) x7) (20 + b) x8) (20 + m) x9) :=
  yr_P_eq ok P (fun i hi => pk_un (by omega)) (fun i hi => pk_un (by omega)) (fun i hi => pk_un (by omega)) (fun i hi => pk_un (by omega)) (fun i hi => pk_un (by omega)) (fun i hi => pk_un (by omega)) (fun i hi => (pk_un (by omega)).trans ((pk_un (by omega)).trans (pk_un (by omega))))
theorem yr_P_put0 {m : Nat} {x1 x2 x3 x4 x9 : Int32} (ok : pg_ok g) (P : yr_P g gx gp z_size y_sorts y_froms y_tos y_labels y_firsts y_seconds y_around) : yr_P g gx gp z_size (upd y_sorts (20 + m) x1) (upd y_froms (20 + m) x2) (upd y_tos (20 + m) x3) (upd y_labels (20 + m) x4) y_firsts y_seconds (upd y_around (20 + m) x9) :=
  yr_P_eq ok P (fun i hi => pk_un (by omega)) (fun i hi => pk_un (by omega)) (fun i hi => pk_un (by omega)) (fun i hi => pk_un (by omega)) (fun i hi => rfl) (fun i hi => rfl) (fun i hi => pk_un (by omega))
end
theorem i_vc_end {k : Nat} {u : SX} {v : SY} (I : i_Rel k u v) (hk : k + 4 ≤ 2048) : wpX_end (fun r u' => wpY_end (fun r' v' => r' = r ∧ i_Rel (k + 4) u' v') v) u := by
  obtain ⟨f_draftCount, f_stackCount, f_termCount, f_root, f_sentCount, f_walkedFrom, a_draftKind, a_draftFrom, a_draftTo, a_draftNumber, a_draftFirst, a_draftSecond, a_draftParent, a_stack, a_kind, a_from, a_to, a_number, a_first, a_second, a_place, a_picked, a_lastGot, a_oldest, a_waiting, a_slotLabel, a_slotValue⟩ := u
  obtain ⟨z_made, z_depth, z_size, z_rows, z_at, z_sendings, y_sorts, y_froms, y_tos, y_labels, y_firsts, y_seconds, y_around, y_stack, y_senders, y_receivers, y_told, y_values, y_isSent, y_isReceived, y_last, y_met⟩ := v
  have I0 := I
  obtain ⟨d, m, e, st, g, gx, gp, R, a, w, pl, pk, la, ⟨o1, o2, o3, o4, o5, o6⟩, xD, xP, xR, yD, yP, yR, es⟩ := I
  have om := o1.1
  have oe := o1.2.1
  unfold wpX_end
  refine xs_pushTerm (k := 0) (f := 0) (t := 0) (n := 0) (q := 0) o1 xD (by omega) (fun h20 => ?_) (fun _ z => by omega) (fun hm hq => ?_)
  · exact br_t (by rw [yD.1, show m = 20 from by omega]; rfl) ⟨rfl, I0⟩
  · refine br_f (by rw [yD.1]; exact fun z => by have := (nI_eq (b := 20) (by omega) (by decide)).mp z; omega) (ys_make yD.1 hm yD.2.1 (by omega) ⟨rfl, ?_⟩)
    refine ⟨dd_put d m 0 0 0 0 (dd_a st m e 0) (dd_b st m e 0), m + 1, e - 0 + 1, pr_fu st (e - 0) m, g, gx, gp, R, a, w, pl, pk, la, ⟨dd_push o1 hm hq ⟨by decide, fun _ => Or.inl rfl, by decide, by decide, by decide, by decide, by decide⟩, o2, o3, o4, o5, o6⟩, xr_D_put xD hq (by decide) _ _, xP, xR, ?_, yr_P_put0 o2 yP, yR, es⟩
    rw [dd_a0, dd_b0]
    exact yr_D_put0 yD (Or.inl rfl) (fun _ => rfl) (fun z => absurd z (by decide))
theorem i_vc_again {k : Nat} {u : SX} {v : SY} (I : i_Rel k u v) (hk : k + 4 ≤ 2048) (v1 : Int32) : wpX_again (fun r u' => wpY_again (fun r' v' => r' = r ∧ i_Rel (k + 4) u' v') v v1) u v1 := by
  obtain ⟨f_draftCount, f_stackCount, f_termCount, f_root, f_sentCount, f_walkedFrom, a_draftKind, a_draftFrom, a_draftTo, a_draftNumber, a_draftFirst, a_draftSecond, a_draftParent, a_stack, a_kind, a_from, a_to, a_number, a_first, a_second, a_place, a_picked, a_lastGot, a_oldest, a_waiting, a_slotLabel, a_slotValue⟩ := u
  obtain ⟨z_made, z_depth, z_size, z_rows, z_at, z_sendings, y_sorts, y_froms, y_tos, y_labels, y_firsts, y_seconds, y_around, y_stack, y_senders, y_receivers, y_told, y_values, y_isSent, y_isReceived, y_last, y_met⟩ := v
  have I0 := I
  obtain ⟨d, m, e, st, g, gx, gp, R, a, w, pl, pk, la, ⟨o1, o2, o3, o4, o5, o6⟩, xD, xP, xR, yD, yP, yR, es⟩ := I
  have om := o1.1
  have oe := o1.2.1
  unfold wpX_again
  by_cases c : v1 = 0 ∨ v1 = 1
  · obtain ⟨t, ht, et⟩ : ∃ t, t < 2 ∧ v1 = nI t := by
      rcases c with c | c
      · exact ⟨0, by decide, c⟩
      · exact ⟨1, by decide, c⟩
    subst et
    have key : wpX_pushTerm (fun r_3 u => match u with | (f_draftCount', f_stackCount', f_termCount', f_root', f_sentCount', f_walkedFrom', a_draftKind', a_draftFrom', a_draftTo', a_draftNumber', a_draftFirst', a_draftSecond', a_draftParent', a_stack', a_kind', a_from', a_to', a_number', a_first', a_second', a_place', a_picked', a_lastGot', a_oldest', a_waiting', a_slotLabel', a_slotValue') => (wpY_again (fun r' v' => r' = r_3 ∧ i_Rel (k + 4) (f_draftCount', f_stackCount', f_termCount', f_root', f_sentCount', f_walkedFrom', a_draftKind', a_draftFrom', a_draftTo', a_draftNumber', a_draftFirst', a_draftSecond', a_draftParent', a_stack', a_kind', a_from', a_to', a_number', a_first', a_second', a_place', a_picked', a_lastGot', a_oldest', a_waiting', a_slotLabel', a_slotValue') v') (z_made, z_depth, z_size, z_rows, z_at, z_sendings, y_sorts, y_froms, y_tos, y_labels, y_firsts, y_seconds, y_around, y_stack, y_senders, y_receivers, y_told, y_values, y_isSent, y_isReceived, y_last, y_met) (nI t))) (f_draftCount, f_stackCount, f_termCount, f_root, f_sentCount, f_walkedFrom, a_draftKind, a_draftFrom, a_draftTo, a_draftNumber, a_draftFirst, a_draftSecond, a_draftParent, a_stack, a_kind, a_from, a_to, a_number, a_first, a_second, a_place, a_picked, a_lastGot, a_oldest, a_waiting, a_slotLabel, a_slotValue) (nI 4) (nI 0) (nI 0) (nI t) (nI 0) := by
      refine xs_pushTerm o1 xD (by omega) (fun h20 => ?_) (fun _ z => by omega) (fun hm hq => ?_)
      · exact br_f (nI_pos (by omega)) (br_t (nI_le (b := 1) (by omega) (by decide)) (br_t (by rw [yD.1, show m = 20 from by omega]; rfl) ⟨rfl, I0⟩))
      · refine br_f (nI_pos (by omega)) (br_t (nI_le (b := 1) (by omega) (by decide)) (br_f (by rw [yD.1]; exact fun z => by have := (nI_eq (b := 20) (by omega) (by decide)).mp z; omega) (ys_make yD.1 hm yD.2.1 (by omega) ⟨rfl, ?_⟩)))
        refine ⟨dd_put d m 4 0 0 t (dd_a st m e 0) (dd_b st m e 0), m + 1, e - 0 + 1, pr_fu st (e - 0) m, g, gx, gp, R, a, w, pl, pk, la, ⟨dd_push o1 hm hq ⟨by decide, fun _ => Or.inr rfl, by decide, by decide, by decide, by decide, by decide⟩, o2, o3, o4, o5, o6⟩, xr_D_put xD hq (by omega) _ _, xP, xR, ?_, yr_P_put0 o2 yP, yR, es⟩
        rw [dd_a0, dd_b0]
        exact yr_D_put0 yD (Or.inr rfl) (fun z => absurd z (by decide)) (fun _ => rfl)
    rcases c with c | c
    · exact br_t c (br_f (by decide) key)
    · exact br_f (by rw [c]; decide) (br_t c (br_f (by decide) key))
  · have c0 : ¬ v1 = 0 := fun z => c (Or.inl z)
    have c1 : ¬ v1 = 1 := fun z => c (Or.inr z)
    refine br_f c0 (br_f c1 (br_t rfl ?_))
    by_cases n0 : v1 < 0
    · exact br_t n0 ⟨rfl, I0⟩
    · refine br_f n0 (br_f ?_ ⟨rfl, I0⟩)
      obtain ⟨j, hj, rfl⟩ := nI_of n0
      intro z
      have := (nI_leI (b := 1) hj (by decide)).mp z
      have : j = 0 ∨ j = 1 := by omega
      rcases this with y | y
      · exact c0 (by rw [y]; rfl)
      · exact c1 (by rw [y]; rfl)
end PRU
