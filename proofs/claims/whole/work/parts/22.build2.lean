section PRV
/-! loop, message, choose -/
theorem i_vc_loop {k : Nat} {u : SX} {v : SY} (I : i_Rel k u v) (hk : k + 4 ≤ 2048) (v1 : Int32) : wpX_loop (fun r u' => wpY_loop (fun r' v' => r' = r ∧ i_Rel (k + 4) u' v') v v1) u v1 := by
  obtain ⟨f_draftCount, f_stackCount, f_termCount, f_root, f_sentCount, f_walkedFrom, a_draftKind, a_draftFrom, a_draftTo, a_draftNumber, a_draftFirst, a_draftSecond, a_draftParent, a_stack, a_kind, a_from, a_to, a_number, a_first, a_second, a_place, a_picked, a_lastGot, a_oldest, a_waiting, a_slotLabel, a_slotValue⟩ := u
  obtain ⟨z_made, z_depth, z_size, z_rows, z_at, z_sendings, y_sorts, y_froms, y_tos, y_labels, y_firsts, y_seconds, y_around, y_stack, y_senders, y_receivers, y_told, y_values, y_isSent, y_isReceived, y_last, y_met⟩ := v
  have I0 := I
  obtain ⟨d, m, e, st, g, gx, gp, R, a, w, pl, pk, la, ⟨o1, o2, o3, o4, o5, o6⟩, xD, xP, xR, yD, yP, yR, es⟩ := I
  have om := o1.1
  have oe := o1.2.1
  unfold wpX_loop
  by_cases c : v1 = 0 ∨ v1 = 1
  · obtain ⟨t, ht, et⟩ : ∃ t, t < 2 ∧ v1 = nI t := by
      rcases c with c | c
      · exact ⟨0, by decide, c⟩
      · exact ⟨1, by decide, c⟩
    subst et
    have key : wpX_pushTerm (fun r_3 u => match u with | (f_draftCount', f_stackCount', f_termCount', f_root', f_sentCount', f_walkedFrom', a_draftKind', a_draftFrom', a_draftTo', a_draftNumber', a_draftFirst', a_draftSecond', a_draftParent', a_stack', a_kind', a_from', a_to', a_number', a_first', a_second', a_place', a_picked', a_lastGot', a_oldest', a_waiting', a_slotLabel', a_slotValue') => (wpY_loop (fun r' v' => r' = r_3 ∧ i_Rel (k + 4) (f_draftCount', f_stackCount', f_termCount', f_root', f_sentCount', f_walkedFrom', a_draftKind', a_draftFrom', a_draftTo', a_draftNumber', a_draftFirst', a_draftSecond', a_draftParent', a_stack', a_kind', a_from', a_to', a_number', a_first', a_second', a_place', a_picked', a_lastGot', a_oldest', a_waiting', a_slotLabel', a_slotValue') v') (z_made, z_depth, z_size, z_rows, z_at, z_sendings, y_sorts, y_froms, y_tos, y_labels, y_firsts, y_seconds, y_around, y_stack, y_senders, y_receivers, y_told, y_values, y_isSent, y_isReceived, y_last, y_met) (nI t))) (f_draftCount, f_stackCount, f_termCount, f_root, f_sentCount, f_walkedFrom, a_draftKind, a_draftFrom, a_draftTo, a_draftNumber, a_draftFirst, a_draftSecond, a_draftParent, a_stack, a_kind, a_from, a_to, a_number, a_first, a_second, a_place, a_picked, a_lastGot, a_oldest, a_waiting, a_slotLabel, a_slotValue) (nI 3) (nI 0) (nI 0) (nI t) (nI 1) := by
      refine xs_pushTerm o1 xD (by omega) (fun h20 => ?_) (fun hm hq => ?_) (fun hm hq => ?_)
      · exact br_f (nI_pos (by omega)) (br_t (nI_le (b := 1) (by omega) (by decide)) (br_t (by rw [yD.1, show m = 20 from by omega]; rfl) ⟨rfl, I0⟩))
      · exact br_f (nI_pos (by omega)) (br_t (nI_le (b := 1) (by omega) (by decide)) (br_f (by rw [yD.1]; exact fun z => by have := (nI_eq (b := 20) (by omega) (by decide)).mp z; omega) (br_f (by rw [yD.2.1]; exact nI_ge (b := 1) hq (by decide)) ⟨rfl, I0⟩)))
      · refine br_f (nI_pos (by omega)) (br_t (nI_le (b := 1) (by omega) (by decide)) (br_f (by rw [yD.1]; exact fun z => by have := (nI_eq (b := 20) (by omega) (by decide)).mp z; omega) (br_t (by rw [yD.2.1]; exact nI_le (a := 1) hq (by omega)) ?_)))
        refine nm_r (e' := nI (e - 1)) (by rw [yD.2.1]; exact pk_sub (b := 1) hq) ⟨vp_in_nI (by omega) (by decide), vp_in_nI (by omega) (by decide), ?_⟩
        have hs := o1.2.2.2.2.1 (e - 1) (by omega)
        rw [nI_clamp (n := e - 1) (by omega), yD.2.2.2 (e - 1) (by omega)]
        refine ys_take (a := st (e - 1)) (b := st (e - 1)) yD.1 hm (by omega) (by omega) (ys_make yD.1 hm rfl (by omega) ⟨rfl, ?_⟩)
        refine ⟨dd_put d m 3 0 0 t (dd_a st m e 1) (dd_b st m e 1), m + 1, e - 1 + 1, pr_fu st (e - 1) m, g, gx, gp, R, a, w, pl, pk, la, ⟨dd_push o1 hm hq ⟨by decide, by decide, fun _ => Or.inr rfl, by decide, by decide, by decide, by decide⟩, o2, o3, o4, o5, o6⟩, xr_D_put xD hq (by omega) _ _, xP, xR, ?_, yr_P_put o2 yP, yR, es⟩
        rw [dd_a1, dd_b1]
        exact yr_D_put yD hq (fun z => absurd z (by decide)) (fun _ => rfl) (fun z => absurd z (by decide))
    rcases c with c | c
    · exact br_t c (br_f (by decide) key)
    · exact br_f (by rw [c]; decide) (br_t c (br_f (by decide) key))
  · have c0 : ¬ v1 = 0 := fun z => c (Or.inl z)
    have c1 : ¬ v1 = 1 := fun z => c (Or.inr z)
    refine br_f c0 (br_f c1 (br_t rfl ?_))
    by_cases n0 : v1 < 0
    · exact br_t n0 ⟨rfl, I0⟩
    · refine br_f n0 (br_f ?_ ⟨rfl, I0⟩)
      obtain ⟨j, hj, rfl⟩ := nI_of n0
      intro z
      have := (nI_leI (b := 1) hj (by decide)).mp z
      have : j = 0 ∨ j = 1 := by omega
      rcases this with y | y
      · exact c0 (by rw [y]; rfl)
      · exact c1 (by rw [y]; rfl)
theorem i_vc_choose {k : Nat} {u : SX} {v : SY} (I : i_Rel k u v) (hk : k + 4 ≤ 2048) (v1 : Int32) : wpX_choose (fun r u' => wpY_choose (fun r' v' => r' = r ∧ i_Rel (k + 4) u' v') v v1) u v1 := by
  obtain ⟨f_draftCount, f_stackCount, f_termCount, f_root, f_sentCount, f_walkedFrom, a_draftKind, a_draftFrom, a_draftTo, a_draftNumber, a_draftFirst, a_draftSecond, a_draftParent, a_stack, a_kind, a_from, a_to, a_number, a_first, a_second, a_place, a_picked, a_lastGot, a_oldest, a_waiting, a_slotLabel, a_slotValue⟩ := u
  obtain ⟨z_made, z_depth, z_size, z_rows, z_at, z_sendings, y_sorts, y_froms, y_tos, y_labels, y_firsts, y_seconds, y_around, y_stack, y_senders, y_receivers, y_told, y_values, y_isSent, y_isReceived, y_last, y_met⟩ := v
  have I0 := I
  obtain ⟨d, m, e, st, g, gx, gp, R, a, w, pl, pk, la, ⟨o1, o2, o3, o4, o5, o6⟩, xD, xP, xR, yD, yP, yR, es⟩ := I
  have om := o1.1
  have oe := o1.2.1
  unfold wpX_choose wpY_choose
  rcases pr_role v1 with h | ⟨r, hr, e1⟩
  · exact xs_noRole h (br_t rfl (ys_noRole h (br_f (by decide) ⟨rfl, I0⟩)))
  · subst e1
    refine xs_isRole hr (br_f (by decide) ?_)
    refine xs_pushTerm (k := 2) (f := r) (t := 0) (n := 0) (q := 2) o1 xD (by omega) (fun h20 => ?_) (fun hm hq => ?_) (fun hm hq => ?_)
    · exact ys_isRole hr (br_t rfl (br_t (by rw [yD.1, show m = 20 from by omega]; rfl) ⟨rfl, I0⟩))
    · exact ys_isRole hr (br_t rfl (br_f (by rw [yD.1]; exact fun z => by have := (nI_eq (b := 20) (by omega) (by decide)).mp z; omega) (br_f (by rw [yD.2.1]; exact nI_ge (b := 2) hq (by decide)) ⟨rfl, I0⟩)))
    · refine ys_isRole hr (br_t rfl (br_f (by rw [yD.1]; exact fun z => by have := (nI_eq (b := 20) (by omega) (by decide)).mp z; omega) (br_t (by rw [yD.2.1]; exact nI_le (a := 2) hq (by omega)) ?_)))
      refine nm_r (e' := nI (e - 2)) (by rw [yD.2.1]; exact pk_sub (b := 2) hq) ?_
      rw [nI_1]
      refine ⟨vp_in_nI (by omega) (by decide), vp_in_nI (by omega) (by decide), ?_⟩
      have hs := o1.2.2.2.2.1 (e - 2) (by omega)
      have hs1 := o1.2.2.2.2.1 (e - 2 + 1) (by omega)
      rw [nI_clamp (n := e - 2) (by omega), nI_clamp (n := e - 2 + 1) (by omega), yD.2.2.2 (e - 2) (by omega), yD.2.2.2 (e - 2 + 1) (by omega)]
      refine ys_take (a := st (e - 2)) (b := st (e - 2 + 1)) yD.1 hm (by omega) (by omega) (ys_make yD.1 hm rfl (by omega) ⟨rfl, ?_⟩)
      refine ⟨dd_put d m 2 r 0 0 (dd_a st m e 2) (dd_b st m e 2), m + 1, e - 2 + 1, pr_fu st (e - 2) m, g, gx, gp, R, a, w, pl, pk, la, ⟨dd_push o1 hm hq ⟨by decide, by decide, by decide, fun _ => rfl, by decide, fun z => absurd z (by decide), fun _ => hr⟩, o2, o3, o4, o5, o6⟩, xr_D_put xD hq (by decide) _ _, xP, xR, ?_, yr_P_put o2 yP, yR, es⟩
      rw [dd_a2, dd_b2]
      exact yr_D_put yD hq (fun _ => rfl) (fun z => absurd z (by decide)) (fun z => absurd z (by decide))
theorem i_vc_message {k : Nat} {u : SX} {v : SY} (I : i_Rel k u v) (hk : k + 4 ≤ 2048) (v1 : Int32) (v2 : Int32) (v3 : Int32) : wpX_message (fun r u' => wpY_message (fun r' v' => r' = r ∧ i_Rel (k + 4) u' v') v v1 v2 v3) u v1 v2 v3 := by
  obtain ⟨f_draftCount, f_stackCount, f_termCount, f_root, f_sentCount, f_walkedFrom, a_draftKind, a_draftFrom, a_draftTo, a_draftNumber, a_draftFirst, a_draftSecond, a_draftParent, a_stack, a_kind, a_from, a_to, a_number, a_first, a_second, a_place, a_picked, a_lastGot, a_oldest, a_waiting, a_slotLabel, a_slotValue⟩ := u
  obtain ⟨z_made, z_depth, z_size, z_rows, z_at, z_sendings, y_sorts, y_froms, y_tos, y_labels, y_firsts, y_seconds, y_around, y_stack, y_senders, y_receivers, y_told, y_values, y_isSent, y_isReceived, y_last, y_met⟩ := v
  have I0 := I
  obtain ⟨d, m, e, st, g, gx, gp, R, a, w, pl, pk, la, ⟨o1, o2, o3, o4, o5, o6⟩, xD, xP, xR, yD, yP, yR, es⟩ := I
  have om := o1.1
  have oe := o1.2.1
  unfold wpX_message wpY_message
  rcases pr_role v1 with h | ⟨r, hr, e1⟩
  · exact xs_noRole h (br_t rfl (ys_noRole h (br_f (by decide) ⟨rfl, I0⟩)))
  · subst e1
    refine xs_isRole hr (br_f (by decide) ?_)
    rcases pr_role v2 with h | ⟨q, hq, e2⟩
    · exact xs_noRole h (br_t rfl (ys_isRole hr (br_t rfl (ys_noRole h (br_f (by decide) ⟨rfl, I0⟩)))))
    · subst e2
      refine xs_isRole hq (br_f (by decide) ?_)
      by_cases c : r = q
      · subst c
        exact br_t rfl (ys_isRole hr (br_t rfl (ys_isRole hq (br_t rfl (br_t rfl ⟨rfl, I0⟩)))))
      · have c' : ¬ nI r = nI q := fun z => c ((nI_eq (by omega) (by omega)).mp z)
        refine br_f c' ?_
        by_cases n0 : v3 < 0
        · exact br_t n0 (ys_isRole hr (br_t rfl (ys_isRole hq (br_t rfl (br_f c' (br_t n0 ⟨rfl, I0⟩))))))
        · refine br_f n0 ?_
          obtain ⟨l, hl, el⟩ := nI_of n0
          subst el
          by_cases l4 : l < 4
          · refine br_t (nI_lt (b := 4) l4 (by decide)) ?_
            have l3 : nI l ≤ 3 := nI_le (b := 3) (by omega) (by decide)
            refine xs_pushTerm (k := 1) (f := r) (t := q) (n := l) (q := 1) o1 xD (by omega) (fun h20 => ?_) (fun hm hq1 => ?_) (fun hm hq1 => ?_)
            · exact ys_isRole hr (br_t rfl (ys_isRole hq (br_t rfl (br_f c' (br_f n0 (br_t l3 (br_t (by rw [yD.1, show m = 20 from by omega]; rfl) ⟨rfl, I0⟩)))))))
            · exact ys_isRole hr (br_t rfl (ys_isRole hq (br_t rfl (br_f c' (br_f n0 (br_t l3 (br_f (by rw [yD.1]; exact fun z => by have := (nI_eq (b := 20) (by omega) (by decide)).mp z; omega) (br_f (by rw [yD.2.1]; exact nI_ge (b := 1) hq1 (by decide)) ⟨rfl, I0⟩))))))))
            · refine ys_isRole hr (br_t rfl (ys_isRole hq (br_t rfl (br_f c' (br_f n0 (br_t l3 (br_f (by rw [yD.1]; exact fun z => by have := (nI_eq (b := 20) (by omega) (by decide)).mp z; omega) (br_t (by rw [yD.2.1]; exact nI_le (a := 1) hq1 (by omega)) ?_))))))))
              refine nm_r (e' := nI (e - 1)) (by rw [yD.2.1]; exact pk_sub (b := 1) hq1) ⟨vp_in_nI (by omega) (by decide), vp_in_nI (by omega) (by decide), ?_⟩
              have hs := o1.2.2.2.2.1 (e - 1) (by omega)
              rw [nI_clamp (n := e - 1) (by omega), yD.2.2.2 (e - 1) (by omega)]
              refine ys_take (a := st (e - 1)) (b := st (e - 1)) yD.1 hm (by omega) (by omega) (ys_make yD.1 hm rfl (by omega) ⟨rfl, ?_⟩)
              refine ⟨dd_put d m 1 r q l (dd_a st m e 1) (dd_b st m e 1), m + 1, e - 1 + 1, pr_fu st (e - 1) m, g, gx, gp, R, a, w, pl, pk, la, ⟨dd_push o1 hm hq1 ⟨by decide, by decide, fun _ => Or.inl rfl, by decide, by decide, fun _ => ⟨hr, hq, c⟩, fun z => absurd z (by decide)⟩, o2, o3, o4, o5, o6⟩, xr_D_put xD hq1 l4 _ _, xP, xR, ?_, yr_P_put o2 yP, yR, es⟩
              rw [dd_a1, dd_b1]
              exact yr_D_put yD hq1 (fun _ => rfl) (fun z => absurd z (by decide)) (fun _ => rfl)
          · exact br_f (nI_nlt (b := 4) (by omega) hl) (ys_isRole hr (br_t rfl (ys_isRole hq (br_t rfl (br_f c' (br_f n0 (br_f (nI_ge (a := 3) (by omega) hl) ⟨rfl, I0⟩)))))))
end PRV
