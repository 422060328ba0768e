section PRT
/-! the methods: reading, building -/
theorem i_vc_sent {k : Nat} {u : SX} {v : SY} (I : i_Rel k u v) (hk : k + 4 ≤ 2048) : wpX_sent (fun r => wpY_sent (fun r' => r' = r ∧ i_Rel (k + 4) u v) v) u := by
  obtain ⟨f_draftCount, f_stackCount, f_termCount, f_root, f_sentCount, f_walkedFrom, a_draftKind, a_draftFrom, a_draftTo, a_draftNumber, a_draftFirst, a_draftSecond, a_draftParent, a_stack, a_kind, a_from, a_to, a_number, a_first, a_second, a_place, a_picked, a_lastGot, a_oldest, a_waiting, a_slotLabel, a_slotValue⟩ := u
  obtain ⟨z_made, z_depth, z_size, z_rows, z_at, z_sendings, y_sorts, y_froms, y_tos, y_labels, y_firsts, y_seconds, y_around, y_stack, y_senders, y_receivers, y_told, y_values, y_isSent, y_isReceived, y_last, y_met⟩ := v
  have I0 := I
  obtain ⟨d, m, e, st, g, gx, gp, R, a, w, pl, pk, la, ⟨o1, o2, o3, o4, o5, o6⟩, xD, xP, xR, yD, yP, yR, es⟩ := I
  exact ⟨es.symm, I0⟩
theorem i_vc_got {k : Nat} {u : SX} {v : SY} (I : i_Rel k u v) (hk : k + 4 ≤ 2048) (v1 : Int32) : wpX_got (fun r => wpY_got (fun r' => r' = r ∧ i_Rel (k + 4) u v) v v1) u v1 := by
  obtain ⟨f_draftCount, f_stackCount, f_termCount, f_root, f_sentCount, f_walkedFrom, a_draftKind, a_draftFrom, a_draftTo, a_draftNumber, a_draftFirst, a_draftSecond, a_draftParent, a_stack, a_kind, a_from, a_to, a_number, a_first, a_second, a_place, a_picked, a_lastGot, a_oldest, a_waiting, a_slotLabel, a_slotValue⟩ := u
  obtain ⟨z_made, z_depth, z_size, z_rows, z_at, z_sendings, y_sorts, y_froms, y_tos, y_labels, y_firsts, y_seconds, y_around, y_stack, y_senders, y_receivers, y_told, y_values, y_isSent, y_isReceived, y_last, y_met⟩ := v
  have I0 := I
  obtain ⟨d, m, e, st, g, gx, gp, R, a, w, pl, pk, la, ⟨o1, o2, o3, o4, o5, o6⟩, xD, xP, xR, yD, yP, yR, es⟩ := I
  unfold wpX_got wpY_got
  rcases pr_role v1 with h | ⟨r, hr, e1⟩
  · exact xs_noRole h (br_t rfl (ys_noRole h (br_f (by decide) ⟨rfl, I0⟩)))
  · subst e1
    refine xs_isRole hr (br_f (by decide) ⟨vp_in_nI hr (by decide), ?_⟩)
    refine ys_isRole hr (br_t rfl ⟨vp_in_nI hr (by decide), ?_, I0⟩)
    rw [nI_clamp (n := r) (by omega), yR.2.2.2 r hr, (xR.2.1 r hr).2.2]
theorem i_vc_onWay {k : Nat} {u : SX} {v : SY} (I : i_Rel k u v) (hk : k + 4 ≤ 2048) (v1 : Int32) (v2 : Int32) : wpX_onWay (fun r => wpY_onWay (fun r' => r' = r ∧ i_Rel (k + 4) u v) v v1 v2) u v1 v2 := by
  obtain ⟨f_draftCount, f_stackCount, f_termCount, f_root, f_sentCount, f_walkedFrom, a_draftKind, a_draftFrom, a_draftTo, a_draftNumber, a_draftFirst, a_draftSecond, a_draftParent, a_stack, a_kind, a_from, a_to, a_number, a_first, a_second, a_place, a_picked, a_lastGot, a_oldest, a_waiting, a_slotLabel, a_slotValue⟩ := u
  obtain ⟨z_made, z_depth, z_size, z_rows, z_at, z_sendings, y_sorts, y_froms, y_tos, y_labels, y_firsts, y_seconds, y_around, y_stack, y_senders, y_receivers, y_told, y_values, y_isSent, y_isReceived, y_last, y_met⟩ := v
  have I0 := I
  obtain ⟨d, m, e, st, g, gx, gp, R, a, w, pl, pk, la, ⟨o1, o2, o3, o4, o5, o6⟩, xD, xP, xR, yD, yP, yR, es⟩ := I
  have hA := o4.2.2.2.2.2.1
  have hl := ro_585 hA o5 o4.2.2.2.2.2.2.2 o6
  unfold wpX_onWay wpY_onWay
  rcases pr_role v1 with h | ⟨r, hr, e1⟩
  · exact xs_noRole h (br_t rfl (ys_noRole h (br_f (by decide) ⟨rfl, I0⟩)))
  · subst e1
    refine xs_isRole hr (br_f (by decide) ?_)
    rcases pr_role v2 with h | ⟨q, hq, e2⟩
    · exact xs_noRole h (br_t rfl (ys_isRole hr (br_t rfl (ys_noRole h (br_f (by decide) ⟨rfl, I0⟩)))))
    · subst e2
      refine xs_isRole hq (br_f (by decide) ?_)
      rw [pr_ix3]
      refine ⟨vp_in_nI (by omega) (by decide), ?_⟩
      refine ys_isRole hr (br_t rfl (ys_isRole hq (br_t rfl (ys_counted hr hq hA (by omega) yR.1 yR.2.2.1 ⟨?_, I0⟩))))
      obtain ⟨o, -, -, hw, -⟩ := xR.2.2 r q hr hq
      rw [nI_clamp (n := r * 3 + q) (by omega), hw]
theorem rl_met {k k' : Nat} {f_draftCount f_stackCount f_termCount f_root f_sentCount f_walkedFrom : Int32} {a_draftKind a_draftFrom a_draftTo a_draftNumber a_draftFirst a_draftSecond a_draftParent a_stack a_kind a_from a_to a_number a_first a_second a_place a_picked a_lastGot a_oldest a_waiting a_slotLabel a_slotValue : Nat → Int32} {z_made z_depth z_size z_rows z_at z_sendings : Int32} {y_sorts y_froms y_tos y_labels y_firsts y_seconds y_around y_stack y_senders y_receivers y_told y_values y_isSent y_isReceived y_last y_met : Nat → Int32} (h : i_Rel k (f_draftCount, f_stackCount, f_termCount, f_root, f_sentCount, f_walkedFrom, a_draftKind, a_draftFrom, a_draftTo, a_draftNumber, a_draftFirst, a_draftSecond, a_draftParent, a_stack, a_kind, a_from, a_to, a_number, a_first, a_second, a_place, a_picked, a_lastGot, a_oldest, a_waiting, a_slotLabel, a_slotValue) (z_made, z_depth, z_size, z_rows, z_at, z_sendings, y_sorts, y_froms, y_tos, y_labels, y_firsts, y_seconds, y_around, y_stack, y_senders, y_receivers, y_told, y_values, y_isSent, y_isReceived, y_last, y_met)) (M : Nat → Int32) : i_Rel k' (f_draftCount, f_stackCount, f_termCount, f_root, f_sentCount, f_walkedFrom, a_draftKind, a_draftFrom, a_draftTo, a_draftNumber, a_draftFirst, a_draftSecond, a_draftParent, a_stack, a_kind, a_from, a_to, a_number, a_first, a_second, a_place, a_picked, a_lastGot, a_oldest, a_waiting, a_slotLabel, a_slotValue) (z_made, z_depth, z_size, z_rows, z_at, z_sendings, y_sorts, y_froms, y_tos, y_labels, y_firsts, y_seconds, y_around, y_stack, y_senders, y_receivers, y_told, y_values, y_isSent, y_isReceived, y_last, M) := by
  obtain ⟨d, m, e, st, g, gx, gp, R, a, w, pl, pk, la, G, xD, xP, xR, yD, yP, yR, es⟩ := h
  exact ⟨d, m, e, st, g, gx, gp, R, a, w, pl, pk, la, G, xD, xP, xR, yD, yP, yR, es⟩
theorem i_vc_canFinish {k : Nat} {u : SX} {v : SY} (I : i_Rel k u v) (hk : k + 4 ≤ 2048) : wpX_canFinish (fun r => wpY_canFinish (fun r' v' => r' = r ∧ i_Rel (k + 4) u v') v) u := by
  obtain ⟨f_draftCount, f_stackCount, f_termCount, f_root, f_sentCount, f_walkedFrom, a_draftKind, a_draftFrom, a_draftTo, a_draftNumber, a_draftFirst, a_draftSecond, a_draftParent, a_stack, a_kind, a_from, a_to, a_number, a_first, a_second, a_place, a_picked, a_lastGot, a_oldest, a_waiting, a_slotLabel, a_slotValue⟩ := u
  obtain ⟨z_made, z_depth, z_size, z_rows, z_at, z_sendings, y_sorts, y_froms, y_tos, y_labels, y_firsts, y_seconds, y_around, y_stack, y_senders, y_receivers, y_told, y_values, y_isSent, y_isReceived, y_last, y_met⟩ := v
  have I0 := I
  obtain ⟨d, m, e, st, g, gx, gp, R, a, w, pl, pk, la, ⟨o1, o2, o3, o4, o5, o6⟩, xD, xP, xR, yD, yP, yR, es⟩ := I
  have hfin := pg_fin_dr o2 o4.2.2.1 o4.2.2.2.1
  refine xs_canFinish o2 xP o4.2.2.1 xR.1 (fun hw => ?_) (fun hw => ?_)
  · exact ys_canFinish o2 o3 yP o4.1 o4.2.1 yR.2.1 (fun M _ => ⟨rfl, rl_met I0 M⟩) (fun M z => absurd (hfin.mp hw) z)
  · exact ys_canFinish o2 o3 yP o4.1 o4.2.1 yR.2.1 (fun M z => absurd (hfin.mpr z) hw) (fun M _ => ⟨rfl, rl_met I0 M⟩)
theorem i_vc_discard {k : Nat} {u : SX} {v : SY} (I : i_Rel k u v) (hk : k + 4 ≤ 2048) : wpX_discard (fun r u' => wpY_discard (fun r' v' => r' = r ∧ i_Rel (k + 4) u' v') v) u := by
  obtain ⟨f_draftCount, f_stackCount, f_termCount, f_root, f_sentCount, f_walkedFrom, a_draftKind, a_draftFrom, a_draftTo, a_draftNumber, a_draftFirst, a_draftSecond, a_draftParent, a_stack, a_kind, a_from, a_to, a_number, a_first, a_second, a_place, a_picked, a_lastGot, a_oldest, a_waiting, a_slotLabel, a_slotValue⟩ := u
  obtain ⟨z_made, z_depth, z_size, z_rows, z_at, z_sendings, y_sorts, y_froms, y_tos, y_labels, y_firsts, y_seconds, y_around, y_stack, y_senders, y_receivers, y_told, y_values, y_isSent, y_isReceived, y_last, y_met⟩ := v
  obtain ⟨d, m, e, st, g, gx, gp, R, a, w, pl, pk, la, ⟨o1, o2, o3, o4, o5, o6⟩, xD, xP, xR, yD, yP, yR, es⟩ := I
  exact ⟨yD.2.1.trans xD.2.1.symm, d, 0, 0, st, g, gx, gp, R, a, w, pl, pk, la, ⟨dd_ok0 d st, o2, o3, o4, o5, o6⟩, xr_D0, xP, xR, yr_D0, yP, yR, es⟩
theorem i_vc_restart {k : Nat} {u : SX} {v : SY} (I : i_Rel k u v) (hk : k + 4 ≤ 2048) : wpX_restart (fun u' => wpY_restart (fun v' => i_Rel (k + 4) u' v') v) u := by
  obtain ⟨f_draftCount, f_stackCount, f_termCount, f_root, f_sentCount, f_walkedFrom, a_draftKind, a_draftFrom, a_draftTo, a_draftNumber, a_draftFirst, a_draftSecond, a_draftParent, a_stack, a_kind, a_from, a_to, a_number, a_first, a_second, a_place, a_picked, a_lastGot, a_oldest, a_waiting, a_slotLabel, a_slotValue⟩ := u
  obtain ⟨z_made, z_depth, z_size, z_rows, z_at, z_sendings, y_sorts, y_froms, y_tos, y_labels, y_firsts, y_seconds, y_around, y_stack, y_senders, y_receivers, y_told, y_values, y_isSent, y_isReceived, y_last, y_met⟩ := v
  obtain ⟨d, m, e, st, g, gx, gp, R, a, w, pl, pk, la, ⟨o1, o2, o3, o4, o5, o6⟩, xD, xP, xR, yD, yP, yR, es⟩ := I
  obtain ⟨b1, b2, b3⟩ := rl_begin o2
  have er := xP.2.1
  subst er
  unfold wpX_restart
  refine xs_beginRun ?_
  refine ys_restart o2 o3 yP ?_
  exact ⟨d, m, e, st, g, gx, gp, [], pg_s g (pg_n g - 1), pg_n g - 1, fun _ => pg_n g - 1, fun _ => none, fun _ => 0, ⟨o1, o2, o3, b1, b2, b3⟩, xD, xP, xr_begin, yD, yP, yr_begin, rfl⟩
theorem i_vc_protocol {k : Nat} {u : SX} {v : SY} (I : i_Rel k u v) (hk : k + 4 ≤ 2048) : wpX_protocol (fun r u' => wpY_protocol (fun r' v' => r' = r ∧ i_Rel (k + 4) u' v') v) u := by
  obtain ⟨f_draftCount, f_stackCount, f_termCount, f_root, f_sentCount, f_walkedFrom, a_draftKind, a_draftFrom, a_draftTo, a_draftNumber, a_draftFirst, a_draftSecond, a_draftParent, a_stack, a_kind, a_from, a_to, a_number, a_first, a_second, a_place, a_picked, a_lastGot, a_oldest, a_waiting, a_slotLabel, a_slotValue⟩ := u
  obtain ⟨z_made, z_depth, z_size, z_rows, z_at, z_sendings, y_sorts, y_froms, y_tos, y_labels, y_firsts, y_seconds, y_around, y_stack, y_senders, y_receivers, y_told, y_values, y_isSent, y_isReceived, y_last, y_met⟩ := v
  have I0 := I
  obtain ⟨d, m, e, st, g, gx, gp, R, a, w, pl, pk, la, ⟨o1, o2, o3, o4, o5, o6⟩, xD, xP, xR, yD, yP, yR, es⟩ := I
  have hn := xD.2.2.2.2
  refine xs_protocol o1 xD (fun h3 => ?_) (fun he nf => ?_) (fun he fit k1 k2 k3 k4 k5 k6 hX => ?_)
  · exact ys_protocol o1 yD hn (fun _ => ⟨rfl, I0⟩) (fun z => absurd z h3) (fun z => absurd z h3)
  · exact ys_protocol o1 yD hn (fun z => absurd he z) (fun _ _ => ⟨rfl, I0⟩) (fun _ z => absurd z nf)
  · refine ys_protocol o1 yD hn (fun z => absurd he z) (fun _ z => absurd fit z) (fun _ _ s1 s2 s3 s4 s5 s6 s7 hY => ⟨rfl, ?_⟩)
    have m0 : 0 < m := by have := o1.2.1; omega
    have gok := dd_gok o1 m0 (dd_l_fit fit)
    obtain ⟨b1, b2, b3⟩ := rl_begin gok
    exact ⟨d, 0, 0, st, dd_gr d m (dd_l d), dd_n d, dd_p d, [], pg_s (dd_gr d m (dd_l d)) (m - 1), m - 1, fun _ => m - 1, fun _ => none, fun _ => 0, ⟨dd_ok0 d st, gok, pg_up_dr o1 hn fit, b1, b2, b3⟩, xr_D0, hX, xr_begin, yr_D0, hY, yr_begin, rfl⟩
end PRT
