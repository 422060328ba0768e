section PRY
/-! partner -/
theorem i_vc_partner {k : Nat} {u : SX} {v : SY} (I : i_Rel k u v) (hk : k + 4 ≤ 2048) (v1 : Int32) : wpX_partner (fun r => wpY_partner (fun r' v' => r' = r ∧ i_Rel (k + 4) u v') v v1) u v1 := by
  obtain ⟨f_draftCount, f_stackCount, f_termCount, f_root, f_sentCount, f_walkedFrom, a_draftKind, a_draftFrom, a_draftTo, a_draftNumber, a_draftFirst, a_draftSecond, a_draftParent, a_stack, a_kind, a_from, a_to, a_number, a_first, a_second, a_place, a_picked, a_lastGot, a_oldest, a_waiting, a_slotLabel, a_slotValue⟩ := u
  obtain ⟨z_made, z_depth, z_size, z_rows, z_at, z_sendings, y_sorts, y_froms, y_tos, y_labels, y_firsts, y_seconds, y_around, y_stack, y_senders, y_receivers, y_told, y_values, y_isSent, y_isReceived, y_last, y_met⟩ := v
  have I0 := I
  obtain ⟨d, m, e, st, g, gx, gp, R, a, w, pl, pk, la, G, xD, xP, xR, yD, yP, yR, es⟩ := I
  have G0 := G
  obtain ⟨o1, o2, o3, o4, o5, o6⟩ := G
  have hAok := o4.2.2.2.2.2.1
  have hl6 := ro_585 hAok o5 o4.2.2.2.2.2.2.2 o6
  have h20 := o2.2.1
  rcases pr_role v1 with h | ⟨r, hr, e1⟩
  · unfold wpX_partner wpY_partner
    exact xs_noRole h (br_t rfl (ys_noRole h (br_f (by decide) ⟨rfl, I0⟩)))
  · subst e1
    obtain ⟨hpl, hpi, -⟩ := xR.2.1 r hr
    obtain ⟨ht0, hpth⟩ := o4.2.2.2.2.2.2.1 r hr
    have hpk2 : ∀ c, pk r = some c → c < 2 := fun c ec => by rw [ec] at hpth; exact pr_pth_pk hpth
    rcases ro_split r R with hnone | ⟨A, x, C, eR, hA, hu⟩
    · rw [ro_fil0 hnone] at hpth
      obtain ⟨epk, hsk⟩ := hpth
      have hl := ro_565 hr hAok o5 o4.2.2.2.2.2.2.2 o6 hnone
      by_cases hx : ∃ j, pg_c g r (pr_it (pg_w g) j a)
      · obtain ⟨j, hm⟩ := pg_meet o2 o4.1 o4.2.1 r hx
        have htl := pg_itlt o2 o4.1 j
        refine xs_partner o2 xP hr hpl ht0 (pr_sk_tr hsk hm.2.2.2.2) hm.1 hpi hpk2 ?_
        unfold wpY_partner
        refine ys_isRole hr (br_t rfl (ys_nextM o2 o3 yP hr o4 hl yR.1 yR.2.1 yR.2.2.1 hnone hm ?_ ?_ ?_))
        · intro k2 fr M
          have ho : pg_o g (pk r) r (pr_it (pg_w g) j a) = pr_les r := by
            unfold pg_o
            rw [if_pos fr, if_neg (by omega), if_pos epk]
          rw [ho]
          exact br_f (by decide) (br_f (by decide) (br_t rfl (ys_lesser hr ⟨rfl, rl_met I0 M⟩)))
        · intro k2 fr M
          have ho : pg_o g (pk r) r (pr_it (pg_w g) j a) = pg_f g (pr_it (pg_w g) j a) := by
            unfold pg_o
            rw [if_neg fr]
          rw [ho]
          exact br_f (by decide) (br_t rfl (ys_picker o2 o3 yP o4.1 yR.2.1 (fun i hi => (hm.2.1 i hi).1) k2 ⟨rfl, rl_met I0 M⟩))
        · intro k1 E v d1 d2 d3 d5 d6 M eE hE hrun hY
          have cf := pg_cf o2 htl hm.1
          have hft : pg_f g (pr_it (pg_w g) j a) = r ∨ pg_t g (pr_it (pg_w g) j a) = r := by
            rcases hm.1 with z | ⟨-, z⟩
            · omega
            · exact z
          obtain ⟨G1, hwe, hun, huy⟩ := rl_ext G0 hr hnone hm.2.2.1 eE hE ⟨rfl, rfl⟩ (by show (pg_f g (pr_it (pg_w g) j a) == r || pg_t g (pr_it (pg_w g) j a) == r) = true; simpa using hft) hrun
          have hlen : (R ++ E ++ [((pg_f g (pr_it (pg_w g) j a), pg_t g (pr_it (pg_w g) j a), pg_l g (pr_it (pg_w g) j a), v, false, false) : ro_T)]).length = R.length + j + 1 := by
            rw [List.length_append, List.length_append, eE]; rfl
          have I1 : i_Rel (k + 4) (f_draftCount, f_stackCount, f_termCount, f_root, f_sentCount, f_walkedFrom, a_draftKind, a_draftFrom, a_draftTo, a_draftNumber, a_draftFirst, a_draftSecond, a_draftParent, a_stack, a_kind, a_from, a_to, a_number, a_first, a_second, a_place, a_picked, a_lastGot, a_oldest, a_waiting, a_slotLabel, a_slotValue) (z_made, z_depth, z_size, nI (R.length + j + 1), nI (pg_w g (pr_it (pg_w g) j a)), z_sendings, y_sorts, y_froms, y_tos, y_labels, y_firsts, y_seconds, y_around, y_stack, d1, d2, d3, y_values, d5, d6, y_last, M) :=
            ⟨d, m, e, st, g, gx, gp, _, _, w, pl, pk, la, G1, xD, xP, ⟨xR.1, xR.2.1, pr_ring_eq xR.2.2 hwe⟩, yD, yP, ⟨by rw [hlen], rfl, hY, yR.2.2.2⟩, es⟩
          obtain ⟨q1, q2, q3, q4, q5, q6⟩ := hY (R.length + j) (pg_f g (pr_it (pg_w g) j a), pg_t g (pr_it (pg_w g) j a), pg_l g (pr_it (pg_w g) j a), v, false, false) (by
            have := yr_here (A := R ++ E) (C := []) (x := (pg_f g (pr_it (pg_w g) j a), pg_t g (pr_it (pg_w g) j a), pg_l g (pr_it (pg_w g) j a), v, false, false))
            rw [List.length_append, eE] at this
            exact this)
          have i6 : vp_in (nI (R.length + j)) 600 := vp_in_nI (by omega) (by decide)
          refine br_f (pr_nneg (by omega) (by decide)) (br_f (pr_nneg (by omega) (by decide)) (br_f (pr_nneg (by omega) (by decide)) ⟨i6, ?_⟩))
          dsimp only
          rw [nI_clamp (n := R.length + j) (by omega), q1, q2]
          have c1 := cf.1
          have c2 := cf.2 k1
          refine pk_eq (pg_f g (pr_it (pg_w g) j a)) r (fun c => ⟨i6, ?_, I1⟩) (fun c => ⟨i6, ?_, I1⟩) rfl rfl
          · unfold pg_o
            rw [if_pos c, if_pos k1]
            rfl
          · unfold pg_o
            rw [if_neg c]
            rfl
      · have hn : ∀ j, ¬ pg_c g r (pr_it (pg_w g) j a) := fun j z => hx ⟨j, z⟩
        refine xs_partnerO o2 xP hr hpl ht0 (pr_nv_sk hsk (pg_never o2 o4.1 o4.2.1 r hn)) ?_
        unfold wpY_partner
        exact ys_isRole hr (br_t rfl (ys_nextO o2 o3 yP hr o4 hl yR.1 yR.2.1 yR.2.2.1 hnone hn (fun M => br_t rfl ⟨rfl, rl_met I0 M⟩)))
    · subst eR
      rw [ro_own hA hu, List.map_cons] at hpth
      have kx := hAok x (by simp)
      obtain ⟨t, y, ht, hy, hs, hc, -, -, hcase⟩ := pr_head o2 kx ht0 hpth
      refine xs_partner o2 xP hr hpl ht0 hs hc hpi hpk2 ?_
      unfold wpY_partner
      have hlA : A.length < 600 := by
        have := hl6
        rw [List.length_append, List.length_cons] at this
        omega
      refine ys_isRole hr (br_t rfl (ys_nextA hr hAok (by omega) yR.1 yR.2.2.1 hA hu ?_))
      obtain ⟨q1, q2, q3, q4, q5, q6⟩ := yR.2.2.1 A.length x yr_here
      have i6 : vp_in (nI A.length) 600 := vp_in_nI hlA (by decide)
      have kx1 := kx.1
      have kx2 := kx.2.1
      refine br_f (pr_nneg (by omega) (by decide)) (br_f (pr_nneg (by omega) (by decide)) (br_f (pr_nneg (by omega) (by decide)) ⟨i6, ?_⟩))
      dsimp only
      rw [nI_clamp (n := A.length) (by omega), q1, q2]
      rcases hcase with ⟨p1, p2, p3, -⟩ | ⟨p1, p2, p3, p4⟩
      · rw [p3]
        exact br_t (by rw [p1]) ⟨i6, rfl, I0⟩
      · rw [p4]
        exact br_f (fun z => p2 ((nI_eq (by omega) (by omega)).mp z)) ⟨i6, rfl, I0⟩
end PRY
