section PSB
/-! send -/
theorem i_vc_send {k : Nat} {u : SX} {v : SY} (I : i_Rel k u v) (hk : k + 4 ≤ 2048) (v1 : Int32) (v2 : Int32) (v3 : Int32) : wpX_send (fun r u' => wpY_send (fun r' v' => r' = r ∧ i_Rel (k + 4) u' v') v v1 v2 v3) u v1 v2 v3 := by
  obtain ⟨f_draftCount, f_stackCount, f_termCount, f_root, f_sentCount, f_walkedFrom, a_draftKind, a_draftFrom, a_draftTo, a_draftNumber, a_draftFirst, a_draftSecond, a_draftParent, a_stack, a_kind, a_from, a_to, a_number, a_first, a_second, a_place, a_picked, a_lastGot, a_oldest, a_waiting, a_slotLabel, a_slotValue⟩ := u
  obtain ⟨z_made, z_depth, z_size, z_rows, z_at, z_sendings, y_sorts, y_froms, y_tos, y_labels, y_firsts, y_seconds, y_around, y_stack, y_senders, y_receivers, y_told, y_values, y_isSent, y_isReceived, y_last, y_met⟩ := v
  have I0 := I
  obtain ⟨d, m, e, st, g, gx, gp, R0, a, w, pl, pk, la, ⟨o1, o2, o3, p4, p5, p6⟩, xD, xP, xR0, yD, yP, yR0, es⟩ := I
  have h20 := o2.2.1
  have hl0 := ro_585 p4.2.2.2.2.2.1 p5 p4.2.2.2.2.2.2.2 p6
  rcases pr_role v1 with h | ⟨r, hr, e1⟩
  · unfold wpX_send wpY_send
    exact xs_noRole h (br_t rfl (ys_noRole h (br_f (by decide) ⟨rfl, I0⟩)))
  · subst e1
    have o4 := pr_run_fg p4
    have o5 := ro_fB p4.2.2.2.2.1 p4.2.2.2.2.2.1 p5
    have f0 := ro_fk0 R0
    have xR : xr_R (R0.filter ro_k) w pl pk la f_walkedFrom a_place a_picked a_lastGot a_oldest a_waiting a_slotLabel a_slotValue := ⟨xR0.1, xR0.2.1, pr_ring_eq xR0.2.2 (fun p q => ro_fw p q R0)⟩
    have fg : ∀ (post : SY → Prop), (∀ c1 c2 c3 c4 c5 c6 : Nat → Int32, yr_ok (R0.filter ro_k) c1 c2 c3 c4 c5 c6 → post (z_made, z_depth, z_size, nI (R0.filter ro_k).length, z_at, z_sendings, y_sorts, y_froms, y_tos, y_labels, y_firsts, y_seconds, y_around, y_stack, c1, c2, c3, c4, c5, c6, y_last, y_met)) → wpY_forget post (z_made, z_depth, z_size, z_rows, z_at, z_sendings, y_sorts, y_froms, y_tos, y_labels, y_firsts, y_seconds, y_around, y_stack, y_senders, y_receivers, y_told, y_values, y_isSent, y_isReceived, y_last, y_met) := fun post h => ys_forget (by omega) yR0.1 yR0.2.2.1 h
    have ea := yR0.2.1
    have hla := yR0.2.2.2
    generalize R0.filter ro_k = R at o4 o5 f0 xR fg
    have o6 : R.countP ro_f ≤ 1 := by omega
    have G0 : rl_G d m e st g gx gp R a w pl pk := ⟨o1, o2, o3, o4, o5, o6⟩
    have hAok := o4.2.2.2.2.2.1
    have hl6 := ro_585 hAok o5 o4.2.2.2.2.2.2.2 o6
    have hW : ∀ p q, p < 3 → q < 3 → a_waiting (p * 3 + q) = nI ((fun p q => (R.filter (ro_w p q)).length) p q) ∧ (fun p q => (R.filter (ro_w p q)).length) p q ≤ 4 := by
      intro p q hp hq
      obtain ⟨o, -, -, hw, -⟩ := xR.2.2 p q hp hq
      exact ⟨hw, o4.2.2.2.2.2.2.2 p q⟩
    obtain ⟨hpl, hpi, -⟩ := xR.2.1 r hr
    obtain ⟨ht0, hpth⟩ := o4.2.2.2.2.2.2.1 r hr
    have hpk2 : ∀ c, pk r = some c → c < 2 := fun c ec => by rw [ec] at hpth; exact pr_pth_pk hpth
    have Ir : ∀ (c1 c2 c3 c4 c5 c6 M : Nat → Int32), yr_ok R c1 c2 c3 c4 c5 c6 → i_Rel (k + 4) (f_draftCount, f_stackCount, f_termCount, f_root, f_sentCount, f_walkedFrom, a_draftKind, a_draftFrom, a_draftTo, a_draftNumber, a_draftFirst, a_draftSecond, a_draftParent, a_stack, a_kind, a_from, a_to, a_number, a_first, a_second, a_place, a_picked, a_lastGot, a_oldest, a_waiting, a_slotLabel, a_slotValue) (z_made, z_depth, z_size, nI R.length, z_at, z_sendings, y_sorts, y_froms, y_tos, y_labels, y_firsts, y_seconds, y_around, y_stack, c1, c2, c3, c4, c5, c6, y_last, M) := fun c1 c2 c3 c4 c5 c6 M hY =>
      ⟨d, m, e, st, g, gx, gp, R, a, w, pl, pk, la, G0, xD, xP, xR, yD, yP, ⟨rfl, ea, hY, hla⟩, es⟩
    rcases ro_split r R with hnone | ⟨A, x, C, eR, hA, hu⟩
    · rw [ro_fil0 hnone] at hpth
      obtain ⟨epk, hsk⟩ := hpth
      have hl := ro_565 hr hAok o5 o4.2.2.2.2.2.2.2 o6 hnone
      by_cases hx : ∃ j, pg_c g r (pr_it (pg_w g) j a)
      · obtain ⟨j, hm⟩ := pg_meet o2 o4.1 o4.2.1 r hx
        have htl := pg_itlt o2 o4.1 j
        have hj := hm.2.2.1
        have cf := pg_cf o2 htl hm.1
        have hsk2 := pr_sk_tr hsk hm.2.2.2.2
        -- the reference's walk, with what is met
        have nxt : ∀ (post : Int32 → SY → Prop) (c1 c2 c3 c4 c5 c6 : Nat → Int32), yr_ok R c1 c2 c3 c4 c5 c6 →
            (pg_k g (pr_it (pg_w g) j a) = 2 → pg_f g (pr_it (pg_w g) j a) = r → ∀ M : Nat → Int32, post (-1) (z_made, z_depth, z_size, nI R.length, z_at, z_sendings, y_sorts, y_froms, y_tos, y_labels, y_firsts, y_seconds, y_around, y_stack, c1, c2, c3, c4, c5, c6, y_last, M)) →
            (pg_k g (pr_it (pg_w g) j a) = 2 → pg_f g (pr_it (pg_w g) j a) ≠ r → ∀ M : Nat → Int32, post (-2) (z_made, z_depth, z_size, nI R.length, z_at, z_sendings, y_sorts, y_froms, y_tos, y_labels, y_firsts, y_seconds, y_around, y_stack, c1, c2, c3, c4, c5, c6, y_last, M)) →
            (pg_k g (pr_it (pg_w g) j a) = 1 → ∀ (E : List ro_T) (v : Int32) (d1 d2 d3 d5 d6 M : Nat → Int32), E.length = j → (∀ e, e ∈ E → ro_new e ∧ ro_c r e = false) →
              pr_run g (R ++ E ++ [(pg_f g (pr_it (pg_w g) j a), pg_t g (pr_it (pg_w g) j a), pg_l g (pr_it (pg_w g) j a), v, false, false)]) (pg_w g (pr_it (pg_w g) j a)) w pl pk →
              yr_ok (R ++ E ++ [(pg_f g (pr_it (pg_w g) j a), pg_t g (pr_it (pg_w g) j a), pg_l g (pr_it (pg_w g) j a), v, false, false)]) d1 d2 d3 c4 d5 d6 →
              post (nI (R.length + j)) (z_made, z_depth, z_size, nI (R.length + j + 1), nI (pg_w g (pr_it (pg_w g) j a)), z_sendings, y_sorts, y_froms, y_tos, y_labels, y_firsts, y_seconds, y_around, y_stack, d1, d2, d3, c4, d5, d6, y_last, M)) →
            wpY_next post (z_made, z_depth, z_size, nI R.length, z_at, z_sendings, y_sorts, y_froms, y_tos, y_labels, y_firsts, y_seconds, y_around, y_stack, c1, c2, c3, c4, c5, c6, y_last, y_met) (nI r) :=
          fun post c1 c2 c3 c4 c5 c6 hY h1 h2 h3 => ys_nextM o2 o3 yP hr o4 hl rfl ea hY hnone hm h1 h2 h3
        by_cases k1 : pg_k g (pr_it (pg_w g) j a) = 1
        · have hft : pg_f g (pr_it (pg_w g) j a) = r ∨ pg_t g (pr_it (pg_w g) j a) = r := by
            rcases hm.1 with z | ⟨-, z⟩
            · omega
            · exact z
          have cf2 := cf.2 k1
          have hcy : ∀ v : Int32, ro_c r (pg_f g (pr_it (pg_w g) j a), pg_t g (pr_it (pg_w g) j a), pg_l g (pr_it (pg_w g) j a), v, false, false) = true := by
            intro v
            show (pg_f g (pr_it (pg_w g) j a) == r || pg_t g (pr_it (pg_w g) j a) == r) = true
            simpa using hft
          have hlen : ∀ (E : List ro_T) (v : Int32), E.length = j → (R ++ E ++ [((pg_f g (pr_it (pg_w g) j a), pg_t g (pr_it (pg_w g) j a), pg_l g (pr_it (pg_w g) j a), v, false, false) : ro_T)]).length = R.length + j + 1 := by
            intro E v eE
            rw [List.length_append, List.length_append, eE]; rfl
          have i6 : vp_in (nI (R.length + j)) 600 := vp_in_nI (by omega) (by decide)
          have hrow : ∀ (E : List ro_T) (v : Int32) (d1 d2 d3 d4 d5 d6 : Nat → Int32), E.length = j → yr_ok (R ++ E ++ [(pg_f g (pr_it (pg_w g) j a), pg_t g (pr_it (pg_w g) j a), pg_l g (pr_it (pg_w g) j a), v, false, false)]) d1 d2 d3 d4 d5 d6 → d1 (R.length + j) = nI (pg_f g (pr_it (pg_w g) j a)) := by
            intro E v d1 d2 d3 d4 d5 d6 eE hY1
            have := yr_here (A := R ++ E) (C := []) (x := (pg_f g (pr_it (pg_w g) j a), pg_t g (pr_it (pg_w g) j a), pg_l g (pr_it (pg_w g) j a), v, false, false))
            rw [List.length_append, eE] at this
            exact (hY1 _ _ this).1
          have I1 : ∀ (E : List ro_T) (v : Int32) (d1 d2 d3 d4 d5 d6 M : Nat → Int32), E.length = j → rl_G d m e st g gx gp (R ++ E ++ [(pg_f g (pr_it (pg_w g) j a), pg_t g (pr_it (pg_w g) j a), pg_l g (pr_it (pg_w g) j a), v, false, false)]) (pg_w g (pr_it (pg_w g) j a)) w pl pk → (∀ p q, (R ++ E ++ [((pg_f g (pr_it (pg_w g) j a), pg_t g (pr_it (pg_w g) j a), pg_l g (pr_it (pg_w g) j a), v, false, false) : ro_T)]).filter (ro_w p q) = R.filter (ro_w p q)) → yr_ok (R ++ E ++ [(pg_f g (pr_it (pg_w g) j a), pg_t g (pr_it (pg_w g) j a), pg_l g (pr_it (pg_w g) j a), v, false, false)]) d1 d2 d3 d4 d5 d6 →
              i_Rel (k + 4) (f_draftCount, f_stackCount, f_termCount, f_root, f_sentCount, f_walkedFrom, a_draftKind, a_draftFrom, a_draftTo, a_draftNumber, a_draftFirst, a_draftSecond, a_draftParent, a_stack, a_kind, a_from, a_to, a_number, a_first, a_second, a_place, a_picked, a_lastGot, a_oldest, a_waiting, a_slotLabel, a_slotValue) (z_made, z_depth, z_size, nI (R.length + j + 1), nI (pg_w g (pr_it (pg_w g) j a)), z_sendings, y_sorts, y_froms, y_tos, y_labels, y_firsts, y_seconds, y_around, y_stack, d1, d2, d3, d4, d5, d6, y_last, M) := fun E v d1 d2 d3 d4 d5 d6 M eE G1 hwe hY1 =>
            ⟨d, m, e, st, g, gx, gp, _, _, w, pl, pk, la, G1, xD, xP, ⟨xR.1, xR.2.1, pr_ring_eq xR.2.2 hwe⟩, yD, yP, ⟨by rw [hlen E v eE], rfl, hY1, hla⟩, es⟩
          by_cases fr : pg_f g (pr_it (pg_w g) j a) = r
          · have ho : pg_o g (pk r) r (pr_it (pg_w g) j a) = pg_t g (pr_it (pg_w g) j a) := by
              unfold pg_o
              rw [if_pos fr, if_pos k1]
            have w4 := o4.2.2.2.2.2.2.2 r (pg_t g (pr_it (pg_w g) j a))
            by_cases full : 4 ≤ (R.filter (ro_w r (pg_t g (pr_it (pg_w g) j a)))).length
            · refine xs_sendN o2 xP hr hpl ht0 hsk2 hm.1 hpi hpk2 hW ?_ ?_
              · rw [pg_si_s fr ho, if_pos full]; decide
              · unfold wpY_send
                refine ys_isRole hr (br_t rfl (fg _ ?_))
                intro c1 c2 c3 c4 c5 c6 hY
                refine nxt _ c1 c2 c3 c4 c5 c6 hY (fun z => by omega) (fun z => by omega) ?_
                intro _ E v d1 d2 d3 d5 d6 M eE hE hrun hY1
                obtain ⟨G1, hwe, hun, huy⟩ := rl_ext G0 hr hnone hj eE hE ⟨rfl, rfl⟩ (hcy v) hrun
                refine br_f (pr_nneg (by omega) (by decide)) (br_f (pr_nneg (by omega) (by decide)) (br_f (nI_pos (by omega)) ⟨i6, br_t ?_ ?_⟩))
                · rw [nI_clamp (n := R.length + j) (by omega), hrow E v _ _ _ _ _ _ eE hY1, fr]
                · have idx : R.length + j = (R ++ E).length := by rw [List.length_append, eE]
                  rw [idx]
                  refine ys_57 (C := []) hr G1.2.2.2.1.2.2.2.2.2.1 (by rw [show (R ++ E ++ [((pg_f g (pr_it (pg_w g) j a), pg_t g (pr_it (pg_w g) j a), pg_l g (pr_it (pg_w g) j a), v, false, false) : ro_T)]).length = _ from hlen E v eE]; omega) (by rw [← idx]; exact congrArg nI (hlen E v eE).symm) hY1 (by rw [hwe]; exact w4) (fun _ => ⟨rfl, ?_⟩) (fun z => ?_)
                  · rw [← idx]
                    exact I1 E v d1 d2 d3 c4 d5 d6 M eE G1 hwe hY1
                  · rw [hwe] at z
                    have z' : (R.filter (ro_w r (pg_t g (pr_it (pg_w g) j a)))).length < 4 := z
                    omega
            · obtain ⟨o, ho4, hoo, -, -⟩ := xR.2.2 r (pg_t g (pr_it (pg_w g) j a)) hr cf2.1
              refine xs_sendM (l := pg_l g (pr_it (pg_w g) j a)) (y := pg_1 g (pr_it (pg_w g) j a)) o2 xP hr hpl ht0 hsk2 hm.1 hpi hpk2 hW fr ho cf2.1 (by show (R.filter (ro_w r (pg_t g (pr_it (pg_w g) j a)))).length < 4; omega) hoo ho4 ⟨fun _ => rfl, fun z => absurd k1 z⟩ (Or.inl ⟨k1, rfl⟩) ?_
              unfold wpY_send
              refine ys_isRole hr (br_t rfl (fg _ ?_))
              intro c1 c2 c3 c4 c5 c6 hY
              refine nxt _ c1 c2 c3 c4 c5 c6 hY (fun z => by omega) (fun z => by omega) ?_
              intro _ E v d1 d2 d3 d5 d6 M eE hE hrun hY1
              obtain ⟨G1, hwe, hun, huy⟩ := rl_ext G0 hr hnone hj eE hE ⟨rfl, rfl⟩ (hcy v) hrun
              refine br_f (pr_nneg (by omega) (by decide)) (br_f (pr_nneg (by omega) (by decide)) (br_f (nI_pos (by omega)) ⟨i6, br_t ?_ ?_⟩))
              · rw [nI_clamp (n := R.length + j) (by omega), hrow E v _ _ _ _ _ _ eE hY1, fr]
              · have idx : R.length + j = (R ++ E).length := by rw [List.length_append, eE]
                rw [idx]
                refine ys_57 (C := []) hr G1.2.2.2.1.2.2.2.2.2.1 (by rw [show (R ++ E ++ [((pg_f g (pr_it (pg_w g) j a), pg_t g (pr_it (pg_w g) j a), pg_l g (pr_it (pg_w g) j a), v, false, false) : ro_T)]).length = _ from hlen E v eE]; omega) (by rw [← idx]; exact congrArg nI (hlen E v eE).symm) hY1 (by rw [hwe]; exact w4) (fun z => ?_) (fun z => ⟨rfl, ?_⟩)
                · rw [hwe] at z
                  have z' : (R.filter (ro_w r (pg_t g (pr_it (pg_w g) j a)))).length = 4 := z
                  omega
                · have kx := G1.2.2.2.1.2.2.2.2.2.1 (pg_f g (pr_it (pg_w g) j a), pg_t g (pr_it (pg_w g) j a), pg_l g (pr_it (pg_w g) j a), v, false, false) (by simp)
                  have hpt : pr_pth g r (pg_w g (pr_it (pg_w g) j a)) ((([] : List ro_T).filter (ro_u r)).map ro_t) (pg_1 g (pr_it (pg_w g) j a)) none := ⟨rfl, pg_ssk r _⟩
                  have run2 := pr_run_snd (C := []) G1.2.2.2.1 hr hun huy fr z (pg_1lt o2 htl) hpt v3
                  have ew := ro_snd_w (C := []) (v := v3) G1.2.2.2.1.2.2.2.2.1 G1.2.2.2.1.2.2.2.2.2.1 hr fr huy
                  have ewo : ∀ p' q', ¬ (p' = r ∧ q' = pg_t g (pr_it (pg_w g) j a)) → (R ++ E ++ [ro_snd (pg_f g (pr_it (pg_w g) j a), pg_t g (pr_it (pg_w g) j a), pg_l g (pr_it (pg_w g) j a), v, false, false) v3]).filter (ro_w p' q') = R.filter (ro_w p' q') := fun p' q' hne => by
                    rw [← hwe p' q']
                    exact ro_snd_wo (C := []) kx fr huy hne
                  have ew' : (R ++ E ++ [ro_snd (pg_f g (pr_it (pg_w g) j a), pg_t g (pr_it (pg_w g) j a), pg_l g (pr_it (pg_w g) j a), v, false, false) v3]).filter (ro_w r (pg_t g (pr_it (pg_w g) j a))) = R.filter (ro_w r (pg_t g (pr_it (pg_w g) j a))) ++ [ro_snd (pg_f g (pr_it (pg_w g) j a), pg_t g (pr_it (pg_w g) j a), pg_l g (pr_it (pg_w g) j a), v, false, false) v3] := by
                    rw [← hwe r (pg_t g (pr_it (pg_w g) j a))]
                    exact ew
                  have xR2 := xr_snd (y := pg_1 g (pr_it (pg_w g) j a)) (w' := w) xR hr cf2.1 hoo ho4 (by omega) ew' ewo
                  refine ⟨d, m, e, st, g, gx, gp, R ++ E ++ [ro_snd (pg_f g (pr_it (pg_w g) j a), pg_t g (pr_it (pg_w g) j a), pg_l g (pr_it (pg_w g) j a), v, false, false) v3], _, w, _, _, la, ⟨o1, o2, o3, run2, ro_snd_B (C := []) hr G1.2.2.2.2.1 kx fr huy, ?_⟩, xD, xP, xR2, yD, yP, ⟨?_, rfl, ?_, hla⟩, by rw [es]⟩
                  · have c1' := G1.2.2.2.2.2
                    rw [List.countP_append, List.countP_cons] at c1' ⊢
                    exact c1'
                  · rw [← idx]
                    rw [List.length_append, List.length_append, eE]; rfl
                  · exact yr_snd (C := []) hY1 v3
          · have nr : pg_t g (pr_it (pg_w g) j a) = r := by omega
            refine xs_sendN o2 xP hr hpl ht0 hsk2 hm.1 hpi hpk2 hW ?_ ?_
            · rw [pg_si_r fr rfl]
              split <;> decide
            · unfold wpY_send
              refine ys_isRole hr (br_t rfl (fg _ ?_))
              intro c1 c2 c3 c4 c5 c6 hY
              refine nxt _ c1 c2 c3 c4 c5 c6 hY (fun z => by omega) (fun z => by omega) ?_
              intro _ E v d1 d2 d3 d5 d6 M eE hE hrun hY1
              obtain ⟨G1, hwe, hun, huy⟩ := rl_ext G0 hr hnone hj eE hE ⟨rfl, rfl⟩ (hcy v) hrun
              refine br_f (pr_nneg (by omega) (by decide)) (br_f (pr_nneg (by omega) (by decide)) (br_f (nI_pos (by omega)) ⟨i6, br_f ?_ ⟨rfl, I1 E v d1 d2 d3 c4 d5 d6 M eE G1 hwe hY1⟩⟩))
              rw [nI_clamp (n := R.length + j) (by omega), hrow E v _ _ _ _ _ _ eE hY1]
              exact fun z => fr ((nI_eq (by omega) (by omega)).mp z)
        · have k2 : pg_k g (pr_it (pg_w g) j a) = 2 := by
            rcases hm.1 with z | ⟨z, -⟩
            · exact z
            · exact absurd z k1
          by_cases fr : pg_f g (pr_it (pg_w g) j a) = r
          · have ho : pg_o g (pk r) r (pr_it (pg_w g) j a) = pr_les r := by
              unfold pg_o
              rw [if_pos fr, if_neg k1, if_pos epk]
            have hles := (pr_les_ok hr).1
            have w4 := o4.2.2.2.2.2.2.2 r (pr_les r)
            have yto : ∀ (post : Int32 → SY → Prop) (c1 c2 c3 c4 c5 c6 M : Nat → Int32) (p1 : Int32), yr_ok R c1 c2 c3 c4 c5 c6 →
                ((R.filter (ro_w r (pr_les r))).length = 4 → post (-4) (z_made, z_depth, z_size, nI R.length, z_at, z_sendings, y_sorts, y_froms, y_tos, y_labels, y_firsts, y_seconds, y_around, y_stack, c1, c2, c3, c4, c5, c6, y_last, M)) →
                ((R.filter (ro_w r (pr_les r))).length < 4 → ((p1 = 0 → wY_send_111 post (nI r) p1 v3 (-1) z_made z_depth z_size (nI R.length) z_at z_sendings y_sorts y_froms y_tos y_labels y_firsts y_seconds y_around y_stack c1 c2 c3 c4 c5 c6 y_last M) ∧ (¬ p1 = 0 → ((p1 = 1 → wY_send_111 post (nI r) p1 v3 (-1) z_made z_depth z_size (nI R.length) z_at z_sendings y_sorts y_froms y_tos y_labels y_firsts y_seconds y_around y_stack c1 c2 c3 c4 c5 c6 y_last M) ∧ (¬ p1 = 1 → post (-1) (z_made, z_depth, z_size, nI R.length, z_at, z_sendings, y_sorts, y_froms, y_tos, y_labels, y_firsts, y_seconds, y_around, y_stack, c1, c2, c3, c4, c5, c6, y_last, M)))))) →
                wY_send_57 post (nI r) p1 v3 (-1) z_made z_depth z_size (nI R.length) z_at z_sendings y_sorts y_froms y_tos y_labels y_firsts y_seconds y_around y_stack c1 c2 c3 c4 c5 c6 y_last M := by
              intro post c1 c2 c3 c4 c5 c6 M p1 hY h4 h3
              refine br_t rfl (ys_lesser hr ?_)
              unfold wY_send_78
              refine ys_counted hr hles hAok (by omega) rfl hY ?_
              exact pk_lt _ 4 (fun c => br_t rfl (h3 c)) (fun c => h4 (by omega)) rfl rfl
            by_cases full : 4 ≤ (R.filter (ro_w r (pr_les r))).length
            · refine xs_sendN o2 xP hr hpl ht0 hsk2 hm.1 hpi hpk2 hW ?_ ?_
              · rw [pg_si_s fr ho, if_pos full]; decide
              · unfold wpY_send
                refine ys_isRole hr (br_t rfl (fg _ ?_))
                intro c1 c2 c3 c4 c5 c6 hY
                refine nxt _ c1 c2 c3 c4 c5 c6 hY ?_ (fun _ z => absurd fr z) (fun z => absurd z k1)
                intro _ _ M
                exact br_f (by decide) (br_f (by decide) (br_t (by decide) (yto _ c1 c2 c3 c4 c5 c6 M v2 hY (fun _ => ⟨rfl, Ir _ _ _ _ _ _ M hY⟩) (fun z => by omega))))
            · by_cases cp : v2 = 0 ∨ v2 = 1
              · obtain ⟨c, hc2, ec⟩ : ∃ c, c < 2 ∧ v2 = nI c := by
                  rcases cp with z | z
                  · exact ⟨0, by decide, z⟩
                  · exact ⟨1, by decide, z⟩
                subst ec
                obtain ⟨o, ho4, hoo, -, -⟩ := xR.2.2 r (pr_les r) hr hles
                refine xs_sendPk o2 xP hr hpl ht0 hsk2 hm.1 hpi hpk2 hW k2 fr epk (by show (R.filter (ro_w r (pr_les r))).length < 4; omega) hoo ho4 hc2 ?_
                unfold wpY_send
                refine ys_isRole hr (br_t rfl (fg _ ?_))
                intro c1 c2 c3 c4 c5 c6 hY
                refine nxt _ c1 c2 c3 c4 c5 c6 hY ?_ (fun _ z => absurd fr z) (fun z => absurd z k1)
                intro _ _ M
                refine br_f (by decide) (br_f (by decide) (br_t (by decide) (yto _ c1 c2 c3 c4 c5 c6 M (nI c) hY (fun z => by omega) (fun _ => ?_))))
                have pck : ∀ post : Int32 → SY → Prop, (∀ (E : List ro_T) (w1 w2 : Int32) (d1 d2 d3 d5 d6 : Nat → Int32), E.length = j → (∀ e, e ∈ E → ro_new e ∧ ro_c r e = false) →
                    pr_run g (R ++ E) (pr_it (pg_w g) j a) w pl pk →
                    yr_ok (R ++ E ++ (r, pr_les r, nI c, w1, false, false) :: [(r, pr_gre r, nI c, w2, false, false)]) d1 d2 d3 c4 d5 d6 →
                    wY_send_128 post v3 (nI (R.length + j)) z_made z_depth z_size (nI (R.length + j + 2)) (nI (pg_s g (pg_b g (pr_it (pg_w g) j a) c))) z_sendings y_sorts y_froms y_tos y_labels y_firsts y_seconds y_around y_stack d1 d2 d3 c4 d5 d6 y_last M) →
                    wY_send_111 post (nI r) (nI c) v3 (-1) z_made z_depth z_size (nI R.length) z_at z_sendings y_sorts y_froms y_tos y_labels y_firsts y_seconds y_around y_stack c1 c2 c3 c4 c5 c6 y_last M := by
                  intro post hpost
                  refine br_t rfl ⟨j + 1, ?_⟩
                  exact ys_pick0 (y_met := M) o2 o3 yP hr hc2 j a R (nI R.length) z_at c1 c2 c3 c5 c6 o4 rfl ea hY hm.2.1 k2 (by omega) hpost
                have fin := pck (fun r' v' => r' = nI c ∧ i_Rel (k + 4) (f_draftCount, f_stackCount, f_termCount, f_root, f_sentCount + 1, nI (pg_b g (pr_it (pg_w g) j a) c), a_draftKind, a_draftFrom, a_draftTo, a_draftNumber, a_draftFirst, a_draftSecond, a_draftParent, a_stack, a_kind, a_from, a_to, a_number, a_first, a_second, a_place, upd a_picked r (nI c), a_lastGot, a_oldest, upd a_waiting (r * 3 + pr_les r) (nI ((R.filter (ro_w r (pr_les r))).length + 1)), upd a_slotLabel ((r * 3 + pr_les r) * 4 + (o + (R.filter (ro_w r (pr_les r))).length) % 4) (nI c), upd a_slotValue ((r * 3 + pr_les r) * 4 + (o + (R.filter (ro_w r (pr_les r))).length) % 4) v3) v') ?_
                · have : c = 0 ∨ c = 1 := by omega
                  rcases this with z | z
                  · subst z; exact br_t rfl fin
                  · subst z; exact br_f (by decide) (br_t rfl fin)
                · intro E w1 w2 d1 d2 d3 d5 d6 eE hE hrun hY1
                  have idx : R.length + j = (R ++ E).length := by rw [List.length_append, eE]
                  have hY1' := hY1 (R ++ E).length _ yr_here
                  have hnE : ∀ e, e ∈ E → ro_new e := fun e he => (hE e he).1
                  have hRE : ∀ z, z ∈ R ++ E → ro_u r z = false := by
                    intro z hz
                    rcases List.mem_append.mp hz with y | y
                    · exact hnone z y
                    · rw [ro_new_u (hE z y).1]; exact (hE z y).2
                  have cap : ((R ++ E).filter (ro_w r (pr_les r))).length < 4 := by rw [ro_app_w hnE]; omega
                  have run2 := pr_run_pick o2 hrun k2 fr hc2 hRE cap v3 w1 w2
                  refine ys_128 (l := nI c) (by omega) (by rw [idx]; exact hY1'.2.2.1) ⟨rfl, ?_⟩
                  have kx : ro_ok (r, pr_les r, nI c, w1, false, false) := ⟨hr, hles, (pr_les_ok hr).2, fun z => z⟩
                  have ux : ro_u r (r, pr_les r, nI c, w1, false, false) = true := by rw [ro_new_u ⟨rfl, rfl⟩]; simp [ro_c, ro_p]
                  have uy : ro_u r (r, pr_gre r, nI c, w2, false, false) = true := by rw [ro_new_u ⟨rfl, rfl⟩]; simp [ro_c, ro_p]
                  have hn2 : ∀ e, e ∈ (r, pr_les r, nI c, w1, false, false) :: [((r, pr_gre r, nI c, w2, false, false) : ro_T)] → ro_new e := by
                    intro e he
                    rw [List.mem_cons, List.mem_singleton] at he
                    rcases he with he | he <;> subst he <;> exact ⟨rfl, rfl⟩
                  have ok2 : ∀ e, e ∈ (r, pr_les r, nI c, w1, false, false) :: [((r, pr_gre r, nI c, w2, false, false) : ro_T)] → ro_ok e := by
                    intro e he
                    rw [List.mem_cons, List.mem_singleton] at he
                    rcases he with he | he <;> subst he
                    · exact kx
                    · exact ⟨hr, (pr_gre_ok hr).1, (pr_gre_ok hr).2, fun z => z⟩
                  have b1 : ro_B (R ++ E ++ (r, pr_les r, nI c, w1, false, false) :: [(r, pr_gre r, nI c, w2, false, false)]) := by
                    have := ro_app_B (E := E ++ [(r, pr_les r, nI c, w1, false, false)]) (e := (r, pr_gre r, nI c, w2, false, false)) o5 hr hnone (by rw [List.length_append, List.length_append, eE, List.length_singleton, List.length_singleton]; omega) uy
                    rw [show R ++ E ++ (r, pr_les r, nI c, w1, false, false) :: [((r, pr_gre r, nI c, w2, false, false) : ro_T)] = R ++ (E ++ [(r, pr_les r, nI c, w1, false, false)] ++ [(r, pr_gre r, nI c, w2, false, false)]) from by simp]
                    exact this
                  have oo1 : ro_O (R ++ E ++ (r, pr_les r, nI c, w1, false, false) :: [(r, pr_gre r, nI c, w2, false, false)]) := ro_app_O hrun.2.2.2.2.1 hn2
                  have aa1 : ro_A (R ++ E ++ (r, pr_les r, nI c, w1, false, false) :: [(r, pr_gre r, nI c, w2, false, false)]) := ro_app_A hrun.2.2.2.2.2.1 ok2
                  have fl : ∀ p q, (R ++ E ++ (r, pr_les r, nI c, w1, false, false) :: [((r, pr_gre r, nI c, w2, false, false) : ro_T)]).filter (ro_w p q) = R.filter (ro_w p q) := fun p q => by rw [ro_app_w hn2, ro_app_w hnE]
                  have ew : (R ++ E ++ ro_snd (r, pr_les r, nI c, w1, false, false) v3 :: [((r, pr_gre r, nI c, w2, false, false) : ro_T)]).filter (ro_w r (pr_les r)) = R.filter (ro_w r (pr_les r)) ++ [ro_snd (r, pr_les r, nI c, w1, false, false) v3] := by
                    rw [← fl r (pr_les r)]
                    exact ro_snd_w oo1 aa1 hr rfl ux
                  have ewo : ∀ p' q', ¬ (p' = r ∧ q' = pr_les r) → (R ++ E ++ ro_snd (r, pr_les r, nI c, w1, false, false) v3 :: [((r, pr_gre r, nI c, w2, false, false) : ro_T)]).filter (ro_w p' q') = R.filter (ro_w p' q') := fun p' q' hne => by
                    rw [← fl p' q']
                    exact ro_snd_wo kx rfl ux hne
                  have xR2 := xr_pck (w' := pg_b g (pr_it (pg_w g) j a) c) (c := c) xR hr hles hoo ho4 (by omega) ew ewo
                  refine ⟨d, m, e, st, g, gx, gp, _, _, _, _, _, la, ⟨o1, o2, o3, run2, ro_snd_B hr b1 kx rfl ux, ?_⟩, xD, xP, xR2, yD, yP, ⟨?_, rfl, ?_, hla⟩, by rw [es]⟩
                  · rw [List.countP_append, ro_f_app hnE, f0]
                    have : (ro_snd (r, pr_les r, nI c, w1, false, false) v3 :: [((r, pr_gre r, nI c, w2, false, false) : ro_T)]).countP ro_f = 0 := by
                      rw [List.countP_eq_zero]
                      intro e he
                      rw [List.mem_cons, List.mem_singleton] at he
                      rcases he with he | he <;> subst he <;> simp [ro_f, ro_snd, ro_s, ro_d]
                    omega
                  · rw [List.length_append, ← idx]; rfl
                  · rw [idx]
                    exact yr_snd hY1 v3
              · have n0 : ¬ v2 = 0 := fun z => cp (Or.inl z)
                have n1 : ¬ v2 = 1 := fun z => cp (Or.inr z)
                refine xs_sendB o2 xP hr hpl ht0 hsk2 hm.1 hpi hpk2 hW (by rw [pg_si_s fr ho, if_neg full]) k2 epk n0 n1 ?_
                unfold wpY_send
                refine ys_isRole hr (br_t rfl (fg _ ?_))
                intro c1 c2 c3 c4 c5 c6 hY
                refine nxt _ c1 c2 c3 c4 c5 c6 hY ?_ (fun _ z => absurd fr z) (fun z => absurd z k1)
                intro _ _ M
                exact br_f (by decide) (br_f (by decide) (br_t (by decide) (yto _ c1 c2 c3 c4 c5 c6 M v2 hY (fun z => by omega) (fun _ => br_f n0 (br_f n1 ⟨rfl, Ir _ _ _ _ _ _ M hY⟩)))))
          · refine xs_sendN o2 xP hr hpl ht0 hsk2 hm.1 hpi hpk2 hW ?_ ?_
            · rw [pg_si_r fr rfl]
              split <;> decide
            · unfold wpY_send
              refine ys_isRole hr (br_t rfl (fg _ ?_))
              intro c1 c2 c3 c4 c5 c6 hY
              refine nxt _ c1 c2 c3 c4 c5 c6 hY (fun _ z => absurd z fr) ?_ (fun z => absurd z k1)
              intro _ _ M
              exact br_t rfl ⟨rfl, Ir _ _ _ _ _ _ M hY⟩
      · have hn : ∀ j, ¬ pg_c g r (pr_it (pg_w g) j a) := fun j z => hx ⟨j, z⟩
        refine xs_sendO o2 xP hr hpl ht0 (pr_nv_sk hsk (pg_never o2 o4.1 o4.2.1 r hn)) ?_
        unfold wpY_send
        refine ys_isRole hr (br_t rfl (fg _ ?_))
        intro c1 c2 c3 c4 c5 c6 hY
        exact ys_nextO o2 o3 yP hr o4 hl rfl ea hY hnone hn (fun M => br_f (by decide) (br_t rfl ⟨rfl, Ir _ _ _ _ _ _ M hY⟩))
    · subst eR
      rw [ro_own hA hu, List.map_cons] at hpth
      have kx := hAok x (by simp)
      have kx1 := kx.1
      have kx2 := kx.2.1
      obtain ⟨t, y, ht, hy, hs, hc, hrest, hyk, hcase⟩ := pr_head o2 kx ht0 hpth
      have hlA : A.length < 600 := by
        have := hl6
        rw [List.length_append, List.length_cons] at this
        omega
      have i6 : vp_in (nI A.length) 600 := vp_in_nI hlA (by decide)
      rcases hcase with ⟨p1, p2, p3, p5', p6'⟩ | ⟨p1, p2, p3, p4'⟩
      · have w4 := o4.2.2.2.2.2.2.2 r (ro_q x)
        by_cases full : 4 ≤ ((A ++ x :: C).filter (ro_w r (ro_q x))).length
        · refine xs_sendN o2 xP hr hpl ht0 hs hc hpi hpk2 hW ?_ ?_
          · rw [pg_si_s p2 p3, if_pos full]; decide
          · unfold wpY_send
            refine ys_isRole hr (br_t rfl (fg _ ?_))
            intro c1 c2 c3 c4 c5 c6 hY
            obtain ⟨q1, q2, q3, q4, q5, q6⟩ := hY A.length x yr_here
            refine ys_nextA hr hAok (by omega) rfl hY hA hu (br_f (pr_nneg (by omega) (by decide)) (br_f (pr_nneg (by omega) (by decide)) (br_f (nI_pos (by omega)) ⟨i6, br_t ?_ ?_⟩)))
            · rw [nI_clamp (n := A.length) (by omega), q1, p1]
            · exact ys_57 hr hAok (by omega) rfl hY w4 (fun _ => ⟨rfl, Ir _ _ _ _ _ _ _ hY⟩) (fun z => by omega)
        · obtain ⟨o, ho4, hoo, -, -⟩ := xR.2.2 r (ro_q x) hr kx2
          refine xs_sendM (l := ro_l x) (y := y) o2 xP hr hpl ht0 hs hc hpi hpk2 hW p2 p3 kx2 (by show ((A ++ x :: C).filter (ro_w r (ro_q x))).length < 4; omega) hoo ho4 ⟨p5', p6'⟩ hyk ?_
          unfold wpY_send
          refine ys_isRole hr (br_t rfl (fg _ ?_))
          intro c1 c2 c3 c4 c5 c6 hY
          obtain ⟨q1, q2, q3, q4, q5, q6⟩ := hY A.length x yr_here
          refine ys_nextA hr hAok (by omega) rfl hY hA hu (br_f (pr_nneg (by omega) (by decide)) (br_f (pr_nneg (by omega) (by decide)) (br_f (nI_pos (by omega)) ⟨i6, br_t ?_ ?_⟩)))
          · rw [nI_clamp (n := A.length) (by omega), q1, p1]
          · refine ys_57 hr hAok (by omega) rfl hY w4 (fun z => by omega) (fun z => ⟨rfl, ?_⟩)
            have run2 := pr_run_snd o4 hr hA hu p1 z hy hrest v3
            have ew := ro_snd_w (v := v3) o4.2.2.2.2.1 hAok hr p1 hu
            have ewo : ∀ p' q', ¬ (p' = r ∧ q' = ro_q x) → (A ++ ro_snd x v3 :: C).filter (ro_w p' q') = (A ++ x :: C).filter (ro_w p' q') := fun p' q' hne => ro_snd_wo kx p1 hu hne
            have xR2 := xr_snd (y := y) (w' := w) xR hr kx2 hoo ho4 z ew ewo
            refine ⟨d, m, e, st, g, gx, gp, A ++ ro_snd x v3 :: C, a, w, _, _, la, ⟨o1, o2, o3, run2, ro_snd_B hr o5 kx p1 hu, ?_⟩, xD, xP, xR2, yD, yP, ⟨?_, ea, yr_snd hY v3, hla⟩, by rw [es]⟩
            · have hd := (ro_snd0 kx p1 hu).2
              rw [List.countP_append, List.countP_cons] at f0 ⊢
              have : ro_f (ro_snd x v3) = false := by show (true && ro_d x) = false; rw [hd]; rfl
              rw [this]
              simp only [Bool.false_eq_true, if_false]
              omega
            · rw [List.length_append, List.length_append, List.length_cons, List.length_cons]
      · have nf : pg_f g t ≠ r := by omega
        refine xs_sendN o2 xP hr hpl ht0 hs hc hpi hpk2 hW ?_ ?_
        · rw [pg_si_r nf p4']
          split <;> decide
        · unfold wpY_send
          refine ys_isRole hr (br_t rfl (fg _ ?_))
          intro c1 c2 c3 c4 c5 c6 hY
          obtain ⟨q1, q2, q3, q4, q5, q6⟩ := hY A.length x yr_here
          refine ys_nextA hr hAok (by omega) rfl hY hA hu (br_f (pr_nneg (by omega) (by decide)) (br_f (pr_nneg (by omega) (by decide)) (br_f (nI_pos (by omega)) ⟨i6, br_f ?_ ⟨rfl, Ir _ _ _ _ _ _ _ hY⟩⟩)))
          rw [nI_clamp (n := A.length) (by omega), q1]
          exact fun z => p2 ((nI_eq (by omega) (by omega)).mp z)
end PSB
