section PRX
/-! state and partner -/
theorem pr_nneg {a : Nat} (h : a < 2 ^ 31) {x : Int32} (hx : x < 0) : ¬ nI a = x := by
  intro e
  have h1 := nI_pos (n := a) h
  rw [e] at h1
  exact h1 hx
theorem ro_f_app {R E : List ro_T} (h : ∀ e, e ∈ E → ro_new e) : (R ++ E).countP ro_f = R.countP ro_f := by
  rw [List.countP_append]
  have : E.countP ro_f = 0 := by
    rw [List.countP_eq_zero]
    intro e he
    unfold ro_f
    simp [(h e he).1]
  omega
theorem pg_si_s {g : pg_T} {pk0 : Option Nat} {W : Nat → Nat → Nat} {r t o : Nat} (hf : pg_f g t = r) (ho : pg_o g pk0 r t = o) : pg_si g pk0 W r t = if 4 ≤ W r o then 2 else 1 := by
  unfold pg_si
  rw [if_pos hf, ho]
theorem pg_si_r {g : pg_T} {pk0 : Option Nat} {W : Nat → Nat → Nat} {r t o : Nat} (hf : pg_f g t ≠ r) (ho : pg_o g pk0 r t = o) : pg_si g pk0 W r t = if W o r = 0 then 4 else 3 := by
  unfold pg_si
  rw [if_neg hf, ho]
/-- the run goes on by a message that r meets -/
theorem rl_ext {d : dd_T} {m e : Nat} {st : Nat → Nat} {g : pg_T} {gx : Nat → Nat} {gp : Nat → Option Nat} {R E : List ro_T} {a a' w r k : Nat} {pl : Nat → Nat} {pk : Nat → Option Nat} {y : ro_T} (G : rl_G d m e st g gx gp R a w pl pk) (hr : r < 3) (h0 : ∀ x, x ∈ R → ro_u r x = false) (hk : k + 1 < pg_n g) (eE : E.length = k) (hE : ∀ e, e ∈ E → ro_new e ∧ ro_c r e = false) (hy : ro_new y) (hc : ro_c r y = true) (hrun : pr_run g (R ++ E ++ [y]) a' w pl pk) :
    rl_G d m e st g gx gp (R ++ E ++ [y]) a' w pl pk ∧ (∀ p q, (R ++ E ++ [y]).filter (ro_w p q) = R.filter (ro_w p q)) ∧ (∀ z, z ∈ R ++ E → ro_u r z = false) ∧ ro_u r y = true := by
  obtain ⟨o1, o2, o3, o4, o5, o6⟩ := G
  have h20 := o2.2.1
  have hn : ∀ e, e ∈ E ++ [y] → ro_new e := by
    intro e he
    rcases List.mem_append.mp he with z | z
    · exact (hE e z).1
    · rw [List.mem_singleton] at z; rw [z]; exact hy
  have hu : ro_u r y = true := by rw [ro_new_u hy]; exact hc
  refine ⟨⟨o1, o2, o3, hrun, ?_, ?_⟩, ?_, ?_, hu⟩
  · rw [List.append_assoc]
    exact ro_app_B o5 hr h0 (by rw [List.length_append, List.length_singleton, eE]; omega) hu
  · rw [List.append_assoc, ro_f_app hn]
    exact o6
  · intro p q
    rw [List.append_assoc, ro_app_w hn]
  · intro z hz
    rcases List.mem_append.mp hz with c | c
    · exact h0 z c
    · rw [ro_new_u (hE z c).1]; exact (hE z c).2
theorem i_vc_state {k : Nat} {u : SX} {v : SY} (I : i_Rel k u v) (hk : k + 4 ≤ 2048) (v1 : Int32) : wpX_state (fun r => wpY_state (fun r' v' => r' = r ∧ i_Rel (k + 4) u v') v v1) u v1 := by
  obtain ⟨f_draftCount, f_stackCount, f_termCount, f_root, f_sentCount, f_walkedFrom, a_draftKind, a_draftFrom, a_draftTo, a_draftNumber, a_draftFirst, a_draftSecond, a_draftParent, a_stack, a_kind, a_from, a_to, a_number, a_first, a_second, a_place, a_picked, a_lastGot, a_oldest, a_waiting, a_slotLabel, a_slotValue⟩ := u
  obtain ⟨z_made, z_depth, z_size, z_rows, z_at, z_sendings, y_sorts, y_froms, y_tos, y_labels, y_firsts, y_seconds, y_around, y_stack, y_senders, y_receivers, y_told, y_values, y_isSent, y_isReceived, y_last, y_met⟩ := v
  have I0 := I
  obtain ⟨d, m, e, st, g, gx, gp, R, a, w, pl, pk, la, G, xD, xP, xR, yD, yP, yR, es⟩ := I
  have G0 := G
  obtain ⟨o1, o2, o3, o4, o5, o6⟩ := G
  have hAok := o4.2.2.2.2.2.1
  have hl6 := ro_585 hAok o5 o4.2.2.2.2.2.2.2 o6
  have h20 := o2.2.1
  rcases pr_role v1 with h | ⟨r, hr, e1⟩
  · unfold wpX_state wpY_state
    exact xs_noRole h (br_t rfl (ys_noRole h (br_f (by decide) ⟨rfl, I0⟩)))
  · subst e1
    have hW : ∀ p q, p < 3 → q < 3 → a_waiting (p * 3 + q) = nI ((fun p q => (R.filter (ro_w p q)).length) p q) ∧ (fun p q => (R.filter (ro_w p q)).length) p q ≤ 4 := by
      intro p q hp hq
      obtain ⟨o, -, -, hw, -⟩ := xR.2.2 p q hp hq
      exact ⟨hw, o4.2.2.2.2.2.2.2 p q⟩
    obtain ⟨hpl, hpi, -⟩ := xR.2.1 r hr
    obtain ⟨ht0, hpth⟩ := o4.2.2.2.2.2.2.1 r hr
    have hpk2 : ∀ c, pk r = some c → c < 2 := fun c ec => by rw [ec] at hpth; exact pr_pth_pk hpth
    rcases ro_split r R with hnone | ⟨A, x, C, eR, hA, hu⟩
    · rw [ro_fil0 hnone] at hpth
      obtain ⟨epk, hsk⟩ := hpth
      have hl := ro_565 hr hAok o5 o4.2.2.2.2.2.2.2 o6 hnone
      by_cases hx : ∃ j, pg_c g r (pr_it (pg_w g) j a)
      · obtain ⟨j, hm⟩ := pg_meet o2 o4.1 o4.2.1 r hx
        have htl := pg_itlt o2 o4.1 j
        refine xs_state o2 xP hr hpl ht0 (pr_sk_tr hsk hm.2.2.2.2) hm.1 hpi hpk2 hW ?_
        unfold wpY_state
        refine ys_isRole hr (br_t rfl (ys_nextM o2 o3 yP hr o4 hl yR.1 yR.2.1 yR.2.2.1 hnone hm ?_ ?_ ?_))
        · intro k2 fr M
          refine br_f (by decide) (br_f (by decide) (br_t (by decide) (br_t rfl ?_)))
          have ho : pg_o g (pk r) r (pr_it (pg_w g) j a) = pr_les r := by
            unfold pg_o
            rw [if_pos fr, if_neg (by omega), if_pos epk]
          rw [pg_si_s fr ho]
          refine ys_lesser hr ?_
          unfold wY_state_80
          refine ys_counted hr (pr_les_ok hr).1 hAok (by omega) yR.1 yR.2.2.1 ?_
          have w4 := o4.2.2.2.2.2.2.2 r (pr_les r)
          refine pk_le 4 (R.filter (ro_w r (pr_les r))).length (fun c => ⟨?_, rl_met I0 M⟩) (fun c => ⟨?_, rl_met I0 M⟩)
          · rw [if_pos c]; rfl
          · rw [if_neg (by omega)]; rfl
        · intro k2 fr M
          have ho : pg_o g (pk r) r (pr_it (pg_w g) j a) = pg_f g (pr_it (pg_w g) j a) := by
            unfold pg_o
            rw [if_neg fr]
          rw [pg_si_r fr ho]
          refine br_f (by decide) (br_t rfl ⟨?_, rl_met I0 M⟩)
          rw [if_pos (by show (R.filter (ro_w _ r)).length = 0; rw [ro_none_w hnone]; rfl)]
          rfl
        · intro k1 E v d1 d2 d3 d5 d6 M eE hE hrun hY
          have cf := pg_cf o2 htl hm.1
          have hft : pg_f g (pr_it (pg_w g) j a) = r ∨ pg_t g (pr_it (pg_w g) j a) = r := by
            rcases hm.1 with z | ⟨-, z⟩
            · omega
            · exact z
          obtain ⟨G1, hwe, hun, huy⟩ := rl_ext G0 hr hnone hm.2.2.1 eE hE ⟨rfl, rfl⟩ (by show (pg_f g (pr_it (pg_w g) j a) == r || pg_t g (pr_it (pg_w g) j a) == r) = true; simpa using hft) hrun
          have hlen : (R ++ E ++ [((pg_f g (pr_it (pg_w g) j a), pg_t g (pr_it (pg_w g) j a), pg_l g (pr_it (pg_w g) j a), v, false, false) : ro_T)]).length = R.length + j + 1 := by
            rw [List.length_append, List.length_append, eE]; rfl
          have I1 : i_Rel (k + 4) (f_draftCount, f_stackCount, f_termCount, f_root, f_sentCount, f_walkedFrom, a_draftKind, a_draftFrom, a_draftTo, a_draftNumber, a_draftFirst, a_draftSecond, a_draftParent, a_stack, a_kind, a_from, a_to, a_number, a_first, a_second, a_place, a_picked, a_lastGot, a_oldest, a_waiting, a_slotLabel, a_slotValue) (z_made, z_depth, z_size, nI (R.length + j + 1), nI (pg_w g (pr_it (pg_w g) j a)), z_sendings, y_sorts, y_froms, y_tos, y_labels, y_firsts, y_seconds, y_around, y_stack, d1, d2, d3, y_values, d5, d6, y_last, M) :=
            ⟨d, m, e, st, g, gx, gp, _, _, w, pl, pk, la, G1, xD, xP, ⟨xR.1, xR.2.1, pr_ring_eq xR.2.2 hwe⟩, yD, yP, ⟨by rw [hlen], rfl, hY, yR.2.2.2⟩, es⟩
          obtain ⟨q1, q2, q3, q4, q5, q6⟩ := hY (R.length + j) (pg_f g (pr_it (pg_w g) j a), pg_t g (pr_it (pg_w g) j a), pg_l g (pr_it (pg_w g) j a), v, false, false) (by
            have := yr_here (A := R ++ E) (C := []) (x := (pg_f g (pr_it (pg_w g) j a), pg_t g (pr_it (pg_w g) j a), pg_l g (pr_it (pg_w g) j a), v, false, false))
            rw [List.length_append, eE] at this
            exact this)
          have i6 : vp_in (nI (R.length + j)) 600 := vp_in_nI (by omega) (by decide)
          refine br_f (pr_nneg (by omega) (by decide)) (br_f (pr_nneg (by omega) (by decide)) (br_f (nI_pos (by omega)) ⟨i6, ?_⟩))
          dsimp only
          rw [nI_clamp (n := R.length + j) (by omega), q2, q5]
          have c1 := cf.1
          have c2 := cf.2 k1
          refine pk_eq (pg_t g (pr_it (pg_w g) j a)) r (fun c => ⟨i6, br_t rfl ⟨?_, I1⟩⟩) (fun c => br_f (pr_nneg (by omega) (by decide)) ⟨i6, ?_⟩) rfl rfl
          · have nf : pg_f g (pr_it (pg_w g) j a) ≠ r := by omega
            have ho : pg_o g (pk r) r (pr_it (pg_w g) j a) = pg_f g (pr_it (pg_w g) j a) := by
              unfold pg_o
              rw [if_neg nf]
            rw [pg_si_r nf ho, if_pos (by show (R.filter (ro_w _ r)).length = 0; rw [ro_none_w hnone]; rfl)]
            rfl
          · have fr : pg_f g (pr_it (pg_w g) j a) = r := by omega
            have ho : pg_o g (pk r) r (pr_it (pg_w g) j a) = pg_t g (pr_it (pg_w g) j a) := by
              unfold pg_o
              rw [if_pos fr, if_pos k1]
            rw [pg_si_s fr ho, nI_clamp (n := R.length + j) (by omega), q2]
            unfold wY_state_80
            refine ys_counted hr c2.1 G1.2.2.2.1.2.2.2.2.2.1 (by rw [hlen]; omega) (by rw [hlen]) hY ?_
            have w4 := o4.2.2.2.2.2.2.2 r (pg_t g (pr_it (pg_w g) j a))
            rw [hwe]
            refine pk_le 4 (R.filter (ro_w r (pg_t g (pr_it (pg_w g) j a)))).length (fun c => ⟨?_, I1⟩) (fun c => ⟨?_, I1⟩)
            · rw [if_pos c]; rfl
            · rw [if_neg (by omega)]; rfl
      · have hn : ∀ j, ¬ pg_c g r (pr_it (pg_w g) j a) := fun j z => hx ⟨j, z⟩
        refine xs_stateO o2 xP hr hpl ht0 (pr_nv_sk hsk (pg_never o2 o4.1 o4.2.1 r hn)) ?_
        unfold wpY_state
        exact ys_isRole hr (br_t rfl (ys_nextO o2 o3 yP hr o4 hl yR.1 yR.2.1 yR.2.2.1 hnone hn (fun M => br_t rfl ⟨rfl, rl_met I0 M⟩)))
    · subst eR
      rw [ro_own hA hu, List.map_cons] at hpth
      have kx := hAok x (by simp)
      obtain ⟨t, y, ht, hy, hs, hc, -, -, hcase⟩ := pr_head o2 kx ht0 hpth
      refine xs_state o2 xP hr hpl ht0 hs hc hpi hpk2 hW ?_
      unfold wpY_state
      have hlA : A.length < 600 := by
        have := hl6
        rw [List.length_append, List.length_cons] at this
        omega
      refine ys_isRole hr (br_t rfl (ys_nextA hr hAok (by omega) yR.1 yR.2.2.1 hA hu ?_))
      obtain ⟨q1, q2, q3, q4, q5, q6⟩ := yR.2.2.1 A.length x yr_here
      have i6 : vp_in (nI A.length) 600 := vp_in_nI hlA (by decide)
      have kx1 := kx.1
      have kx2 := kx.2.1
      refine br_f (pr_nneg (by omega) (by decide)) (br_f (pr_nneg (by omega) (by decide)) (br_f (nI_pos (by omega)) ⟨i6, ?_⟩))
      dsimp only
      rw [nI_clamp (n := A.length) (by omega), q2, q5]
      rcases hcase with ⟨p1, p2, p3, -⟩ | ⟨p1, p2, p3, p4⟩
      · rw [pg_si_s p2 p3]
        have nq : ro_q x ≠ r := fun z => kx.2.2.1 (by omega)
        refine br_f (fun z => nq ((nI_eq (by omega) (by omega)).mp z)) (br_f (pr_nneg (by omega) (by decide)) ⟨i6, ?_⟩)
        rw [nI_clamp (n := A.length) (by omega), q2]
        unfold wY_state_80
        refine ys_counted hr kx2 hAok (by omega) yR.1 yR.2.2.1 ?_
        have w4 := o4.2.2.2.2.2.2.2 r (ro_q x)
        refine pk_le 4 ((A ++ x :: C).filter (ro_w r (ro_q x))).length (fun c => ⟨?_, I0⟩) (fun c => ⟨?_, I0⟩)
        · rw [if_pos c]; rfl
        · rw [if_neg (by omega)]; rfl
      · have nf : pg_f g t ≠ r := by omega
        rw [pg_si_r nf p4]
        refine br_t (by rw [p1]) ⟨i6, ?_⟩
        have hrw := ro_rcv_w o4.2.2.2.2.1 hAok hA p1 hu
        cases hsx : ro_s x
        · refine br_t rfl ⟨?_, I0⟩
          rw [if_pos (by show ((A ++ x :: C).filter (ro_w (ro_p x) r)).length = 0; rw [hrw.2 hsx]; rfl)]
          rfl
        · refine br_f (by decide) ⟨?_, I0⟩
          rw [if_neg (by show ¬ ((A ++ x :: C).filter (ro_w (ro_p x) r)).length = 0; rw [hrw.1 hsx, List.length_cons]; omega)]
          rfl
end PRX
