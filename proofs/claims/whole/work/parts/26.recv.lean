section PRZ
/-! receive -/
theorem ro_fk0 (R : List ro_T) : (R.filter ro_k).countP ro_f = 0 := by
  rw [List.countP_eq_zero]
  intro x hx
  have := (List.mem_filter.mp hx).2
  unfold ro_k at this
  intro z
  unfold ro_f at z
  rw [z] at this
  exact absurd this (by decide)
theorem pg_si4 {g : pg_T} {pk0 : Option Nat} {W : Nat → Nat → Nat} {r t : Nat} : pg_si g pk0 W r t ≤ 4 := by
  unfold pg_si
  split <;> split <;> omega
section
variable {f_draftCount f_stackCount f_termCount f_root f_sentCount f_walkedFrom : Int32} {a_draftKind a_draftFrom a_draftTo a_draftNumber a_draftFirst a_draftSecond a_draftParent a_stack a_kind a_from a_to a_number a_first a_second a_place a_picked a_lastGot a_oldest a_waiting a_slotLabel a_slotValue : Nat → Int32} {g : pg_T}
theorem xs_recvN {post : Int32 → SX → Prop} {r t0 t : Nat} {pk0 : Option Nat} {W : Nat → Nat → Nat} (ok : pg_ok g) (P : xr_P g f_termCount f_root a_kind a_from a_to a_number a_first a_second) (hr : r < 3) (hpl : a_place r = nI t0) (ht0 : t0 < pg_n g) (hs : pr_sk (pg_c g r) (pg_1 g) t0 t) (hc : pg_c g r t) (hp : a_picked r = pr_oI pk0) (hpk : ∀ c, pk0 = some c → c < 2)
    (hw : ∀ p q, p < 3 → q < 3 → a_waiting (p * 3 + q) = nI (W p q) ∧ W p q ≤ 4) (hne : pg_si g pk0 W r t ≠ 3) (h : post (-4) (f_draftCount, f_stackCount, f_termCount, f_root, f_sentCount, f_walkedFrom, a_draftKind, a_draftFrom, a_draftTo, a_draftNumber, a_draftFirst, a_draftSecond, a_draftParent, a_stack, a_kind, a_from, a_to, a_number, a_first, a_second, a_place, a_picked, a_lastGot, a_oldest, a_waiting, a_slotLabel, a_slotValue)) : wpX_receive post (f_draftCount, f_stackCount, f_termCount, f_root, f_sentCount, f_walkedFrom, a_draftKind, a_draftFrom, a_draftTo, a_draftNumber, a_draftFirst, a_draftSecond, a_draftParent, a_stack, a_kind, a_from, a_to, a_number, a_first, a_second, a_place, a_picked, a_lastGot, a_oldest, a_waiting, a_slotLabel, a_slotValue) (nI r) := by
  have ht := pr_sk_lt ok ht0 hs
  have h20 := ok.2.1
  have h4 := pg_si4 (g := g) (pk0 := pk0) (W := W) (r := r) (t := t)
  unfold wpX_receive
  refine xs_isRole hr (br_f (by decide) (xs_nextTerm ok P hr hpl ht0 hs hc (br_f (pr_nm1 (by omega)) (xs_situation ok P ht hr hc hp hpk hw (br_f ?_ h)))))
  intro z
  exact hne ((nI_eq (b := 3) (by omega) (by decide)).mp z)
theorem xs_recvO {post : Int32 → SX → Prop} {r t0 : Nat} (ok : pg_ok g) (P : xr_P g f_termCount f_root a_kind a_from a_to a_number a_first a_second) (hr : r < 3) (hpl : a_place r = nI t0) (ht0 : t0 < pg_n g) (hn : ∀ j, ¬ pg_c g r (pr_it (pg_1 g) j t0)) (h : post (-4) (f_draftCount, f_stackCount, f_termCount, f_root, f_sentCount, f_walkedFrom, a_draftKind, a_draftFrom, a_draftTo, a_draftNumber, a_draftFirst, a_draftSecond, a_draftParent, a_stack, a_kind, a_from, a_to, a_number, a_first, a_second, a_place, a_picked, a_lastGot, a_oldest, a_waiting, a_slotLabel, a_slotValue)) : wpX_receive post (f_draftCount, f_stackCount, f_termCount, f_root, f_sentCount, f_walkedFrom, a_draftKind, a_draftFrom, a_draftTo, a_draftNumber, a_draftFirst, a_draftSecond, a_draftParent, a_stack, a_kind, a_from, a_to, a_number, a_first, a_second, a_place, a_picked, a_lastGot, a_oldest, a_waiting, a_slotLabel, a_slotValue) (nI r) := by
  unfold wpX_receive
  exact xs_isRole hr (br_f (by decide) (xs_nowhere ok P hr hpl ht0 hn (br_t rfl h)))
theorem xs_recvY {post : Int32 → SX → Prop} {r t0 t p o n y : Nat} {pk0 : Option Nat} {W : Nat → Nat → Nat} (ok : pg_ok g) (P : xr_P g f_termCount f_root a_kind a_from a_to a_number a_first a_second) (hr : r < 3) (hpl : a_place r = nI t0) (ht0 : t0 < pg_n g) (hs : pr_sk (pg_c g r) (pg_1 g) t0 t) (hc : pg_c g r t) (hp : a_picked r = pr_oI pk0) (hpk : ∀ c, pk0 = some c → c < 2)
    (hw : ∀ p q, p < 3 → q < 3 → a_waiting (p * 3 + q) = nI (W p q) ∧ W p q ≤ 4) (he : pg_si g pk0 W r t = 3) (hf : pg_f g t = p) (hp3 : p < 3) (ho : a_oldest (p * 3 + r) = nI o) (ho4 : o < 4) (hn : a_waiting (p * 3 + r) = nI (n + 1)) (hn4 : n < 4)
    (hy : pg_k g t = 1 ∧ y = pg_1 g t ∨ pg_k g t = 2 ∧ ∃ c, c < 2 ∧ a_slotLabel ((p * 3 + r) * 4 + o) = nI c ∧ y = pg_b g t c)
    (h : post (a_slotLabel ((p * 3 + r) * 4 + o)) (f_draftCount, f_stackCount, f_termCount, f_root, f_sentCount, f_walkedFrom, a_draftKind, a_draftFrom, a_draftTo, a_draftNumber, a_draftFirst, a_draftSecond, a_draftParent, a_stack, a_kind, a_from, a_to, a_number, a_first, a_second, upd a_place r (nI y), upd a_picked r (-1), upd a_lastGot r (a_slotValue ((p * 3 + r) * 4 + o)), upd a_oldest (p * 3 + r) (nI ((o + 1) % 4)), upd a_waiting (p * 3 + r) (nI n), a_slotLabel, a_slotValue)) : wpX_receive post (f_draftCount, f_stackCount, f_termCount, f_root, f_sentCount, f_walkedFrom, a_draftKind, a_draftFrom, a_draftTo, a_draftNumber, a_draftFirst, a_draftSecond, a_draftParent, a_stack, a_kind, a_from, a_to, a_number, a_first, a_second, a_place, a_picked, a_lastGot, a_oldest, a_waiting, a_slotLabel, a_slotValue) (nI r) := by
  have ht := pr_sk_lt ok ht0 hs
  have h20 := ok.2.1
  obtain ⟨i20, ek, ef, et, el, e1, e2⟩ := xr_at ok P ht
  unfold wpX_receive
  refine xs_isRole hr (br_f (by decide) (xs_nextTerm ok P hr hpl ht0 hs hc (br_f (pr_nm1 (by omega)) (xs_situation ok P ht hr hc hp hpk hw (br_t ?_ ⟨i20, ?_⟩)))))
  · rw [he]; rfl
  · rw [ef, hf]
    refine xs_takeOffWay hp3 hr ho ho4 hn hn4 (xs_goOn hr ?_ h)
    intro Q hQ
    rcases hy with ⟨k1, ey⟩ | ⟨k2, c, hc2, el2, ey⟩
    · rw [ey] at hQ
      exact xs_followm ok P ht k1 hQ
    · rw [ey] at hQ
      rw [el2]
      exact xs_following ok P ht k2 hc2 hQ
end
theorem i_vc_receive {k : Nat} {u : SX} {v : SY} (I : i_Rel k u v) (hk : k + 4 ≤ 2048) (v1 : Int32) : wpX_receive (fun r u' => wpY_receive (fun r' v' => r' = r ∧ i_Rel (k + 4) u' v') v v1) u v1 := by
  obtain ⟨f_draftCount, f_stackCount, f_termCount, f_root, f_sentCount, f_walkedFrom, a_draftKind, a_draftFrom, a_draftTo, a_draftNumber, a_draftFirst, a_draftSecond, a_draftParent, a_stack, a_kind, a_from, a_to, a_number, a_first, a_second, a_place, a_picked, a_lastGot, a_oldest, a_waiting, a_slotLabel, a_slotValue⟩ := u
  obtain ⟨z_made, z_depth, z_size, z_rows, z_at, z_sendings, y_sorts, y_froms, y_tos, y_labels, y_firsts, y_seconds, y_around, y_stack, y_senders, y_receivers, y_told, y_values, y_isSent, y_isReceived, y_last, y_met⟩ := v
  have I0 := I
  obtain ⟨d, m, e, st, g, gx, gp, R0, a, w, pl, pk, la, ⟨o1, o2, o3, p4, p5, p6⟩, xD, xP, xR0, yD, yP, yR0, es⟩ := I
  have h20 := o2.2.1
  have hl0 := ro_585 p4.2.2.2.2.2.1 p5 p4.2.2.2.2.2.2.2 p6
  rcases pr_role v1 with h | ⟨r, hr, e1⟩
  · unfold wpX_receive wpY_receive
    exact xs_noRole h (br_t rfl (ys_noRole h (br_f (by decide) ⟨rfl, I0⟩)))
  · subst e1
    -- what is done is forgotten
    have o4 := pr_run_fg p4
    have o5 := ro_fB p4.2.2.2.2.1 p4.2.2.2.2.2.1 p5
    have f0 := ro_fk0 R0
    have xR : xr_R (R0.filter ro_k) w pl pk la f_walkedFrom a_place a_picked a_lastGot a_oldest a_waiting a_slotLabel a_slotValue := ⟨xR0.1, xR0.2.1, pr_ring_eq xR0.2.2 (fun p q => ro_fw p q R0)⟩
    have fg : ∀ (post : SY → Prop), (∀ c1 c2 c3 c4 c5 c6 : Nat → Int32, yr_ok (R0.filter ro_k) c1 c2 c3 c4 c5 c6 → post (z_made, z_depth, z_size, nI (R0.filter ro_k).length, z_at, z_sendings, y_sorts, y_froms, y_tos, y_labels, y_firsts, y_seconds, y_around, y_stack, c1, c2, c3, c4, c5, c6, y_last, y_met)) → wpY_forget post (z_made, z_depth, z_size, z_rows, z_at, z_sendings, y_sorts, y_froms, y_tos, y_labels, y_firsts, y_seconds, y_around, y_stack, y_senders, y_receivers, y_told, y_values, y_isSent, y_isReceived, y_last, y_met) := fun post h => ys_forget (by omega) yR0.1 yR0.2.2.1 h
    have ea := yR0.2.1
    have hla := yR0.2.2.2
    generalize R0.filter ro_k = R at o4 o5 f0 xR fg
    have o6 : R.countP ro_f ≤ 1 := by omega
    have G0 : rl_G d m e st g gx gp R a w pl pk := ⟨o1, o2, o3, o4, o5, o6⟩
    have hAok := o4.2.2.2.2.2.1
    have hl6 := ro_585 hAok o5 o4.2.2.2.2.2.2.2 o6
    have hW : ∀ p q, p < 3 → q < 3 → a_waiting (p * 3 + q) = nI ((fun p q => (R.filter (ro_w p q)).length) p q) ∧ (fun p q => (R.filter (ro_w p q)).length) p q ≤ 4 := by
      intro p q hp hq
      obtain ⟨o, -, -, hw, -⟩ := xR.2.2 p q hp hq
      exact ⟨hw, o4.2.2.2.2.2.2.2 p q⟩
    obtain ⟨hpl, hpi, -⟩ := xR.2.1 r hr
    obtain ⟨ht0, hpth⟩ := o4.2.2.2.2.2.2.1 r hr
    have hpk2 : ∀ c, pk r = some c → c < 2 := fun c ec => by rw [ec] at hpth; exact pr_pth_pk hpth
    have Ir : ∀ (c1 c2 c3 c4 c5 c6 M : Nat → Int32), yr_ok R c1 c2 c3 c4 c5 c6 → i_Rel (k + 4) (f_draftCount, f_stackCount, f_termCount, f_root, f_sentCount, f_walkedFrom, a_draftKind, a_draftFrom, a_draftTo, a_draftNumber, a_draftFirst, a_draftSecond, a_draftParent, a_stack, a_kind, a_from, a_to, a_number, a_first, a_second, a_place, a_picked, a_lastGot, a_oldest, a_waiting, a_slotLabel, a_slotValue) (z_made, z_depth, z_size, nI R.length, z_at, z_sendings, y_sorts, y_froms, y_tos, y_labels, y_firsts, y_seconds, y_around, y_stack, c1, c2, c3, c4, c5, c6, y_last, M) := fun c1 c2 c3 c4 c5 c6 M hY =>
      ⟨d, m, e, st, g, gx, gp, R, a, w, pl, pk, la, G0, xD, xP, xR, yD, yP, ⟨rfl, ea, hY, hla⟩, es⟩
    rcases ro_split r R with hnone | ⟨A, x, C, eR, hA, hu⟩
    · rw [ro_fil0 hnone] at hpth
      obtain ⟨epk, hsk⟩ := hpth
      have hl := ro_565 hr hAok o5 o4.2.2.2.2.2.2.2 o6 hnone
      by_cases hx : ∃ j, pg_c g r (pr_it (pg_w g) j a)
      · obtain ⟨j, hm⟩ := pg_meet o2 o4.1 o4.2.1 r hx
        have htl := pg_itlt o2 o4.1 j
        have hne : pg_si g (pk r) (fun p q => (R.filter (ro_w p q)).length) r (pr_it (pg_w g) j a) ≠ 3 := by
          by_cases fr : pg_f g (pr_it (pg_w g) j a) = r
          · rw [pg_si_s fr rfl]
            split <;> decide
          · rw [pg_si_r fr rfl, if_pos (by show (R.filter (ro_w _ r)).length = 0; rw [ro_none_w hnone]; rfl)]
            decide
        refine xs_recvN o2 xP hr hpl ht0 (pr_sk_tr hsk hm.2.2.2.2) hm.1 hpi hpk2 hW hne ?_
        unfold wpY_receive
        refine ys_isRole hr (br_t rfl (fg _ ?_))
        intro c1 c2 c3 c4 c5 c6 hY
        refine ys_nextM o2 o3 yP hr o4 hl rfl ea hY hnone hm ?_ ?_ ?_
        · intro k2 fr M
          exact br_t (by decide) ⟨rfl, Ir _ _ _ _ _ _ M hY⟩
        · intro k2 fr M
          exact br_t (by decide) ⟨rfl, Ir _ _ _ _ _ _ M hY⟩
        · intro k1 E v d1 d2 d3 d5 d6 M eE hE hrun hY1
          have cf := pg_cf o2 htl hm.1
          have hft : pg_f g (pr_it (pg_w g) j a) = r ∨ pg_t g (pr_it (pg_w g) j a) = r := by
            rcases hm.1 with z | ⟨-, z⟩
            · omega
            · exact z
          obtain ⟨G1, hwe, hun, huy⟩ := rl_ext G0 hr hnone hm.2.2.1 eE hE ⟨rfl, rfl⟩ (by show (pg_f g (pr_it (pg_w g) j a) == r || pg_t g (pr_it (pg_w g) j a) == r) = true; simpa using hft) hrun
          have hlen : (R ++ E ++ [((pg_f g (pr_it (pg_w g) j a), pg_t g (pr_it (pg_w g) j a), pg_l g (pr_it (pg_w g) j a), v, false, false) : ro_T)]).length = R.length + j + 1 := by
            rw [List.length_append, List.length_append, eE]; rfl
          have I1 : i_Rel (k + 4) (f_draftCount, f_stackCount, f_termCount, f_root, f_sentCount, f_walkedFrom, a_draftKind, a_draftFrom, a_draftTo, a_draftNumber, a_draftFirst, a_draftSecond, a_draftParent, a_stack, a_kind, a_from, a_to, a_number, a_first, a_second, a_place, a_picked, a_lastGot, a_oldest, a_waiting, a_slotLabel, a_slotValue) (z_made, z_depth, z_size, nI (R.length + j + 1), nI (pg_w g (pr_it (pg_w g) j a)), z_sendings, y_sorts, y_froms, y_tos, y_labels, y_firsts, y_seconds, y_around, y_stack, d1, d2, d3, c4, d5, d6, y_last, M) :=
            ⟨d, m, e, st, g, gx, gp, _, _, w, pl, pk, la, G1, xD, xP, ⟨xR.1, xR.2.1, pr_ring_eq xR.2.2 hwe⟩, yD, yP, ⟨by rw [hlen], rfl, hY1, hla⟩, es⟩
          obtain ⟨q1, q2, q3, q4, q5, q6⟩ := hY1 (R.length + j) (pg_f g (pr_it (pg_w g) j a), pg_t g (pr_it (pg_w g) j a), pg_l g (pr_it (pg_w g) j a), v, false, false) (by
            have := yr_here (A := R ++ E) (C := []) (x := (pg_f g (pr_it (pg_w g) j a), pg_t g (pr_it (pg_w g) j a), pg_l g (pr_it (pg_w g) j a), v, false, false))
            rw [List.length_append, eE] at this
            exact this)
          have i6 : vp_in (nI (R.length + j)) 600 := vp_in_nI (by omega) (by decide)
          refine br_f (nI_pos (by omega)) ⟨i6, ?_⟩
          dsimp only
          rw [nI_clamp (n := R.length + j) (by omega), q2, q5]
          have c2' := cf.2 k1
          exact pk_eq (pg_t g (pr_it (pg_w g) j a)) r (fun c => ⟨i6, br_t rfl ⟨rfl, I1⟩⟩) (fun c => ⟨rfl, I1⟩) rfl rfl
      · have hn : ∀ j, ¬ pg_c g r (pr_it (pg_w g) j a) := fun j z => hx ⟨j, z⟩
        refine xs_recvO o2 xP hr hpl ht0 (pr_nv_sk hsk (pg_never o2 o4.1 o4.2.1 r hn)) ?_
        unfold wpY_receive
        refine ys_isRole hr (br_t rfl (fg _ ?_))
        intro c1 c2 c3 c4 c5 c6 hY
        exact ys_nextO o2 o3 yP hr o4 hl rfl ea hY hnone hn (fun M => br_t (by decide) ⟨rfl, Ir _ _ _ _ _ _ M hY⟩)
    · subst eR
      rw [ro_own hA hu, List.map_cons] at hpth
      have kx := hAok x (by simp)
      have kx1 := kx.1
      have kx2 := kx.2.1
      obtain ⟨t, y, ht, hy, hs, hc, hrest, hyk, hcase⟩ := pr_head o2 kx ht0 hpth
      have hlA : A.length < 600 := by
        have := hl6
        rw [List.length_append, List.length_cons] at this
        omega
      have i6 : vp_in (nI A.length) 600 := vp_in_nI hlA (by decide)
      rcases hcase with ⟨p1, p2, p3, -⟩ | ⟨p1, p2, p3, p4'⟩
      · have hne : pg_si g (pk r) (fun p q => ((A ++ x :: C).filter (ro_w p q)).length) r t ≠ 3 := by
          rw [pg_si_s p2 rfl]
          split <;> decide
        refine xs_recvN o2 xP hr hpl ht0 hs hc hpi hpk2 hW hne ?_
        unfold wpY_receive
        refine ys_isRole hr (br_t rfl (fg _ ?_))
        intro c1 c2 c3 c4 c5 c6 hY
        obtain ⟨q1, q2, q3, q4, q5, q6⟩ := hY A.length x yr_here
        have nq : ro_q x ≠ r := fun z => kx.2.2.1 (by omega)
        refine ys_nextA hr hAok (by omega) rfl hY hA hu (br_f (nI_pos (by omega)) ⟨i6, br_f ?_ ⟨rfl, Ir _ _ _ _ _ _ _ hY⟩⟩)
        rw [nI_clamp (n := A.length) (by omega), q2]
        exact fun z => nq ((nI_eq (by omega) (by omega)).mp z)
      · have nf : pg_f g t ≠ r := by omega
        have hrw := ro_rcv_w o4.2.2.2.2.1 hAok hA p1 hu
        cases hsx : ro_s x
        · have hne : pg_si g (pk r) (fun p q => ((A ++ x :: C).filter (ro_w p q)).length) r t ≠ 3 := by
            rw [pg_si_r nf p4', if_pos (by show ((A ++ x :: C).filter (ro_w (ro_p x) r)).length = 0; rw [hrw.2 hsx]; rfl)]
            decide
          refine xs_recvN o2 xP hr hpl ht0 hs hc hpi hpk2 hW hne ?_
          unfold wpY_receive
          refine ys_isRole hr (br_t rfl (fg _ ?_))
          intro c1 c2 c3 c4 c5 c6 hY
          obtain ⟨q1, q2, q3, q4, q5, q6⟩ := hY A.length x yr_here
          refine ys_nextA hr hAok (by omega) rfl hY hA hu (br_f (nI_pos (by omega)) ⟨i6, br_t ?_ ⟨i6, br_t ?_ ⟨rfl, Ir _ _ _ _ _ _ _ hY⟩⟩⟩)
          · rw [nI_clamp (n := A.length) (by omega), q2, p1]
          · rw [nI_clamp (n := A.length) (by omega), q5, hsx]; rfl
        · have ewx := hrw.1 hsx
          have he3 : pg_si g (pk r) (fun p q => ((A ++ x :: C).filter (ro_w p q)).length) r t = 3 := by
            rw [pg_si_r nf p4', if_neg (by show ¬ ((A ++ x :: C).filter (ro_w (ro_p x) r)).length = 0; rw [ewx, List.length_cons]; omega)]
          obtain ⟨o, ho4, ho, hwo, -⟩ := xR.2.2 (ro_p x) r kx1 hr
          have hcap := o4.2.2.2.2.2.2.2 (ro_p x) r
          rw [ewx, List.length_cons] at hcap hwo
          have hro : ∀ p' q', ¬ (p' = ro_p x ∧ q' = r) → (A ++ ro_rcv x :: C).filter (ro_w p' q') = (A ++ x :: C).filter (ro_w p' q') := fun p' q' hne => ro_rcv_wo p1 hne
          obtain ⟨ring, esl, esv⟩ := pr_ring_pop xR.2.2 kx1 hr ho ho4 ewx hro
          refine xs_recvY o2 xP hr hpl ht0 hs hc hpi hpk2 hW he3 p3 kx1 ho ho4 hwo (by omega) (by rw [esl]; exact hyk) ?_
          unfold wpY_receive
          refine ys_isRole hr (br_t rfl (fg _ ?_))
          intro c1 c2 c3 c4 c5 c6 hY
          obtain ⟨q1, q2, q3, q4, q5, q6⟩ := hY A.length x yr_here
          refine ys_nextA hr hAok (by omega) rfl hY hA hu (br_f (nI_pos (by omega)) ⟨i6, ?_⟩)
          dsimp only
          rw [nI_clamp (n := A.length) (by omega), nI_clamp (n := r) (by omega), q2, q3, q4, q5, p1, hsx, show vp_nar .boolean 1 = 1 from pr_bIn true]
          refine br_t rfl ⟨i6, br_f (by decide) ⟨i6, nm_e ⟨i6, vp_in_nI hr (by decide), nm_e ⟨i6, esl.symm, ?_⟩⟩⟩⟩
          have run2 := pr_run_rcv o4 hr hA hu p1 hsx hy hrest
          have fA : A.countP ro_f = 0 ∧ C.countP ro_f = 0 := by
            rw [List.countP_append, List.countP_cons] at f0
            omega
          refine ⟨d, m, e, st, g, gx, gp, A ++ ro_rcv x :: C, a, w, pr_fu pl r y, pr_fu pk r none, pr_fu la r (ro_v x), ⟨o1, o2, o3, run2, ro_rcv_B o5 run2.2.2.2.2.1 run2.2.2.2.2.2.1 hsx, ?_⟩, xD, xP, ⟨xR.1, ?_, ring⟩, yD, yP, ⟨?_, ea, yr_rcv hY, ?_⟩, es⟩
          · rw [List.countP_append, List.countP_cons, fA.1, fA.2]
            split <;> omega
          · intro z hz
            by_cases c : z = r
            · subst c
              rw [pk_us, pk_us, pk_us, pr_fus, pr_fus, pr_fus]
              exact ⟨rfl, rfl, esv⟩
            · rw [pk_un c, pk_un c, pk_un c, pr_fun _ _ c, pr_fun _ _ c, pr_fun _ _ c]
              exact xR.2.1 z hz
          · rw [List.length_append, List.length_append, List.length_cons, List.length_cons]
          · intro z hz
            by_cases c : z = r
            · subst c
              rw [pk_us, pr_fus]
            · rw [pk_un c, pr_fun _ _ c]
              exact hla z hz
end PRZ
