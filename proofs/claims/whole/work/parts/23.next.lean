section PRW
/-! the next action, on both sides -/
theorem ro_565 {R : List ro_T} {r : Nat} (hr : r < 3) (ok : ro_A R) (b : ro_B R) (hw : ∀ p q, (R.filter (ro_w p q)).length ≤ 4) (hf : R.countP ro_f ≤ 1) (h0 : ∀ x, x ∈ R → ro_u r x = false) : R.length ≤ 565 := by
  have h1 := b [] R rfl
  have h2 := ro_sum ok
  have h4 := ro_len R
  have w1 := hw 0 1
  have w2 := hw 0 2
  have w3 := hw 1 0
  have w4 := hw 1 2
  have w5 := hw 2 0
  have w6 := hw 2 1
  have n0 := ro_n_le 0 R
  have n1 := ro_n_le 1 R
  have n2 := ro_n_le 2 R
  have nr := ro_n_0 h0
  have h3 : ro_N R ≤ 2 := by
    unfold ro_N
    have : r = 0 ∨ r = 1 ∨ r = 2 := by omega
    rcases this with z | z | z <;> subst z <;> omega
  omega
theorem pr_sk_lt {g : pg_T} (ok : pg_ok g) {C : Nat → Prop} {t x : Nat} (ht : t < pg_n g) (h : pr_sk C (pg_1 g) t x) : x < pg_n g := by
  obtain ⟨k, e, -⟩ := h
  rw [← e]
  exact pr_it_lt (fun _ => pg_1lt ok) k t ht
/-- what stands first in r's rest of the path -/
theorem pr_head {g : pg_T} (ok : pg_ok g) {r a t0 : Nat} {x : ro_T} {L : List pr_T} {pk0 : Option Nat} (hx : ro_ok x) (ht0 : t0 < pg_n g) (h : pr_pth g r a (ro_t x :: L) t0 pk0) :
    ∃ t y, t < pg_n g ∧ y < pg_n g ∧ pr_sk (pg_c g r) (pg_1 g) t0 t ∧ pg_c g r t ∧ pr_pth g r a L y none ∧ (pg_k g t = 1 ∧ y = pg_1 g t ∨ pg_k g t = 2 ∧ ∃ c, c < 2 ∧ ro_l x = nI c ∧ y = pg_b g t c) ∧
      ((ro_p x = r ∧ pg_f g t = r ∧ pg_o g pk0 r t = ro_q x ∧ (pg_k g t = 1 → ro_l x = pg_l g t) ∧ (pg_k g t ≠ 1 → pr_oI pk0 = ro_l x ∧ pk0 ≠ none)) ∨ (ro_q x = r ∧ ro_p x ≠ r ∧ pg_f g t = ro_p x ∧ pg_o g pk0 r t = ro_p x)) := by
  obtain ⟨x1, x2, x3, x4⟩ := hx
  cases pk0 with
  | none =>
    obtain ⟨t, hs, hc, h⟩ := h
    have ht := pr_sk_lt ok ht0 hs
    rcases h with ⟨k1, e, h⟩ | ⟨k2, hr, c, hc2, e, h⟩
    · have e1 : ro_p x = pg_f g t := congrArg (fun z : pr_T => z.1) e
      have e2 : ro_q x = pg_t g t := congrArg (fun z : pr_T => z.2.1) e
      have e3 : ro_l x = pg_l g t := congrArg (fun z : pr_T => z.2.2) e
      refine ⟨t, pg_1 g t, ht, pg_1lt ok ht, hs, hc, h, Or.inl ⟨k1, rfl⟩, ?_⟩
      have hft : pg_f g t = r ∨ pg_t g t = r := by
        rcases hc with z | ⟨-, z⟩
        · omega
        · exact z
      by_cases c : pg_f g t = r
      · refine Or.inl ⟨by omega, c, ?_, fun _ => e3, fun z => absurd k1 z⟩
        unfold pg_o
        rw [if_pos c, if_pos k1, e2]
      · refine Or.inr ⟨by omega, by omega, e1.symm, ?_⟩
        unfold pg_o
        rw [if_neg c, e1]
    · have e1 : ro_p x = pg_f g t := congrArg (fun z : pr_T => z.1) e
      have e2 : ro_q x = r := congrArg (fun z : pr_T => z.2.1) e
      have e3 : ro_l x = nI c := congrArg (fun z : pr_T => z.2.2) e
      refine ⟨t, pg_b g t c, ht, pg_blt ok ht c, hs, hc, h, Or.inr ⟨k2, c, hc2, e3, rfl⟩, Or.inr ⟨e2, by omega, e1.symm, ?_⟩⟩
      unfold pg_o
      rw [if_neg hr, e1]
  | some c =>
    obtain ⟨t, hs, hc, k2, hr, hc2, e, h⟩ := h
    have ht := pr_sk_lt ok ht0 hs
    have e1 : ro_p x = r := congrArg (fun z : pr_T => z.1) e
    have e2 : ro_q x = pr_gre r := congrArg (fun z : pr_T => z.2.1) e
    have e3 : ro_l x = nI c := congrArg (fun z : pr_T => z.2.2) e
    refine ⟨t, pg_b g t c, ht, pg_blt ok ht c, hs, hc, h, Or.inr ⟨k2, c, hc2, e3, rfl⟩, Or.inl ⟨e1, hr, ?_, fun z => by omega, fun _ => ⟨e3.symm, by simp⟩⟩⟩
    unfold pg_o
    rw [if_pos hr, if_neg (by omega), if_neg (by simp), e2]
section
variable {f_draftCount f_stackCount f_termCount f_root f_sentCount f_walkedFrom : Int32} {a_draftKind a_draftFrom a_draftTo a_draftNumber a_draftFirst a_draftSecond a_draftParent a_stack a_kind a_from a_to a_number a_first a_second a_place a_picked a_lastGot a_oldest a_waiting a_slotLabel a_slotValue : Nat → Int32} {g : pg_T}
theorem xs_state {post : Int32 → Prop} {r t0 t : Nat} {pk0 : Option Nat} {W : Nat → Nat → Nat} (ok : pg_ok g) (P : xr_P g f_termCount f_root a_kind a_from a_to a_number a_first a_second) (hr : r < 3) (hpl : a_place r = nI t0) (ht0 : t0 < pg_n g) (hs : pr_sk (pg_c g r) (pg_1 g) t0 t) (hc : pg_c g r t) (hp : a_picked r = pr_oI pk0) (hpk : ∀ c, pk0 = some c → c < 2)
    (hw : ∀ p q, p < 3 → q < 3 → a_waiting (p * 3 + q) = nI (W p q) ∧ W p q ≤ 4) (h : post (nI (pg_si g pk0 W r t))) : wpX_state post (f_draftCount, f_stackCount, f_termCount, f_root, f_sentCount, f_walkedFrom, a_draftKind, a_draftFrom, a_draftTo, a_draftNumber, a_draftFirst, a_draftSecond, a_draftParent, a_stack, a_kind, a_from, a_to, a_number, a_first, a_second, a_place, a_picked, a_lastGot, a_oldest, a_waiting, a_slotLabel, a_slotValue) (nI r) := by
  have ht := pr_sk_lt ok ht0 hs
  have h20 := ok.2.1
  unfold wpX_state
  exact xs_isRole hr (br_f (by decide) (xs_nextTerm ok P hr hpl ht0 hs hc (br_f (pr_nm1 (by omega)) (xs_situation ok P ht hr hc hp hpk hw h))))
theorem xs_stateO {post : Int32 → Prop} {r t0 : Nat} (ok : pg_ok g) (P : xr_P g f_termCount f_root a_kind a_from a_to a_number a_first a_second) (hr : r < 3) (hpl : a_place r = nI t0) (ht0 : t0 < pg_n g) (hn : ∀ j, ¬ pg_c g r (pr_it (pg_1 g) j t0)) (h : post 0) : wpX_state post (f_draftCount, f_stackCount, f_termCount, f_root, f_sentCount, f_walkedFrom, a_draftKind, a_draftFrom, a_draftTo, a_draftNumber, a_draftFirst, a_draftSecond, a_draftParent, a_stack, a_kind, a_from, a_to, a_number, a_first, a_second, a_place, a_picked, a_lastGot, a_oldest, a_waiting, a_slotLabel, a_slotValue) (nI r) := by
  unfold wpX_state
  exact xs_isRole hr (br_f (by decide) (xs_nowhere ok P hr hpl ht0 hn (br_t rfl h)))
theorem xs_partner {post : Int32 → Prop} {r t0 t : Nat} {pk0 : Option Nat} (ok : pg_ok g) (P : xr_P g f_termCount f_root a_kind a_from a_to a_number a_first a_second) (hr : r < 3) (hpl : a_place r = nI t0) (ht0 : t0 < pg_n g) (hs : pr_sk (pg_c g r) (pg_1 g) t0 t) (hc : pg_c g r t) (hp : a_picked r = pr_oI pk0) (hpk : ∀ c, pk0 = some c → c < 2)
    (h : post (nI (pg_o g pk0 r t))) : wpX_partner post (f_draftCount, f_stackCount, f_termCount, f_root, f_sentCount, f_walkedFrom, a_draftKind, a_draftFrom, a_draftTo, a_draftNumber, a_draftFirst, a_draftSecond, a_draftParent, a_stack, a_kind, a_from, a_to, a_number, a_first, a_second, a_place, a_picked, a_lastGot, a_oldest, a_waiting, a_slotLabel, a_slotValue) (nI r) := by
  have ht := pr_sk_lt ok ht0 hs
  have h20 := ok.2.1
  unfold wpX_partner
  exact xs_isRole hr (br_f (by decide) (xs_nextTerm ok P hr hpl ht0 hs hc (br_f (pr_nm1 (by omega)) (xs_otherSide ok P ht hr hc hp hpk h))))
theorem xs_partnerO {post : Int32 → Prop} {r t0 : Nat} (ok : pg_ok g) (P : xr_P g f_termCount f_root a_kind a_from a_to a_number a_first a_second) (hr : r < 3) (hpl : a_place r = nI t0) (ht0 : t0 < pg_n g) (hn : ∀ j, ¬ pg_c g r (pr_it (pg_1 g) j t0)) (h : post (-4)) : wpX_partner post (f_draftCount, f_stackCount, f_termCount, f_root, f_sentCount, f_walkedFrom, a_draftKind, a_draftFrom, a_draftTo, a_draftNumber, a_draftFirst, a_draftSecond, a_draftParent, a_stack, a_kind, a_from, a_to, a_number, a_first, a_second, a_place, a_picked, a_lastGot, a_oldest, a_waiting, a_slotLabel, a_slotValue) (nI r) := by
  unfold wpX_partner
  exact xs_isRole hr (br_f (by decide) (xs_nowhere ok P hr hpl ht0 hn (br_t rfl h)))
end
/-- what the walk from a meets first for r -/
def pg_mt (g : pg_T) (r a k : Nat) : Prop := pg_c g r (pr_it (pg_w g) k a) ∧ (∀ i, i < k → pg_k g (pr_it (pg_w g) i a) = 1 ∧ ¬ pg_c g r (pr_it (pg_w g) i a)) ∧ k + 1 < pg_n g
      ∧ (∀ i j, i < j → j ≤ k → pr_it (pg_w g) i a ≠ pr_it (pg_w g) j a) ∧ pr_sk (pg_c g r) (pg_1 g) a (pr_it (pg_w g) k a)
section
variable {z_made z_depth z_size z_rows z_at z_sendings : Int32} {y_sorts y_froms y_tos y_labels y_firsts y_seconds y_around y_stack y_senders y_receivers y_told y_values y_isSent y_isReceived y_last y_met : Nat → Int32} {g : pg_T} {gx : Nat → Nat} {gp : Nat → Option Nat}
theorem ys_nextO {post : Int32 → SY → Prop} {r a w : Nat} {R : List ro_T} {pl : Nat → Nat} {pk : Nat → Option Nat} (ok : pg_ok g) (U : pg_up g gx gp) (P : yr_P g gx gp z_size y_sorts y_froms y_tos y_labels y_firsts y_seconds y_around) (hr : r < 3) (hrun : pr_run g R a w pl pk) (hl : R.length ≤ 565) (er : z_rows = nI R.length) (ea : z_at = nI a) (Y : yr_ok R y_senders y_receivers y_told y_values y_isSent y_isReceived)
    (h1 : ∀ y, y ∈ R → ro_u r y = false) (hn : ∀ i, ¬ pg_c g r (pr_it (pg_w g) i a)) (h : ∀ M : Nat → Int32, post (-3) (z_made, z_depth, z_size, z_rows, z_at, z_sendings, y_sorts, y_froms, y_tos, y_labels, y_firsts, y_seconds, y_around, y_stack, y_senders, y_receivers, y_told, y_values, y_isSent, y_isReceived, y_last, M)) : wpY_next post (z_made, z_depth, z_size, z_rows, z_at, z_sendings, y_sorts, y_froms, y_tos, y_labels, y_firsts, y_seconds, y_around, y_stack, y_senders, y_receivers, y_told, y_values, y_isSent, y_isReceived, y_last, y_met) (nI r) := by
  refine ys_nextB hr hrun.2.2.2.2.2.1 (by omega) er Y h1 ?_
  intro M hM
  obtain ⟨j, h0, hj, hd, hi, hcov⟩ := pr_orb (g := pg_w g) (fun _ => pg_wlt ok) hrun.1
  subst ea
  exact ⟨j + 1, ys_38n ok U P hr hrun.1 hrun.2.1 hn hd hi h j 0 M (by omega) (fun j hj => by omega) (fun x hx _ => hM x hx) (fun j hj => by omega)⟩
theorem ys_nextM {post : Int32 → SY → Prop} {r a w k : Nat} {R : List ro_T} {pl : Nat → Nat} {pk : Nat → Option Nat} (ok : pg_ok g) (U : pg_up g gx gp) (P : yr_P g gx gp z_size y_sorts y_froms y_tos y_labels y_firsts y_seconds y_around) (hr : r < 3) (hrun : pr_run g R a w pl pk) (hl : R.length ≤ 565) (er : z_rows = nI R.length) (ea : z_at = nI a) (Y : yr_ok R y_senders y_receivers y_told y_values y_isSent y_isReceived)
    (h1 : ∀ y, y ∈ R → ro_u r y = false) (hm : pg_mt g r a k)
    (hp : pg_k g (pr_it (pg_w g) k a) = 2 → pg_f g (pr_it (pg_w g) k a) = r → ∀ M : Nat → Int32, post (-1) (z_made, z_depth, z_size, z_rows, z_at, z_sendings, y_sorts, y_froms, y_tos, y_labels, y_firsts, y_seconds, y_around, y_stack, y_senders, y_receivers, y_told, y_values, y_isSent, y_isReceived, y_last, M))
    (ht : pg_k g (pr_it (pg_w g) k a) = 2 → pg_f g (pr_it (pg_w g) k a) ≠ r → ∀ M : Nat → Int32, post (-2) (z_made, z_depth, z_size, z_rows, z_at, z_sendings, y_sorts, y_froms, y_tos, y_labels, y_firsts, y_seconds, y_around, y_stack, y_senders, y_receivers, y_told, y_values, y_isSent, y_isReceived, y_last, M))
    (he : pg_k g (pr_it (pg_w g) k a) = 1 → ∀ (E : List ro_T) (v : Int32) (d1 d2 d3 d5 d6 M : Nat → Int32), E.length = k → (∀ e, e ∈ E → ro_new e ∧ ro_c r e = false) →
        pr_run g (R ++ E ++ [(pg_f g (pr_it (pg_w g) k a), pg_t g (pr_it (pg_w g) k a), pg_l g (pr_it (pg_w g) k a), v, false, false)]) (pg_w g (pr_it (pg_w g) k a)) w pl pk →
        yr_ok (R ++ E ++ [(pg_f g (pr_it (pg_w g) k a), pg_t g (pr_it (pg_w g) k a), pg_l g (pr_it (pg_w g) k a), v, false, false)]) d1 d2 d3 y_values d5 d6 →
        post (nI (R.length + k)) (z_made, z_depth, z_size, nI (R.length + k + 1), nI (pg_w g (pr_it (pg_w g) k a)), z_sendings, y_sorts, y_froms, y_tos, y_labels, y_firsts, y_seconds, y_around, y_stack, d1, d2, d3, y_values, d5, d6, y_last, M)) : wpY_next post (z_made, z_depth, z_size, z_rows, z_at, z_sendings, y_sorts, y_froms, y_tos, y_labels, y_firsts, y_seconds, y_around, y_stack, y_senders, y_receivers, y_told, y_values, y_isSent, y_isReceived, y_last, y_met) (nI r) := by
  obtain ⟨m1, m2, m3, m4, m5⟩ := hm
  have h20 := ok.2.1
  have htl := pg_itlt ok hrun.1 k
  refine ys_nextB hr hrun.2.2.2.2.2.1 (by omega) er Y h1 ?_
  intro M hM
  have ea' := ea
  subst ea
  refine ⟨k + 1, ys_38f ok U P hr hrun.1 m2 m1 m4 ?_ k 0 M (by omega) (fun x hx _ => hM x hx)⟩
  intro M' hM'
  obtain ⟨i40, i20, ec, es, b⟩ := yr_pat ok P htl
  have cf := pg_cf ok htl m1
  unfold wY_next_87
  rw [ec, es, hM']
  have kk : pg_k g (pr_it (pg_w g) k a) = 1 ∨ pg_k g (pr_it (pg_w g) k a) = 2 := by
    rcases m1 with z | ⟨z, -⟩
    · exact Or.inr z
    · exact Or.inl z
  rcases kk with k1 | k2
  · rw [k1]
    refine ⟨i40, br_f (by decide) ⟨i40, br_f (by decide) ⟨i20, br_t rfl ⟨k + 1, ?_⟩⟩⟩⟩
    exact ys_135 (y_met := M') ok U P k a R z_rows (nI a) y_senders y_receivers y_told y_isSent y_isReceived hrun er rfl Y m2 k1 (fun i hi => m4 i k hi (Nat.le_refl k)) (by omega) (fun E v d1 d2 d3 d5 d6 eE hE r1 y1 => he k1 E v d1 d2 d3 d5 d6 M' eE hE r1 y1)
  · rw [(P.2 _ htl).2.1 (by omega)]
    refine ⟨i40, br_t (by rw [k2]; rfl) ⟨i40, pk_eq (pg_f g (pr_it (pg_w g) k a)) r (fun c => hp k2 c M') (fun c => ht k2 c M')⟩⟩
end
end PRW
