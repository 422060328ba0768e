section PSA
/-! the component's send -/
section
variable {f_draftCount f_stackCount f_termCount f_root f_sentCount f_walkedFrom : Int32} {a_draftKind a_draftFrom a_draftTo a_draftNumber a_draftFirst a_draftSecond a_draftParent a_stack a_kind a_from a_to a_number a_first a_second a_place a_picked a_lastGot a_oldest a_waiting a_slotLabel a_slotValue : Nat → Int32} {g : pg_T}
theorem xs_label {post : Int32 → Prop} {r t : Nat} {pk0 : Option Nat} {l : Int32} (ok : pg_ok g) (P : xr_P g f_termCount f_root a_kind a_from a_to a_number a_first a_second) (ht : t < pg_n g) (hr : r < 3) (hp : a_picked r = pr_oI pk0) (hl : (pg_k g t = 1 → l = pg_l g t) ∧ (pg_k g t ≠ 1 → pr_oI pk0 = l ∧ pk0 ≠ none)) (h : post l) : wpX_labelToSend post (f_draftCount, f_stackCount, f_termCount, f_root, f_sentCount, f_walkedFrom, a_draftKind, a_draftFrom, a_draftTo, a_draftNumber, a_draftFirst, a_draftSecond, a_draftParent, a_stack, a_kind, a_from, a_to, a_number, a_first, a_second, a_place, a_picked, a_lastGot, a_oldest, a_waiting, a_slotLabel, a_slotValue) (nI t) (nI r) := by
  obtain ⟨i20, ek, ef, et, el, e1, e2⟩ := xr_at ok P ht
  have b := (ok.2.2.1 t ht).1
  refine ⟨i20, pk_eq (pg_k g t) 1 (fun c => ⟨i20, ?_⟩) (fun c => ⟨vp_in_nI hr (by decide), ?_⟩) ek⟩
  · rw [el, ← hl.1 c]; exact h
  · rw [nI_clamp (n := r) (by omega), hp, (hl.2 c).1]; exact h
theorem xs_sendO {post : Int32 → SX → Prop} {r t0 : Nat} {p1 v : Int32} (ok : pg_ok g) (P : xr_P g f_termCount f_root a_kind a_from a_to a_number a_first a_second) (hr : r < 3) (hpl : a_place r = nI t0) (ht0 : t0 < pg_n g) (hn : ∀ j, ¬ pg_c g r (pr_it (pg_1 g) j t0)) (h : post (-4) (f_draftCount, f_stackCount, f_termCount, f_root, f_sentCount, f_walkedFrom, a_draftKind, a_draftFrom, a_draftTo, a_draftNumber, a_draftFirst, a_draftSecond, a_draftParent, a_stack, a_kind, a_from, a_to, a_number, a_first, a_second, a_place, a_picked, a_lastGot, a_oldest, a_waiting, a_slotLabel, a_slotValue)) : wpX_send post (f_draftCount, f_stackCount, f_termCount, f_root, f_sentCount, f_walkedFrom, a_draftKind, a_draftFrom, a_draftTo, a_draftNumber, a_draftFirst, a_draftSecond, a_draftParent, a_stack, a_kind, a_from, a_to, a_number, a_first, a_second, a_place, a_picked, a_lastGot, a_oldest, a_waiting, a_slotLabel, a_slotValue) (nI r) p1 v := by
  unfold wpX_send
  exact xs_isRole hr (br_f (by decide) (xs_nowhere ok P hr hpl ht0 hn (br_t rfl h)))
theorem xs_sendN {post : Int32 → SX → Prop} {r t0 t : Nat} {p1 v : Int32} {pk0 : Option Nat} {W : Nat → Nat → Nat} (ok : pg_ok g) (P : xr_P g f_termCount f_root a_kind a_from a_to a_number a_first a_second) (hr : r < 3) (hpl : a_place r = nI t0) (ht0 : t0 < pg_n g) (hs : pr_sk (pg_c g r) (pg_1 g) t0 t) (hc : pg_c g r t) (hp : a_picked r = pr_oI pk0) (hpk : ∀ c, pk0 = some c → c < 2)
    (hw : ∀ p q, p < 3 → q < 3 → a_waiting (p * 3 + q) = nI (W p q) ∧ W p q ≤ 4) (hne : pg_si g pk0 W r t ≠ 1) (h : post (-4) (f_draftCount, f_stackCount, f_termCount, f_root, f_sentCount, f_walkedFrom, a_draftKind, a_draftFrom, a_draftTo, a_draftNumber, a_draftFirst, a_draftSecond, a_draftParent, a_stack, a_kind, a_from, a_to, a_number, a_first, a_second, a_place, a_picked, a_lastGot, a_oldest, a_waiting, a_slotLabel, a_slotValue)) : wpX_send post (f_draftCount, f_stackCount, f_termCount, f_root, f_sentCount, f_walkedFrom, a_draftKind, a_draftFrom, a_draftTo, a_draftNumber, a_draftFirst, a_draftSecond, a_draftParent, a_stack, a_kind, a_from, a_to, a_number, a_first, a_second, a_place, a_picked, a_lastGot, a_oldest, a_waiting, a_slotLabel, a_slotValue) (nI r) p1 v := by
  have ht := pr_sk_lt ok ht0 hs
  have h20 := ok.2.1
  have h4 := pg_si4 (g := g) (pk0 := pk0) (W := W) (r := r) (t := t)
  unfold wpX_send
  refine xs_isRole hr (br_f (by decide) (xs_nextTerm ok P hr hpl ht0 hs hc (br_f (pr_nm1 (by omega)) (xs_situation ok P ht hr hc hp hpk hw (br_f ?_ h)))))
  intro z
  exact hne ((nI_eq (b := 1) (by omega) (by decide)).mp z)
theorem xs_sendM {post : Int32 → SX → Prop} {r t0 t q y o : Nat} {p1 v l : Int32} {pk0 : Option Nat} {W : Nat → Nat → Nat} (ok : pg_ok g) (P : xr_P g f_termCount f_root a_kind a_from a_to a_number a_first a_second) (hr : r < 3) (hpl : a_place r = nI t0) (ht0 : t0 < pg_n g) (hs : pr_sk (pg_c g r) (pg_1 g) t0 t) (hc : pg_c g r t) (hp : a_picked r = pr_oI pk0) (hpk : ∀ c, pk0 = some c → c < 2)
    (hw : ∀ p q, p < 3 → q < 3 → a_waiting (p * 3 + q) = nI (W p q) ∧ W p q ≤ 4) (hf : pg_f g t = r) (ho : pg_o g pk0 r t = q) (hq : q < 3) (hcap : W r q < 4) (hoo : a_oldest (r * 3 + q) = nI o) (ho4 : o < 4)
    (hl : (pg_k g t = 1 → l = pg_l g t) ∧ (pg_k g t ≠ 1 → pr_oI pk0 = l ∧ pk0 ≠ none)) (hy : pg_k g t = 1 ∧ y = pg_1 g t ∨ pg_k g t = 2 ∧ ∃ c, c < 2 ∧ l = nI c ∧ y = pg_b g t c)
    (h : post l (f_draftCount, f_stackCount, f_termCount, f_root, f_sentCount + 1, f_walkedFrom, a_draftKind, a_draftFrom, a_draftTo, a_draftNumber, a_draftFirst, a_draftSecond, a_draftParent, a_stack, a_kind, a_from, a_to, a_number, a_first, a_second, upd a_place r (nI y), upd a_picked r (-1), a_lastGot, a_oldest, upd a_waiting (r * 3 + q) (nI (W r q + 1)), upd a_slotLabel ((r * 3 + q) * 4 + (o + W r q) % 4) l, upd a_slotValue ((r * 3 + q) * 4 + (o + W r q) % 4) v)) : wpX_send post (f_draftCount, f_stackCount, f_termCount, f_root, f_sentCount, f_walkedFrom, a_draftKind, a_draftFrom, a_draftTo, a_draftNumber, a_draftFirst, a_draftSecond, a_draftParent, a_stack, a_kind, a_from, a_to, a_number, a_first, a_second, a_place, a_picked, a_lastGot, a_oldest, a_waiting, a_slotLabel, a_slotValue) (nI r) p1 v := by
  have ht := pr_sk_lt ok ht0 hs
  have h20 := ok.2.1
  have b := (ok.2.2.1 t ht).1
  obtain ⟨i20, ek, ef, et, el, e1, e2⟩ := xr_at ok P ht
  have hsi : pg_si g pk0 W r t = 1 := by rw [pg_si_s hf ho, if_neg (by omega)]
  have key : wX_send_61 post (nI r) p1 v (nI t) f_draftCount f_stackCount f_termCount f_root f_sentCount f_walkedFrom a_draftKind a_draftFrom a_draftTo a_draftNumber a_draftFirst a_draftSecond a_draftParent a_stack a_kind a_from a_to a_number a_first a_second a_place a_picked a_lastGot a_oldest a_waiting a_slotLabel a_slotValue := by
    unfold wX_send_61 wX_send_62 wX_send_78
    refine br_t rfl (br_t rfl (xs_label ok P ht hr hp hl ?_))
    refine xs_send94 (q := q) (y := y) hr hq (fun Q hQ => xs_otherSide ok P ht hr hc hp hpk (by rw [ho]; exact hQ)) ?_ hoo ho4 (hw r q hr hq).1 hcap h
    intro Q f1 w1 w2 w3 hQ
    rcases hy with ⟨k1, ey⟩ | ⟨k2, c, hc2, el2, ey⟩
    · rw [ey] at hQ
      exact xs_followm ok P ht k1 hQ
    · rw [ey] at hQ
      rw [el2]
      exact xs_following ok P ht k2 hc2 hQ
  unfold wpX_send
  refine xs_isRole hr (br_f (by decide) (xs_nextTerm ok P hr hpl ht0 hs hc (br_f (pr_nm1 (by omega)) (xs_situation ok P ht hr hc hp hpk hw (br_t ?_ ⟨i20, ?_⟩)))))
  · rw [hsi]; rfl
  · refine pk_eq (pg_k g t) 2 (fun c => ⟨vp_in_nI hr (by decide), br_f ?_ key⟩) (fun c => key) ek
    rw [nI_clamp (n := r) (by omega), hp]
    have hn := (hl.2 (by omega)).2
    cases pk0 with
    | none => exact absurd rfl hn
    | some c => exact pr_nm1 (by have := hpk c rfl; omega)
theorem xs_sendB {post : Int32 → SX → Prop} {r t0 t : Nat} {p1 v : Int32} {pk0 : Option Nat} {W : Nat → Nat → Nat} (ok : pg_ok g) (P : xr_P g f_termCount f_root a_kind a_from a_to a_number a_first a_second) (hr : r < 3) (hpl : a_place r = nI t0) (ht0 : t0 < pg_n g) (hs : pr_sk (pg_c g r) (pg_1 g) t0 t) (hc : pg_c g r t) (hp : a_picked r = pr_oI pk0) (hpk : ∀ c, pk0 = some c → c < 2)
    (hw : ∀ p q, p < 3 → q < 3 → a_waiting (p * 3 + q) = nI (W p q) ∧ W p q ≤ 4) (hsi : pg_si g pk0 W r t = 1) (k2 : pg_k g t = 2) (hn : pk0 = none) (h0 : ¬ p1 = 0) (h1 : ¬ p1 = 1) (h : post (-1) (f_draftCount, f_stackCount, f_termCount, f_root, f_sentCount, f_walkedFrom, a_draftKind, a_draftFrom, a_draftTo, a_draftNumber, a_draftFirst, a_draftSecond, a_draftParent, a_stack, a_kind, a_from, a_to, a_number, a_first, a_second, a_place, a_picked, a_lastGot, a_oldest, a_waiting, a_slotLabel, a_slotValue)) : wpX_send post (f_draftCount, f_stackCount, f_termCount, f_root, f_sentCount, f_walkedFrom, a_draftKind, a_draftFrom, a_draftTo, a_draftNumber, a_draftFirst, a_draftSecond, a_draftParent, a_stack, a_kind, a_from, a_to, a_number, a_first, a_second, a_place, a_picked, a_lastGot, a_oldest, a_waiting, a_slotLabel, a_slotValue) (nI r) p1 v := by
  have ht := pr_sk_lt ok ht0 hs
  have h20 := ok.2.1
  obtain ⟨i20, ek, ef, et, el, e1, e2⟩ := xr_at ok P ht
  unfold wpX_send
  refine xs_isRole hr (br_f (by decide) (xs_nextTerm ok P hr hpl ht0 hs hc (br_f (pr_nm1 (by omega)) (xs_situation ok P ht hr hc hp hpk hw (br_t ?_ ⟨i20, br_t ?_ ⟨vp_in_nI hr (by decide), br_t ?_ (br_f (by decide) (br_f h0 (br_f h1 (br_t rfl h))))⟩⟩)))))
  · rw [hsi]; rfl
  · rw [ek, k2]; rfl
  · rw [nI_clamp (n := r) (by omega), hp, hn]; rfl
theorem xs_sendPk {post : Int32 → SX → Prop} {r t0 t c o : Nat} {v : Int32} {pk0 : Option Nat} {W : Nat → Nat → Nat} (ok : pg_ok g) (P : xr_P g f_termCount f_root a_kind a_from a_to a_number a_first a_second) (hr : r < 3) (hpl : a_place r = nI t0) (ht0 : t0 < pg_n g) (hs : pr_sk (pg_c g r) (pg_1 g) t0 t) (hc : pg_c g r t) (hp : a_picked r = pr_oI pk0) (hpk : ∀ c, pk0 = some c → c < 2)
    (hw : ∀ p q, p < 3 → q < 3 → a_waiting (p * 3 + q) = nI (W p q) ∧ W p q ≤ 4) (k2 : pg_k g t = 2) (hf : pg_f g t = r) (hn : pk0 = none) (hcap : W r (pr_les r) < 4) (hoo : a_oldest (r * 3 + pr_les r) = nI o) (ho4 : o < 4) (hc2 : c < 2)
    (h : post (nI c) (f_draftCount, f_stackCount, f_termCount, f_root, f_sentCount + 1, nI (pg_b g t c), a_draftKind, a_draftFrom, a_draftTo, a_draftNumber, a_draftFirst, a_draftSecond, a_draftParent, a_stack, a_kind, a_from, a_to, a_number, a_first, a_second, a_place, upd a_picked r (nI c), a_lastGot, a_oldest, upd a_waiting (r * 3 + pr_les r) (nI (W r (pr_les r) + 1)), upd a_slotLabel ((r * 3 + pr_les r) * 4 + (o + W r (pr_les r)) % 4) (nI c), upd a_slotValue ((r * 3 + pr_les r) * 4 + (o + W r (pr_les r)) % 4) v)) : wpX_send post (f_draftCount, f_stackCount, f_termCount, f_root, f_sentCount, f_walkedFrom, a_draftKind, a_draftFrom, a_draftTo, a_draftNumber, a_draftFirst, a_draftSecond, a_draftParent, a_stack, a_kind, a_from, a_to, a_number, a_first, a_second, a_place, a_picked, a_lastGot, a_oldest, a_waiting, a_slotLabel, a_slotValue) (nI r) (nI c) v := by
  have ht := pr_sk_lt ok ht0 hs
  have h20 := ok.2.1
  obtain ⟨i20, ek, ef, et, el, e1, e2⟩ := xr_at ok P ht
  have ho : pg_o g pk0 r t = pr_les r := by
    unfold pg_o
    rw [if_pos hf, if_neg (by omega), if_pos hn]
  have hsi : pg_si g pk0 W r t = 1 := by rw [pg_si_s hf ho, if_neg (by omega)]
  have key : wX_send_78 post (nI r) (nI c) v (nI t) 1 f_draftCount f_stackCount f_termCount f_root f_sentCount f_walkedFrom a_draftKind a_draftFrom a_draftTo a_draftNumber a_draftFirst a_draftSecond a_draftParent a_stack a_kind a_from a_to a_number a_first a_second a_place a_picked a_lastGot a_oldest a_waiting a_slotLabel a_slotValue := by
    unfold wX_send_78
    refine br_f (by decide) ?_
    refine xs_sendPick (q := pr_les r) (y := pg_b g t c) hr (pr_les_ok hr).1 (fun Q hQ => xs_otherSide ok P ht hr hc hp hpk (by rw [ho]; exact hQ)) ?_ hoo ho4 (hw r (pr_les r) hr (pr_les_ok hr).1).1 hcap h
    intro Q f1 w1 w2 w3 w4 hQ
    exact xs_following ok P ht k2 hc2 hQ
  unfold wpX_send
  refine xs_isRole hr (br_f (by decide) (xs_nextTerm ok P hr hpl ht0 hs hc (br_f (pr_nm1 (by omega)) (xs_situation ok P ht hr hc hp hpk hw (br_t ?_ ⟨i20, br_t ?_ ⟨vp_in_nI hr (by decide), br_t ?_ (br_f (by decide) ?_)⟩⟩)))))
  · rw [hsi]; rfl
  · rw [ek, k2]; rfl
  · rw [nI_clamp (n := r) (by omega), hp, hn]; rfl
  · have : c = 0 ∨ c = 1 := by omega
    rcases this with z | z
    · subst z
      exact br_t rfl (br_f (by decide) key)
    · subst z
      exact br_f (by decide) (br_t rfl (br_f (by decide) key))
end
/-- the component's state after a sending -/
theorem xr_snd {R R' : List ro_T} {w w' r q o y : Nat} {pl : Nat → Nat} {pk : Nat → Option Nat} {la : Nat → Int32} {x : ro_T} {f_walkedFrom : Int32} {a_place a_picked a_lastGot a_oldest a_waiting a_slotLabel a_slotValue : Nat → Int32} (xR : xr_R R w pl pk la f_walkedFrom a_place a_picked a_lastGot a_oldest a_waiting a_slotLabel a_slotValue) (hr : r < 3) (hq : q < 3) (hoo : a_oldest (r * 3 + q) = nI o) (ho4 : o < 4) (hcap : (R.filter (ro_w r q)).length < 4)
    (e : R'.filter (ro_w r q) = R.filter (ro_w r q) ++ [x]) (eo : ∀ p' q', ¬ (p' = r ∧ q' = q) → R'.filter (ro_w p' q') = R.filter (ro_w p' q')) :
    xr_R R' w (pr_fu pl r y) (pr_fu pk r none) la f_walkedFrom (upd a_place r (nI y)) (upd a_picked r (-1)) a_lastGot a_oldest (upd a_waiting (r * 3 + q) (nI ((R.filter (ro_w r q)).length + 1))) (upd a_slotLabel ((r * 3 + q) * 4 + (o + (R.filter (ro_w r q)).length) % 4) (ro_l x)) (upd a_slotValue ((r * 3 + q) * 4 + (o + (R.filter (ro_w r q)).length) % 4) (ro_v x)) := by
  refine ⟨xR.1, ?_, pr_ring_push xR.2.2 hr hq hoo ho4 rfl hcap e eo⟩
  intro z hz
  by_cases c : z = r
  · subst c
    rw [pk_us, pk_us, pr_fus, pr_fus]
    exact ⟨rfl, rfl, (xR.2.1 z hz).2.2⟩
  · rw [pk_un c, pk_un c, pr_fun _ _ c, pr_fun _ _ c]
    exact xR.2.1 z hz
theorem xr_pck {R R' : List ro_T} {w w' r q o c : Nat} {pl : Nat → Nat} {pk : Nat → Option Nat} {la : Nat → Int32} {x : ro_T} {f_walkedFrom : Int32} {a_place a_picked a_lastGot a_oldest a_waiting a_slotLabel a_slotValue : Nat → Int32} (xR : xr_R R w pl pk la f_walkedFrom a_place a_picked a_lastGot a_oldest a_waiting a_slotLabel a_slotValue) (hr : r < 3) (hq : q < 3) (hoo : a_oldest (r * 3 + q) = nI o) (ho4 : o < 4) (hcap : (R.filter (ro_w r q)).length < 4)
    (e : R'.filter (ro_w r q) = R.filter (ro_w r q) ++ [x]) (eo : ∀ p' q', ¬ (p' = r ∧ q' = q) → R'.filter (ro_w p' q') = R.filter (ro_w p' q')) :
    xr_R R' w' pl (pr_fu pk r (some c)) la (nI w') a_place (upd a_picked r (nI c)) a_lastGot a_oldest (upd a_waiting (r * 3 + q) (nI ((R.filter (ro_w r q)).length + 1))) (upd a_slotLabel ((r * 3 + q) * 4 + (o + (R.filter (ro_w r q)).length) % 4) (ro_l x)) (upd a_slotValue ((r * 3 + q) * 4 + (o + (R.filter (ro_w r q)).length) % 4) (ro_v x)) := by
  refine ⟨rfl, ?_, pr_ring_push xR.2.2 hr hq hoo ho4 rfl hcap e eo⟩
  intro z hz
  by_cases cz : z = r
  · subst cz
    rw [pk_us, pr_fus]
    exact ⟨(xR.2.1 z hz).1, rfl, (xR.2.1 z hz).2.2⟩
  · rw [pk_un cz, pr_fun _ _ cz]
    exact xR.2.1 z hz
section
variable {z_made z_depth z_size z_rows z_at z_sendings : Int32} {y_sorts y_froms y_tos y_labels y_firsts y_seconds y_around y_stack y_senders y_receivers y_told y_values y_isSent y_isReceived y_last y_met : Nat → Int32}
theorem ys_128 {post : Int32 → SY → Prop} {i : Nat} {l v : Int32} (hi : i < 600) (ht : y_told i = l) (h : post l (z_made, z_depth, z_size, z_rows, z_at, z_sendings + 1, y_sorts, y_froms, y_tos, y_labels, y_firsts, y_seconds, y_around, y_stack, y_senders, y_receivers, y_told, upd y_values i v, upd y_isSent i 1, y_isReceived, y_last, y_met)) : wY_send_128 post v (nI i) z_made z_depth z_size z_rows z_at z_sendings y_sorts y_froms y_tos y_labels y_firsts y_seconds y_around y_stack y_senders y_receivers y_told y_values y_isSent y_isReceived y_last y_met := by
  have i6 : vp_in (nI i) 600 := vp_in_nI hi (by decide)
  unfold wY_send_128
  rw [nI_clamp (n := i) (by omega), ht, show vp_nar .boolean 1 = 1 from pr_bIn true]
  exact ⟨i6, nm_e ⟨i6, nm_e (nm_e ⟨i6, h⟩)⟩⟩
/-- the reference's send of a row that stands -/
theorem ys_57 {post : Int32 → SY → Prop} {r : Nat} {p1 v : Int32} {A C : List ro_T} {x : ro_T} (hr : r < 3) (hA : ro_A (A ++ x :: C)) (hl : (A ++ x :: C).length ≤ 600) (er : z_rows = nI (A ++ x :: C).length) (Y : yr_ok (A ++ x :: C) y_senders y_receivers y_told y_values y_isSent y_isReceived) (hw4 : ((A ++ x :: C).filter (ro_w r (ro_q x))).length ≤ 4)
    (h4 : ((A ++ x :: C).filter (ro_w r (ro_q x))).length = 4 → post (-4) (z_made, z_depth, z_size, z_rows, z_at, z_sendings, y_sorts, y_froms, y_tos, y_labels, y_firsts, y_seconds, y_around, y_stack, y_senders, y_receivers, y_told, y_values, y_isSent, y_isReceived, y_last, y_met)) (h : ((A ++ x :: C).filter (ro_w r (ro_q x))).length < 4 → post (ro_l x) (z_made, z_depth, z_size, z_rows, z_at, z_sendings + 1, y_sorts, y_froms, y_tos, y_labels, y_firsts, y_seconds, y_around, y_stack, y_senders, y_receivers, y_told, upd y_values A.length v, upd y_isSent A.length 1, y_isReceived, y_last, y_met)) : wY_send_57 post (nI r) p1 v (nI A.length) z_made z_depth z_size z_rows z_at z_sendings y_sorts y_froms y_tos y_labels y_firsts y_seconds y_around y_stack y_senders y_receivers y_told y_values y_isSent y_isReceived y_last y_met := by
  have hlA : A.length < 600 := by
    have := hl
    rw [List.length_append, List.length_cons] at this
    omega
  have i6 : vp_in (nI A.length) 600 := vp_in_nI hlA (by decide)
  obtain ⟨q1, q2, q3, q4, q5, q6⟩ := Y A.length x yr_here
  have kx := hA x (by simp)
  have nm := pr_nm1 (a := A.length) (by omega)
  refine br_f nm ⟨i6, ?_⟩
  rw [nI_clamp (n := A.length) (by omega), q2]
  unfold wY_send_78
  refine ys_counted hr kx.2.1 hA hl er Y ?_
  refine pk_lt _ 4 (fun c => br_f nm (br_f nm (ys_128 hlA q3 (h c)))) (fun c => h4 (by omega)) rfl rfl
end
end PSA
