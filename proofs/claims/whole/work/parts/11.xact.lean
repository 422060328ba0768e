section PRK
/-! the component: sending, receiving, beginning -/
section
variable {f_draftCount f_stackCount f_termCount f_root f_sentCount f_walkedFrom : Int32} {a_draftKind a_draftFrom a_draftTo a_draftNumber a_draftFirst a_draftSecond a_draftParent a_stack a_kind a_from a_to a_number a_first a_second a_place a_picked a_lastGot a_oldest a_waiting a_slotLabel a_slotValue : Nat → Int32} {g : pg_T}
theorem xs_putOnWay {post : SX → Prop} {p q o n : Nat} {l v : Int32} (hp : p < 3) (hq : q < 3) (ho : a_oldest (p * 3 + q) = nI o) (ho4 : o < 4) (hn : a_waiting (p * 3 + q) = nI n) (hn4 : n < 4)
    (h : post (f_draftCount, f_stackCount, f_termCount, f_root, f_sentCount + 1, f_walkedFrom, a_draftKind, a_draftFrom, a_draftTo, a_draftNumber, a_draftFirst, a_draftSecond, a_draftParent, a_stack, a_kind, a_from, a_to, a_number, a_first, a_second, a_place, a_picked, a_lastGot, a_oldest, upd a_waiting (p * 3 + q) (nI (n + 1)), upd a_slotLabel ((p * 3 + q) * 4 + (o + n) % 4) l, upd a_slotValue ((p * 3 + q) * 4 + (o + n) % 4) v)) : wpX_putOnWay post (f_draftCount, f_stackCount, f_termCount, f_root, f_sentCount, f_walkedFrom, a_draftKind, a_draftFrom, a_draftTo, a_draftNumber, a_draftFirst, a_draftSecond, a_draftParent, a_stack, a_kind, a_from, a_to, a_number, a_first, a_second, a_place, a_picked, a_lastGot, a_oldest, a_waiting, a_slotLabel, a_slotValue) (nI p) (nI q) l v := by
  have hc : p * 3 + q < 9 := by omega
  have i9 : vp_in (nI (p * 3 + q)) 9 := vp_in_nI hc (by decide)
  refine nm_r (pr_ix3 p q) ?_
  rw [nI_clamp (n := p * 3 + q) (by omega), ho, hn]
  refine ⟨i9, i9, by decide, nm_r (e' := nI ((p * 3 + q) * 4 + (o + n) % 4)) ?_ ?_⟩
  · rw [nI_add, show (4 : Int32) = nI 4 from rfl, pk_rem (by omega) (by decide) (by decide), pk_mul, nI_add]
  · rw [nI_clamp (n := (p * 3 + q) * 4 + (o + n) % 4) (by omega)]
    refine ⟨vp_in_nI (by omega) (by decide), nm_e ⟨vp_in_nI (by omega) (by decide), nm_e ⟨i9, i9, nm_r (e' := upd a_waiting (p * 3 + q) (nI (n + 1))) ?_ (nm_e h)⟩⟩⟩
    rw [nI_1]
theorem xs_takeOffWay {post : Int32 → SX → Prop} {p r o n : Nat} (hp : p < 3) (hr : r < 3) (ho : a_oldest (p * 3 + r) = nI o) (ho4 : o < 4) (hn : a_waiting (p * 3 + r) = nI (n + 1)) (hn4 : n < 4)
    (h : post (a_slotLabel ((p * 3 + r) * 4 + o)) (f_draftCount, f_stackCount, f_termCount, f_root, f_sentCount, f_walkedFrom, a_draftKind, a_draftFrom, a_draftTo, a_draftNumber, a_draftFirst, a_draftSecond, a_draftParent, a_stack, a_kind, a_from, a_to, a_number, a_first, a_second, a_place, a_picked, upd a_lastGot r (a_slotValue ((p * 3 + r) * 4 + o)), upd a_oldest (p * 3 + r) (nI ((o + 1) % 4)), upd a_waiting (p * 3 + r) (nI n), a_slotLabel, a_slotValue)) : wpX_takeOffWay post (f_draftCount, f_stackCount, f_termCount, f_root, f_sentCount, f_walkedFrom, a_draftKind, a_draftFrom, a_draftTo, a_draftNumber, a_draftFirst, a_draftSecond, a_draftParent, a_stack, a_kind, a_from, a_to, a_number, a_first, a_second, a_place, a_picked, a_lastGot, a_oldest, a_waiting, a_slotLabel, a_slotValue) (nI p) (nI r) := by
  have hc : p * 3 + r < 9 := by omega
  have i9 : vp_in (nI (p * 3 + r)) 9 := vp_in_nI hc (by decide)
  refine nm_r (pr_ix3 p r) ?_
  rw [nI_clamp (n := p * 3 + r) (by omega), ho, hn]
  refine ⟨i9, nm_r (e' := nI ((p * 3 + r) * 4 + o)) (by rw [show (4 : Int32) = nI 4 from rfl, pk_mul, nI_add]) ?_⟩
  rw [nI_clamp (n := (p * 3 + r) * 4 + o) (by omega), nI_clamp (n := r) (by omega)]
  have i36 : vp_in (nI ((p * 3 + r) * 4 + o)) 36 := vp_in_nI (by omega) (by decide)
  refine ⟨i9, by decide, i9, nm_r (e' := upd a_oldest (p * 3 + r) (nI ((o + 1) % 4))) ?_ ⟨i9, i9, nm_r (e' := upd a_waiting (p * 3 + r) (nI n)) ?_ ⟨i36, vp_in_nI hr (by decide), nm_e ⟨i36, h⟩⟩⟩⟩
  · rw [nI_1, show (4 : Int32) = nI 4 from rfl, pk_rem (by omega) (by decide) (by decide)]
  · rw [nI_pred]
theorem xs_goOn {post : SX → Prop} {r t y : Nat} {l : Int32} (hr : r < 3) (hf : ∀ P : Int32 → Prop, P (nI y) → wpX_following P (f_draftCount, f_stackCount, f_termCount, f_root, f_sentCount, f_walkedFrom, a_draftKind, a_draftFrom, a_draftTo, a_draftNumber, a_draftFirst, a_draftSecond, a_draftParent, a_stack, a_kind, a_from, a_to, a_number, a_first, a_second, a_place, a_picked, a_lastGot, a_oldest, a_waiting, a_slotLabel, a_slotValue) (nI t) l) (h : post (f_draftCount, f_stackCount, f_termCount, f_root, f_sentCount, f_walkedFrom, a_draftKind, a_draftFrom, a_draftTo, a_draftNumber, a_draftFirst, a_draftSecond, a_draftParent, a_stack, a_kind, a_from, a_to, a_number, a_first, a_second, upd a_place r (nI y), upd a_picked r (-1), a_lastGot, a_oldest, a_waiting, a_slotLabel, a_slotValue)) : wpX_goOn post (f_draftCount, f_stackCount, f_termCount, f_root, f_sentCount, f_walkedFrom, a_draftKind, a_draftFrom, a_draftTo, a_draftNumber, a_draftFirst, a_draftSecond, a_draftParent, a_stack, a_kind, a_from, a_to, a_number, a_first, a_second, a_place, a_picked, a_lastGot, a_oldest, a_waiting, a_slotLabel, a_slotValue) (nI r) (nI t) l := by
  unfold wpX_goOn
  refine hf _ ?_
  rw [nI_clamp (n := r) (by omega)]
  exact ⟨vp_in_nI hr (by decide), nm_e ⟨vp_in_nI hr (by decide), nm_e h⟩⟩
/-- a sending that is no picking: label l, receiver q, the place y afterwards -/
theorem xs_send94 {post : Int32 → SX → Prop} {r t q o n y : Nat} {p1 v l : Int32} (hr : r < 3) (hq : q < 3) (hos : ∀ P : Int32 → Prop, P (nI q) → wpX_otherSide P (f_draftCount, f_stackCount, f_termCount, f_root, f_sentCount, f_walkedFrom, a_draftKind, a_draftFrom, a_draftTo, a_draftNumber, a_draftFirst, a_draftSecond, a_draftParent, a_stack, a_kind, a_from, a_to, a_number, a_first, a_second, a_place, a_picked, a_lastGot, a_oldest, a_waiting, a_slotLabel, a_slotValue) (nI t) (nI r))
    (hf : ∀ (P : Int32 → Prop) (f_sentCount : Int32) (a_waiting a_slotLabel a_slotValue : Nat → Int32), P (nI y) → wpX_following P (f_draftCount, f_stackCount, f_termCount, f_root, f_sentCount, f_walkedFrom, a_draftKind, a_draftFrom, a_draftTo, a_draftNumber, a_draftFirst, a_draftSecond, a_draftParent, a_stack, a_kind, a_from, a_to, a_number, a_first, a_second, a_place, a_picked, a_lastGot, a_oldest, a_waiting, a_slotLabel, a_slotValue) (nI t) l)
    (ho : a_oldest (r * 3 + q) = nI o) (ho4 : o < 4) (hn : a_waiting (r * 3 + q) = nI n) (hn4 : n < 4)
    (h : post l (f_draftCount, f_stackCount, f_termCount, f_root, f_sentCount + 1, f_walkedFrom, a_draftKind, a_draftFrom, a_draftTo, a_draftNumber, a_draftFirst, a_draftSecond, a_draftParent, a_stack, a_kind, a_from, a_to, a_number, a_first, a_second, upd a_place r (nI y), upd a_picked r (-1), a_lastGot, a_oldest, upd a_waiting (r * 3 + q) (nI (n + 1)), upd a_slotLabel ((r * 3 + q) * 4 + (o + n) % 4) l, upd a_slotValue ((r * 3 + q) * 4 + (o + n) % 4) v)) :
    wX_send_94 post (nI r) p1 v (nI t) 0 l f_draftCount f_stackCount f_termCount f_root f_sentCount f_walkedFrom a_draftKind a_draftFrom a_draftTo a_draftNumber a_draftFirst a_draftSecond a_draftParent a_stack a_kind a_from a_to a_number a_first a_second a_place a_picked a_lastGot a_oldest a_waiting a_slotLabel a_slotValue := by
  unfold wX_send_94
  refine hos _ (xs_putOnWay hr hq ho ho4 hn hn4 (br_t rfl ?_))
  exact xs_goOn hr (fun P hP => hf P _ _ _ _ hP) h
/-- a picking of c -/
theorem xs_sendPick {post : Int32 → SX → Prop} {r t c q o n y : Nat} {v : Int32} (hr : r < 3) (hq : q < 3) (hos : ∀ P : Int32 → Prop, P (nI q) → wpX_otherSide P (f_draftCount, f_stackCount, f_termCount, f_root, f_sentCount, f_walkedFrom, a_draftKind, a_draftFrom, a_draftTo, a_draftNumber, a_draftFirst, a_draftSecond, a_draftParent, a_stack, a_kind, a_from, a_to, a_number, a_first, a_second, a_place, a_picked, a_lastGot, a_oldest, a_waiting, a_slotLabel, a_slotValue) (nI t) (nI r))
    (hf : ∀ (P : Int32 → Prop) (f_sentCount : Int32) (a_waiting a_slotLabel a_slotValue a_picked : Nat → Int32), P (nI y) → wpX_following P (f_draftCount, f_stackCount, f_termCount, f_root, f_sentCount, f_walkedFrom, a_draftKind, a_draftFrom, a_draftTo, a_draftNumber, a_draftFirst, a_draftSecond, a_draftParent, a_stack, a_kind, a_from, a_to, a_number, a_first, a_second, a_place, a_picked, a_lastGot, a_oldest, a_waiting, a_slotLabel, a_slotValue) (nI t) (nI c))
    (ho : a_oldest (r * 3 + q) = nI o) (ho4 : o < 4) (hn : a_waiting (r * 3 + q) = nI n) (hn4 : n < 4)
    (h : post (nI c) (f_draftCount, f_stackCount, f_termCount, f_root, f_sentCount + 1, nI y, a_draftKind, a_draftFrom, a_draftTo, a_draftNumber, a_draftFirst, a_draftSecond, a_draftParent, a_stack, a_kind, a_from, a_to, a_number, a_first, a_second, a_place, upd a_picked r (nI c), a_lastGot, a_oldest, upd a_waiting (r * 3 + q) (nI (n + 1)), upd a_slotLabel ((r * 3 + q) * 4 + (o + n) % 4) (nI c), upd a_slotValue ((r * 3 + q) * 4 + (o + n) % 4) v)) :
    wX_send_94 post (nI r) (nI c) v (nI t) 1 (nI c) f_draftCount f_stackCount f_termCount f_root f_sentCount f_walkedFrom a_draftKind a_draftFrom a_draftTo a_draftNumber a_draftFirst a_draftSecond a_draftParent a_stack a_kind a_from a_to a_number a_first a_second a_place a_picked a_lastGot a_oldest a_waiting a_slotLabel a_slotValue := by
  unfold wX_send_94
  refine hos _ (xs_putOnWay hr hq ho ho4 hn hn4 (br_f (by decide) ⟨vp_in_nI hr (by decide), ?_⟩))
  refine nm_r (e' := upd a_picked r (nI c)) (by rw [nI_clamp (n := r) (by omega)]) ?_
  exact hf _ _ _ _ _ _ h
theorem pr_updlt {f : Nat → Int32} {x : Int32} (i : Nat) : upd (fun j => if j < i then x else f j) i x = fun j => if j < i + 1 then x else f j := by
  funext j
  show (if j = i then x else if j < i then x else f j) = if j < i + 1 then x else f j
  by_cases c : j = i
  · rw [if_pos c, if_pos (by omega)]
  · rw [if_neg c]
    by_cases c2 : j < i
    · rw [if_pos c2, if_pos (by omega)]
    · rw [if_neg c2, if_neg (by omega)]
theorem xs_br39 {post : SX → Prop} (h : post (f_draftCount, f_stackCount, f_termCount, f_root, 0, f_root, a_draftKind, a_draftFrom, a_draftTo, a_draftNumber, a_draftFirst, a_draftSecond, a_draftParent, a_stack, a_kind, a_from, a_to, a_number, a_first, a_second, a_place, a_picked, a_lastGot, fun j => if j < 9 then 0 else a_oldest j, fun j => if j < 9 then 0 else a_waiting j, a_slotLabel, a_slotValue)) : ∃ n, wX_beginRun_39 post f_draftCount f_stackCount f_termCount f_root f_sentCount f_walkedFrom n 0 a_draftKind a_draftFrom a_draftTo a_draftNumber a_draftFirst a_draftSecond a_draftParent a_stack a_kind a_from a_to a_number a_first a_second a_place a_picked a_lastGot a_oldest a_waiting a_slotLabel a_slotValue := by
  refine loop_0 (fun n i (s : (Nat → Int32) × (Nat → Int32)) => wX_beginRun_39 post f_draftCount f_stackCount f_termCount f_root f_sentCount f_walkedFrom n (nI i) a_draftKind a_draftFrom a_draftTo a_draftNumber a_draftFirst a_draftSecond a_draftParent a_stack a_kind a_from a_to a_number a_first a_second a_place a_picked a_lastGot (s.1) (s.2) a_slotLabel a_slotValue)
    (fun i s => s = ((fun j => if j < i then 0 else a_oldest j), (fun j => if j < i then 0 else a_waiting j))) 9 (a_oldest, a_waiting) ?_ ?_ ?_
  · simp
  · intro n s e
    subst e
    exact br_t (nI_le (a := 9) (b := 9) (by omega) (by decide)) h
  · intro n i s hi e hk
    subst e
    have i9 : vp_in (nI i) 9 := vp_in_nI hi (by decide)
    refine br_f (nI_ge (b := 9) hi (by decide)) ⟨i9, nm_e ⟨i9, nm_e (nm_r (nI_1 i) (hk (_, _) ?_))⟩⟩
    rw [nI_clamp (n := i) (by omega)]
    exact Prod.ext (pr_updlt i) (pr_updlt i)
theorem xs_beginRun {post : SX → Prop} (h : post (f_draftCount, f_stackCount, f_termCount, f_root, 0, f_root, a_draftKind, a_draftFrom, a_draftTo, a_draftNumber, a_draftFirst, a_draftSecond, a_draftParent, a_stack, a_kind, a_from, a_to, a_number, a_first, a_second, fun j => if j < 3 then f_root else a_place j, fun j => if j < 3 then -1 else a_picked j, fun j => if j < 3 then 0 else a_lastGot j, fun j => if j < 9 then 0 else a_oldest j, fun j => if j < 9 then 0 else a_waiting j, a_slotLabel, a_slotValue)) : wpX_beginRun post (f_draftCount, f_stackCount, f_termCount, f_root, f_sentCount, f_walkedFrom, a_draftKind, a_draftFrom, a_draftTo, a_draftNumber, a_draftFirst, a_draftSecond, a_draftParent, a_stack, a_kind, a_from, a_to, a_number, a_first, a_second, a_place, a_picked, a_lastGot, a_oldest, a_waiting, a_slotLabel, a_slotValue) := by
  refine loop_0 (fun n i (s : (Nat → Int32) × (Nat → Int32) × (Nat → Int32)) => wX_beginRun_2 post f_draftCount f_stackCount f_termCount f_root f_sentCount f_walkedFrom n (nI i) a_draftKind a_draftFrom a_draftTo a_draftNumber a_draftFirst a_draftSecond a_draftParent a_stack a_kind a_from a_to a_number a_first a_second (s.1) (s.2.1) (s.2.2) a_oldest a_waiting a_slotLabel a_slotValue)
    (fun i s => s = ((fun j => if j < i then f_root else a_place j), (fun j => if j < i then -1 else a_picked j), (fun j => if j < i then 0 else a_lastGot j))) 3 (a_place, a_picked, a_lastGot) ?_ ?_ ?_
  · simp
  · intro n s e
    subst e
    exact br_t (nI_le (a := 3) (b := 3) (by omega) (by decide)) (xs_br39 h)
  · intro n i s hi e hk
    subst e
    have i3 : vp_in (nI i) 3 := vp_in_nI hi (by decide)
    refine br_f (nI_ge (b := 3) hi (by decide)) ⟨i3, nm_e ⟨i3, nm_e ⟨i3, nm_e (nm_r (nI_1 i) (hk (_, _, _) ?_))⟩⟩⟩
    rw [nI_clamp (n := i) (by omega)]
    exact Prod.ext (pr_updlt i) (Prod.ext (pr_updlt i) (pr_updlt i))
end
end PRK
