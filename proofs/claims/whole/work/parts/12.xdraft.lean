section PRL
/-! the component: the draft -/
section
variable {f_draftCount f_stackCount f_termCount f_root f_sentCount f_walkedFrom : Int32} {a_draftKind a_draftFrom a_draftTo a_draftNumber a_draftFirst a_draftSecond a_draftParent a_stack a_kind a_from a_to a_number a_first a_second a_place a_picked a_lastGot a_oldest a_waiting a_slotLabel a_slotValue : Nat → Int32} {d : dd_T} {m e : Nat} {st : Nat → Nat}
theorem dd_ale (ok : dd_ok d m e st) {q : Nat} (hq : q ≤ e) : dd_a st m e q ≤ m := by
  unfold dd_a
  split
  · have := (ok.2.2.2.2.1 (e - q) (by omega)).1
    omega
  · exact Nat.le_refl m
theorem dd_ble (ok : dd_ok d m e st) {q : Nat} (hq : q ≤ e) : dd_b st m e q ≤ m := by
  unfold dd_b
  split
  · have := (ok.2.2.2.2.1 (e - q + 1) (by omega)).1
    omega
  · exact dd_ale ok hq
theorem xr_D_put {q k f t n : Nat} (D : xr_D d m e st f_draftCount f_stackCount a_draftKind a_draftFrom a_draftTo a_draftNumber a_draftFirst a_draftSecond a_draftParent a_stack) (hq : q ≤ e) (hn4 : n < 4) (a b : Nat) :
    xr_D (dd_put d m k f t n a b) (m + 1) (e - q + 1) (pr_fu st (e - q) m) (nI (m + 1)) (nI (e - q + 1)) (upd a_draftKind m (nI k)) (upd a_draftFrom m (nI f)) (upd a_draftTo m (nI t)) (upd a_draftNumber m (nI n)) (upd a_draftFirst m (nI a)) (upd a_draftSecond m (nI b)) (upd (upd (upd a_draftParent a (nI m)) b (nI m)) m (-1)) (upd a_stack (e - q) (nI m)) := by
  obtain ⟨-, -, h1, h2, h3⟩ := D
  refine ⟨rfl, rfl, ?_, ?_, ?_⟩
  · intro i hi
    by_cases c : i = m
    · subst c
      refine ⟨?_, ?_, ?_, ?_, ?_, ?_, ?_⟩
      · rw [pk_us]; exact congrArg nI (pr_fus _ _ _).symm
      · rw [pk_us]; exact congrArg nI (pr_fus _ _ _).symm
      · rw [pk_us]; exact congrArg nI (pr_fus _ _ _).symm
      · rw [pk_us]; exact congrArg nI (pr_fus _ _ _).symm
      · rw [pk_us]; exact congrArg nI (pr_fus _ _ _).symm
      · rw [pk_us]; exact congrArg nI (pr_fus _ _ _).symm
      · rw [pk_us]; exact congrArg pr_oI (pr_fus _ _ (none : Option Nat)).symm
    · obtain ⟨g1, g2, g3, g4, g5, g6, g7⟩ := h1 i (by omega)
      refine ⟨?_, ?_, ?_, ?_, ?_, ?_, ?_⟩
      · rw [pk_un c, g1]; exact congrArg nI (pr_fun _ _ c).symm
      · rw [pk_un c, g2]; exact congrArg nI (pr_fun _ _ c).symm
      · rw [pk_un c, g3]; exact congrArg nI (pr_fun _ _ c).symm
      · rw [pk_un c, g4]; exact congrArg nI (pr_fun _ _ c).symm
      · rw [pk_un c, g5]; exact congrArg nI (pr_fun _ _ c).symm
      · rw [pk_un c, g6]; exact congrArg nI (pr_fun _ _ c).symm
      · rw [pk_un c]
        show _ = pr_oI (pr_fu (pr_fu (pr_fu (dd_p d) a (some m)) b (some m)) m none i)
        rw [pr_fun _ _ c]
        by_cases cb : i = b
        · rw [cb, pk_us, pr_fus]; rfl
        · rw [pk_un cb, pr_fun _ _ cb]
          by_cases ca : i = a
          · rw [ca, pk_us, pr_fus]; rfl
          · rw [pk_un ca, pr_fun _ _ ca, g7]
  · intro i hi
    by_cases c : i = e - q
    · rw [c, pk_us, pr_fus]
    · rw [pk_un c, pr_fun _ _ c]
      exact h2 i (by omega)
  · intro i hi
    by_cases c : i = m
    · subst c
      show pr_fu (dd_n d) i n i < 4
      rw [pr_fus]; exact hn4
    · show pr_fu (dd_n d) m n i < 4
      rw [pr_fun _ _ c]; exact h3 i (by omega)
theorem xs_pushTerm {post : Int32 → SX → Prop} {q k f t n : Nat} (ok : dd_ok d m e st) (D : xr_D d m e st f_draftCount f_stackCount a_draftKind a_draftFrom a_draftTo a_draftNumber a_draftFirst a_draftSecond a_draftParent a_stack) (hq2 : q ≤ 2)
    (h20 : ¬ m < 20 → post (-2) (f_draftCount, f_stackCount, f_termCount, f_root, f_sentCount, f_walkedFrom, a_draftKind, a_draftFrom, a_draftTo, a_draftNumber, a_draftFirst, a_draftSecond, a_draftParent, a_stack, a_kind, a_from, a_to, a_number, a_first, a_second, a_place, a_picked, a_lastGot, a_oldest, a_waiting, a_slotLabel, a_slotValue)) (hfew : m < 20 → e < q → post (-3) (f_draftCount, f_stackCount, f_termCount, f_root, f_sentCount, f_walkedFrom, a_draftKind, a_draftFrom, a_draftTo, a_draftNumber, a_draftFirst, a_draftSecond, a_draftParent, a_stack, a_kind, a_from, a_to, a_number, a_first, a_second, a_place, a_picked, a_lastGot, a_oldest, a_waiting, a_slotLabel, a_slotValue))
    (h : m < 20 → q ≤ e → post (nI (e - q + 1)) (nI (m + 1), nI (e - q + 1), f_termCount, f_root, f_sentCount, f_walkedFrom, upd a_draftKind m (nI k), upd a_draftFrom m (nI f), upd a_draftTo m (nI t), upd a_draftNumber m (nI n), upd a_draftFirst m (nI (dd_a st m e q)), upd a_draftSecond m (nI (dd_b st m e q)), upd (upd (upd a_draftParent (dd_a st m e q) (nI m)) (dd_b st m e q) (nI m)) m (-1), upd a_stack (e - q) (nI m), a_kind, a_from, a_to, a_number, a_first, a_second, a_place, a_picked, a_lastGot, a_oldest, a_waiting, a_slotLabel, a_slotValue)) :
    wpX_pushTerm post (f_draftCount, f_stackCount, f_termCount, f_root, f_sentCount, f_walkedFrom, a_draftKind, a_draftFrom, a_draftTo, a_draftNumber, a_draftFirst, a_draftSecond, a_draftParent, a_stack, a_kind, a_from, a_to, a_number, a_first, a_second, a_place, a_picked, a_lastGot, a_oldest, a_waiting, a_slotLabel, a_slotValue) (nI k) (nI f) (nI t) (nI n) (nI q) := by
  obtain ⟨c1, c2, h1, h2, -⟩ := D
  have om := ok.1
  have oe := ok.2.1
  subst c1 c2
  refine pk_lt m 20 (fun hm => pk_le q e (fun hq => ?_) (fun hq => hfew hm hq)) (fun hm => h20 (by omega))
  have h := h hm hq
  have ha := dd_ale ok hq
  have hb := dd_ble ok hq
  have i20 : vp_in (nI m) 20 := vp_in_nI hm (by decide)
  have key : ∀ z0 : Int32, z0 = nI (dd_a st m e q) → wX_pushTerm_109 post (nI q) (nI m) z0 (nI m) (nI (m + 1)) (nI (e - q)) f_termCount f_root f_sentCount f_walkedFrom (upd a_draftKind m (nI k)) (upd a_draftFrom m (nI f)) (upd a_draftTo m (nI t)) (upd a_draftNumber m (nI n)) a_draftFirst a_draftSecond a_draftParent a_stack a_kind a_from a_to a_number a_first a_second a_place a_picked a_lastGot a_oldest a_waiting a_slotLabel a_slotValue := by
    intro z0 ez
    subst ez
    have key2 : ∀ z0 : Int32, z0 = nI (dd_b st m e q) → wX_pushTerm_143 post (nI m) z0 (nI m) (nI (m + 1)) (nI (e - q)) f_termCount f_root f_sentCount f_walkedFrom (upd a_draftKind m (nI k)) (upd a_draftFrom m (nI f)) (upd a_draftTo m (nI t)) (upd a_draftNumber m (nI n)) (upd a_draftFirst m (nI (dd_a st m e q))) a_draftSecond a_draftParent a_stack a_kind a_from a_to a_number a_first a_second a_place a_picked a_lastGot a_oldest a_waiting a_slotLabel a_slotValue := by
      intro z0 ez
      subst ez
      unfold wX_pushTerm_143
      rw [nI_clamp (n := m) (by omega), nI_clamp (n := e - q) (by omega), pk_us, nI_clamp (n := dd_a st m e q) (by omega)]
      refine ⟨i20, nm_e ?_⟩
      rw [pk_us, nI_clamp (n := dd_b st m e q) (by omega)]
      exact ⟨i20, vp_in_nI (by omega) (by decide), nm_e ⟨i20, vp_in_nI (by omega) (by decide), nm_e ⟨i20, nm_e ⟨vp_in_nI (by omega) (by decide), nm_e (nm_r (nI_1 _) h)⟩⟩⟩⟩
    unfold wX_pushTerm_109
    rw [nI_clamp (n := m) (by omega)]
    refine ⟨i20, nm_e (pk_le q 1 (fun c => ⟨i20, key2 _ ?_⟩) (fun c => ?_))⟩
    · rw [pk_us]
      unfold dd_b
      rw [if_neg (by omega)]
    · rw [nI_1, nI_clamp (n := e - q + 1) (by omega)]
      refine ⟨vp_in_nI (by omega) (by decide), key2 _ ?_⟩
      rw [h2 (e - q + 1) (by omega)]
      unfold dd_b
      rw [if_pos c]
  refine nm_r (nI_1 m) (nm_r (pk_sub hq) ?_)
  rw [nI_clamp (n := m) (by omega), nI_clamp (n := e - q) (by omega)]
  refine ⟨i20, nm_e ⟨i20, nm_e ⟨i20, nm_e ⟨i20, nm_e (pk_le q 0 (fun c => key _ ?_) (fun c => ⟨vp_in_nI (by omega) (by decide), key _ ?_⟩))⟩⟩⟩⟩
  · unfold dd_a
    rw [if_neg (by omega)]
  · rw [h2 (e - q) (by omega)]
    unfold dd_a
    rw [if_pos c]
/-- the component's loopOf -/
def dd_lo (o : Option (Nat × Bool)) : Int32 := match o with
  | some (l, true) => nI l
  | _ => -1
theorem xs_lo12 {post : Int32 → Prop} {i : Nat} (ok : dd_ok d m e st) (D : xr_D d m e st f_draftCount f_stackCount a_draftKind a_draftFrom a_draftTo a_draftNumber a_draftFirst a_draftSecond a_draftParent a_stack) (hi : i < m) : ∀ (q s : Nat) (o : Option Nat) (b : Bool), (∀ t, o = some t → t < m ∧ 1 ≤ dd_k d t) → s + q = 20 → post (dd_lo (dd_up (dd_k d) (dd_n d) (dd_p d) (dd_n d i) q o b)) → wX_loopOf_12 post (nI i) f_draftCount f_stackCount f_termCount f_root f_sentCount f_walkedFrom a_draftKind a_draftFrom a_draftTo a_draftNumber a_draftFirst a_draftSecond a_draftParent a_stack a_kind a_from a_to a_number a_first a_second a_place a_picked a_lastGot a_oldest a_waiting a_slotLabel a_slotValue (q + 1) (pr_bI b) (pr_oI o) (nI s) := by
  have om := ok.1
  have hin := dd_dd_in ok
  have hn : ∀ j, j < m → dd_n d j < 2 ^ 31 := fun j hj => by have := D.2.2.2.2 j hj; omega
  intro q
  induction q with
  | zero =>
    intro s o b ho hs h
    have : s = 20 := by omega
    subst this
    exact br_t (nI_le (a := 20) (b := 20) (by omega) (by decide)) h
  | succ q ih =>
    intro s o b ho hs h
    refine br_f (nI_ge (b := 20) (by omega) (by decide)) ?_
    cases o with
    | none => exact br_t rfl h
    | some t =>
      have ht := (ho t rfl).1
      have hk1 := (ho t rfl).2
      have i20 : vp_in (nI t) 20 := vp_in_nI (by omega) (by decide)
      obtain ⟨g1, g2, g3, g4, g5, g6, g7⟩ := D.2.2.1 t ht
      have gi := (D.2.2.1 i hi).2.2.2.1
      have bk := (ok.2.2.2.2.2.2 t ht).1
      refine br_f (pr_nm1 (by omega)) ?_
      have h' : post (dd_lo (if dd_k d t = 3 ∧ dd_n d t = dd_n d i then some (t, b) else dd_up (dd_k d) (dd_n d) (dd_p d) (dd_n d i) q (dd_p d t) (b || decide (dd_k d t < 3)))) := h
      have hp : ∀ s', dd_p d t = some s' → s' < m ∧ 1 ≤ dd_k d s' := fun s' hs' => ⟨(hin t ht s' hs').2.1, (hin t ht s' hs').2.2.1⟩
      have key : ¬ (dd_k d t = 3 ∧ dd_n d t = dd_n d i) → wX_loopOf_59 post (wX_loopOf_12 post (nI i) f_draftCount f_stackCount f_termCount f_root f_sentCount f_walkedFrom a_draftKind a_draftFrom a_draftTo a_draftNumber a_draftFirst a_draftSecond a_draftParent a_stack a_kind a_from a_to a_number a_first a_second a_place a_picked a_lastGot a_oldest a_waiting a_slotLabel a_slotValue (q + 1)) (nI i) (pr_bI b) (nI t) (nI s) f_draftCount f_stackCount f_termCount f_root f_sentCount f_walkedFrom a_draftKind a_draftFrom a_draftTo a_draftNumber a_draftFirst a_draftSecond a_draftParent a_stack a_kind a_from a_to a_number a_first a_second a_place a_picked a_lastGot a_oldest a_waiting a_slotLabel a_slotValue := by
        intro hne
        rw [if_neg hne] at h'
        unfold wX_loopOf_59 wX_loopOf_79
        rw [nI_clamp (n := t) (by omega), g1]
        refine ⟨i20, pk_eq (dd_k d t) 1 (fun c => ⟨i20, nm_r g7 (nm_r (nI_1 s) ?_)⟩) (fun c1 => ⟨i20, pk_eq (dd_k d t) 2 (fun c => ⟨i20, nm_r g7 (nm_r (nI_1 s) ?_)⟩) (fun c2 => ⟨i20, nm_r g7 (nm_r (nI_1 s) ?_)⟩)⟩)⟩
        · refine ih (s + 1) (dd_p d t) true hp (by omega) ?_
          rw [show (b || decide (dd_k d t < 3)) = true from by simp [c]] at h'
          exact h'
        · refine ih (s + 1) (dd_p d t) true hp (by omega) ?_
          rw [show (b || decide (dd_k d t < 3)) = true from by simp [c]] at h'
          exact h'
        · refine ih (s + 1) (dd_p d t) b hp (by omega) ?_
          rw [show (b || decide (dd_k d t < 3)) = b from by
            have : ¬ dd_k d t < 3 := by omega
            simp [this]] at h'
          exact h'
      refine ⟨i20, ?_⟩
      rw [show pr_oI (some t) = nI t from rfl, nI_clamp (n := t) (by omega), nI_clamp (n := i) (by omega), g1, g4, gi]
      refine pk_eq (dd_k d t) 3 (fun c => ⟨i20, vp_in_nI (by omega) (by decide), pk_eq (dd_n d t) (dd_n d i) (fun c2 => ?_) (fun c2 => key (fun z => c2 z.2)) rfl rfl (hn t ht) (hn i hi)⟩) (fun c => key (fun z => c z.1))
      rw [if_pos ⟨c, c2⟩] at h'
      cases b with
      | false => exact br_t rfl h'
      | true => exact br_f (by decide) h'
theorem xs_loopOf {post : Int32 → Prop} {i : Nat} (ok : dd_ok d m e st) (D : xr_D d m e st f_draftCount f_stackCount a_draftKind a_draftFrom a_draftTo a_draftNumber a_draftFirst a_draftSecond a_draftParent a_stack) (hi : i < m) (h : post (dd_lo (dd_up (dd_k d) (dd_n d) (dd_p d) (dd_n d i) 20 (dd_p d i) false))) : wpX_loopOf post (f_draftCount, f_stackCount, f_termCount, f_root, f_sentCount, f_walkedFrom, a_draftKind, a_draftFrom, a_draftTo, a_draftNumber, a_draftFirst, a_draftSecond, a_draftParent, a_stack, a_kind, a_from, a_to, a_number, a_first, a_second, a_place, a_picked, a_lastGot, a_oldest, a_waiting, a_slotLabel, a_slotValue) (nI i) := by
  have om := ok.1
  have hin := dd_dd_in ok
  refine ⟨vp_in_nI (by omega) (by decide), nm_r (e' := pr_oI (dd_p d i)) ?_ ⟨20 + 1, ?_⟩⟩
  · rw [nI_clamp (n := i) (by omega)]
    exact (D.2.2.1 i hi).2.2.2.2.2.2
  · exact xs_lo12 ok D hi 20 0 (dd_p d i) false (fun t ht => ⟨(hin i hi t ht).2.1, (hin i hi t ht).2.2.1⟩) (by omega) h
/-- every again has its loop -/
def dd_fit (d : dd_T) (m : Nat) : Prop := ∀ i, i < m → dd_k d i = 4 → ∃ l, dd_up (dd_k d) (dd_n d) (dd_p d) (dd_n d i) 20 (dd_p d i) false = some (l, true)
theorem dd_lo_m1 {ok : dd_ok d m e st} {i : Nat} (hi : i < m) : dd_lo (dd_up (dd_k d) (dd_n d) (dd_p d) (dd_n d i) 20 (dd_p d i) false) = -1 ↔ ¬ ∃ l, dd_up (dd_k d) (dd_n d) (dd_p d) (dd_n d i) 20 (dd_p d i) false = some (l, true) := by
  have om := ok.1
  have hin := dd_dd_in ok
  have hl := dd_up_l (x := dd_n d) (tt := dd_n d i) hin 20 (dd_p d i) false
  cases hu : dd_up (dd_k d) (dd_n d) (dd_p d) (dd_n d i) 20 (dd_p d i) false with
  | none => exact ⟨fun _ => fun ⟨l, h⟩ => absurd h (by simp), fun _ => rfl⟩
  | some y =>
    obtain ⟨l, b⟩ := y
    cases b with
    | false => exact ⟨fun _ => fun ⟨l, h⟩ => absurd h (by simp), fun _ => rfl⟩
    | true =>
      have := (hl l true (fun t ht => (hin i hi t ht).2.1) hu).1
      exact ⟨fun h => absurd h (pr_nm1 (by omega)), fun h => absurd ⟨l, rfl⟩ h⟩
theorem xs_every {post : Int32 → Prop} (ok : dd_ok d m e st) (D : xr_D d m e st f_draftCount f_stackCount a_draftKind a_draftFrom a_draftTo a_draftNumber a_draftFirst a_draftSecond a_draftParent a_stack) (h1 : dd_fit d m → post 1) (h0 : ¬ dd_fit d m → post 0) : wpX_everyAgainHasItsLoop post (f_draftCount, f_stackCount, f_termCount, f_root, f_sentCount, f_walkedFrom, a_draftKind, a_draftFrom, a_draftTo, a_draftNumber, a_draftFirst, a_draftSecond, a_draftParent, a_stack, a_kind, a_from, a_to, a_number, a_first, a_second, a_place, a_picked, a_lastGot, a_oldest, a_waiting, a_slotLabel, a_slotValue) := by
  have om := ok.1
  have hc := D.1
  subst hc
  refine loop_0 (fun n i (_ : Unit) => wX_everyAgainHasItsLoop_2 post (nI m) f_stackCount f_termCount f_root f_sentCount f_walkedFrom a_draftKind a_draftFrom a_draftTo a_draftNumber a_draftFirst a_draftSecond a_draftParent a_stack a_kind a_from a_to a_number a_first a_second a_place a_picked a_lastGot a_oldest a_waiting a_slotLabel a_slotValue n (nI i))
    (fun i _ => ∀ j, j < i → dd_k d j = 4 → ∃ l, dd_up (dd_k d) (dd_n d) (dd_p d) (dd_n d j) 20 (dd_p d j) false = some (l, true)) m () ?_ ?_ ?_
  · intro j hj; omega
  · intro n s hI
    exact br_t (nI_le (by omega) (by omega)) (h1 hI)
  · intro n i s hi hI hk
    have i20 : vp_in (nI i) 20 := vp_in_nI (by omega) (by decide)
    refine br_f (nI_ge hi (by omega)) ⟨i20, ?_⟩
    rw [nI_clamp (n := i) (by omega), (D.2.2.1 i hi).1]
    have bk := (ok.2.2.2.2.2.2 i hi).1
    refine pk_eq (dd_k d i) 4 (fun c => xs_loopOf ok D hi ?_) (fun c => nm_r (nI_1 i) (hk () ?_))
    · by_cases z : ∃ l, dd_up (dd_k d) (dd_n d) (dd_p d) (dd_n d i) 20 (dd_p d i) false = some (l, true)
      · refine br_f (fun y => (dd_lo_m1 (ok := ok) hi).mp y z) (nm_r (nI_1 i) (hk () ?_))
        intro j hj k4
        by_cases cj : j = i
        · subst cj; exact z
        · exact hI j (by omega) k4
      · exact br_t ((dd_lo_m1 (ok := ok) hi).mpr z) (h0 (fun F => z (F i hi c)))
    · intro j hj k4
      by_cases cj : j = i
      · subst cj; exact absurd k4 c
      · exact hI j (by omega) k4
end
end PRL
