section PRJ
/-! the component: the relation of its state, and its reading methods -/
def pr_oI : Option Nat → Int32
  | none => -1
  | some x => nI x
theorem pr_nm1 {a : Nat} (h : a < 2 ^ 31) : ¬ nI a = -1 := by
  intro e
  have h1 := nI_pos (n := a) h
  rw [e] at h1
  exact h1 (by decide)
theorem pr_ix3 (p q : Nat) : nI p * 3 + nI q = nI (p * 3 + q) := by
  rw [show (3 : Int32) = nI 3 from rfl, pk_mul, nI_add]
def xr_D (d : dd_T) (m e : Nat) (st : Nat → Nat) (f_draftCount f_stackCount : Int32) (a_draftKind a_draftFrom a_draftTo a_draftNumber a_draftFirst a_draftSecond a_draftParent a_stack : Nat → Int32) : Prop :=
  f_draftCount = nI m ∧ f_stackCount = nI e ∧ (∀ i, i < m → a_draftKind i = nI (dd_k d i) ∧ a_draftFrom i = nI (dd_f d i) ∧ a_draftTo i = nI (dd_t d i) ∧ a_draftNumber i = nI (dd_n d i) ∧ a_draftFirst i = nI (dd_1 d i) ∧ a_draftSecond i = nI (dd_2 d i) ∧ a_draftParent i = pr_oI (dd_p d i)) ∧ (∀ i, i < e → a_stack i = nI (st i)) ∧ (∀ i, i < m → dd_n d i < 4)
def xr_P (g : pg_T) (f_termCount f_root : Int32) (a_kind a_from a_to a_number a_first a_second : Nat → Int32) : Prop :=
  f_termCount = nI (pg_n g) ∧ f_root = nI (pg_n g - 1) ∧ (∀ i, i < pg_n g → a_kind i = nI (pg_k g i) ∧ a_from i = nI (pg_f g i) ∧ a_to i = nI (pg_t g i) ∧ a_number i = pg_l g i ∧ a_first i = nI (pg_1 g i) ∧ a_second i = nI (pg_2 g i))
def xr_R (R : List ro_T) (w : Nat) (pl : Nat → Nat) (pk : Nat → Option Nat) (la : Nat → Int32) (f_walkedFrom : Int32) (a_place a_picked a_lastGot a_oldest a_waiting a_slotLabel a_slotValue : Nat → Int32) : Prop :=
  f_walkedFrom = nI w ∧ (∀ r, r < 3 → a_place r = nI (pl r) ∧ a_picked r = pr_oI (pk r) ∧ a_lastGot r = la r) ∧ pr_ring a_oldest a_waiting a_slotLabel a_slotValue R
section
variable {f_draftCount f_stackCount f_termCount f_root f_sentCount f_walkedFrom : Int32} {a_draftKind a_draftFrom a_draftTo a_draftNumber a_draftFirst a_draftSecond a_draftParent a_stack a_kind a_from a_to a_number a_first a_second a_place a_picked a_lastGot a_oldest a_waiting a_slotLabel a_slotValue : Nat → Int32} {g : pg_T}
theorem xr_at {t : Nat} (ok : pg_ok g) (P : xr_P g f_termCount f_root a_kind a_from a_to a_number a_first a_second) (ht : t < pg_n g) :
    vp_in (nI t) 20 ∧ a_kind (nI t).toNatClampNeg = nI (pg_k g t) ∧ a_from (nI t).toNatClampNeg = nI (pg_f g t) ∧ a_to (nI t).toNatClampNeg = nI (pg_t g t) ∧ a_number (nI t).toNatClampNeg = pg_l g t ∧ a_first (nI t).toNatClampNeg = nI (pg_1 g t) ∧ a_second (nI t).toNatClampNeg = nI (pg_2 g t) := by
  have h20 := ok.2.1
  rw [nI_clamp (by omega)]
  exact ⟨vp_in_nI (by omega) (by omega), P.2.2 t ht⟩
theorem xs_isRole {post : Int32 → Prop} {r : Nat} (hr : r < 3) (h : post 1) : wpX_isRole post (nI r) :=
  br_f (nI_pos (by omega)) (br_f (nI_ge (b := 3) hr (by decide)) h)
theorem xs_noRole {post : Int32 → Prop} {x : Int32} (hx : x < 0 ∨ nI 3 ≤ x) (h : post 0) : wpX_isRole post x := by
  by_cases c : x < 0
  · exact br_t c h
  · exact br_f c (br_t (hx.resolve_left c) h)
theorem xs_concerns {post : Int32 → Prop} {r t : Nat} (ok : pg_ok g) (P : xr_P g f_termCount f_root a_kind a_from a_to a_number a_first a_second) (ht : t < pg_n g) (hr : r < 3) (h1 : pg_c g r t → post 1) (h0 : ¬ pg_c g r t → post 0) : wpX_concerns post (f_draftCount, f_stackCount, f_termCount, f_root, f_sentCount, f_walkedFrom, a_draftKind, a_draftFrom, a_draftTo, a_draftNumber, a_draftFirst, a_draftSecond, a_draftParent, a_stack, a_kind, a_from, a_to, a_number, a_first, a_second, a_place, a_picked, a_lastGot, a_oldest, a_waiting, a_slotLabel, a_slotValue) (nI t) (nI r) := by
  obtain ⟨i, ek, ef, et, -⟩ := xr_at ok P ht
  obtain ⟨b1, -, -, b2, -⟩ := ok.2.2.1 t ht
  refine ⟨i, pk_eq (pg_k g t) 2 (fun e => h1 (Or.inl e)) (fun n2 => ⟨i, pk_eq (pg_k g t) 1 (fun e1 => ⟨i, pk_eq (pg_f g t) r (fun e => h1 (Or.inr ⟨e1, Or.inl e⟩)) (fun nf => ⟨i, pk_eq (pg_t g t) r (fun e => h1 (Or.inr ⟨e1, Or.inr e⟩)) (fun nt => h0 ?_) et rfl (by have := b2 e1; omega)⟩) ef rfl (by have := b2 e1; omega)⟩) (fun n1 => h0 ?_) ek⟩) ek⟩
  · rintro (z | ⟨-, z | z⟩)
    · exact n2 z
    · exact nf z
    · exact nt z
  · rintro (z | ⟨z, -⟩)
    · exact n2 z
    · exact n1 z
theorem xs_nt_f {post : Int32 → Prop} {r : Nat} (ok : pg_ok g) (P : xr_P g f_termCount f_root a_kind a_from a_to a_number a_first a_second) (hr : r < 3) : ∀ (j s t : Nat), t < pg_n g → (∀ i, i < j → ¬ pg_c g r (pr_it (pg_1 g) i t)) → pg_c g r (pr_it (pg_1 g) j t) → s + j < 20 → post (nI (pr_it (pg_1 g) j t)) → wX_nextTerm_9 post (nI r) f_draftCount f_stackCount f_termCount f_root f_sentCount f_walkedFrom a_draftKind a_draftFrom a_draftTo a_draftNumber a_draftFirst a_draftSecond a_draftParent a_stack a_kind a_from a_to a_number a_first a_second a_place a_picked a_lastGot a_oldest a_waiting a_slotLabel a_slotValue (j + 1) (nI t) (nI s) := by
  intro j
  induction j with
  | zero =>
    intro s t ht _ hc hs h
    exact br_f (nI_ge (b := 20) (by omega) (by decide)) (xs_concerns ok P ht hr (fun _ => br_f (by decide) h) (fun z => absurd hc z))
  | succ j ih =>
    intro s t ht hn hc hs h
    obtain ⟨i, ek, ef, et, el, e1, e2⟩ := xr_at ok P ht
    refine br_f (nI_ge (b := 20) (by omega) (by decide)) (xs_concerns ok P ht hr (fun z => absurd z (hn 0 (by omega))) (fun _ => br_t rfl ⟨i, nm_r e1 (nm_r (nI_1 s) ?_)⟩))
    exact ih (s + 1) (pg_1 g t) (pg_1lt ok ht) (fun i hi => hn (i + 1) (by omega)) hc (by omega) h
theorem xs_nt_n {post : Int32 → Prop} {r : Nat} (ok : pg_ok g) (P : xr_P g f_termCount f_root a_kind a_from a_to a_number a_first a_second) (hr : r < 3) : ∀ (q s t : Nat), t < pg_n g → (∀ i, ¬ pg_c g r (pr_it (pg_1 g) i t)) → s + q = 20 → post (-1) → wX_nextTerm_9 post (nI r) f_draftCount f_stackCount f_termCount f_root f_sentCount f_walkedFrom a_draftKind a_draftFrom a_draftTo a_draftNumber a_draftFirst a_draftSecond a_draftParent a_stack a_kind a_from a_to a_number a_first a_second a_place a_picked a_lastGot a_oldest a_waiting a_slotLabel a_slotValue (q + 1) (nI t) (nI s) := by
  intro q
  induction q with
  | zero =>
    intro s t ht _ hs h
    have : s = 20 := by omega
    subst this
    exact br_t (nI_le (a := 20) (b := 20) (by omega) (by decide)) h
  | succ q ih =>
    intro s t ht hn hs h
    obtain ⟨i, ek, ef, et, el, e1, e2⟩ := xr_at ok P ht
    refine br_f (nI_ge (b := 20) (by omega) (by decide)) (xs_concerns ok P ht hr (fun z => absurd z (hn 0)) (fun _ => br_t rfl ⟨i, nm_r e1 (nm_r (nI_1 s) ?_)⟩))
    exact ih (s + 1) (pg_1 g t) (pg_1lt ok ht) (fun i => hn (i + 1)) (by omega) h
theorem xs_nextTerm {post : Int32 → Prop} {r t x : Nat} (ok : pg_ok g) (P : xr_P g f_termCount f_root a_kind a_from a_to a_number a_first a_second) (hr : r < 3) (hpl : a_place r = nI t) (ht : t < pg_n g) (hs : pr_sk (pg_c g r) (pg_1 g) t x) (hc : pg_c g r x) (h : post (nI x)) : wpX_nextTerm post (f_draftCount, f_stackCount, f_termCount, f_root, f_sentCount, f_walkedFrom, a_draftKind, a_draftFrom, a_draftTo, a_draftNumber, a_draftFirst, a_draftSecond, a_draftParent, a_stack, a_kind, a_from, a_to, a_number, a_first, a_second, a_place, a_picked, a_lastGot, a_oldest, a_waiting, a_slotLabel, a_slotValue) (nI r) := by
  obtain ⟨k, hk, e, hn⟩ := pr_sk_n (fun _ => pg_1lt ok) ht hs hc
  have h20 := ok.2.1
  subst e
  refine ⟨vp_in_nI hr (by decide), nm_r (show a_place (nI r).toNatClampNeg = nI t from by rw [nI_clamp (by omega)]; exact hpl) ⟨k + 1, ?_⟩⟩
  exact xs_nt_f ok P hr k 0 t ht hn hc (by omega) h
theorem xs_nowhere {post : Int32 → Prop} {r t : Nat} (ok : pg_ok g) (P : xr_P g f_termCount f_root a_kind a_from a_to a_number a_first a_second) (hr : r < 3) (hpl : a_place r = nI t) (ht : t < pg_n g) (hn : ∀ j, ¬ pg_c g r (pr_it (pg_1 g) j t)) (h : post (-1)) : wpX_nextTerm post (f_draftCount, f_stackCount, f_termCount, f_root, f_sentCount, f_walkedFrom, a_draftKind, a_draftFrom, a_draftTo, a_draftNumber, a_draftFirst, a_draftSecond, a_draftParent, a_stack, a_kind, a_from, a_to, a_number, a_first, a_second, a_place, a_picked, a_lastGot, a_oldest, a_waiting, a_slotLabel, a_slotValue) (nI r) := by
  refine ⟨vp_in_nI hr (by decide), nm_r (show a_place (nI r).toNatClampNeg = nI t from by rw [nI_clamp (by omega)]; exact hpl) ⟨20 + 1, ?_⟩⟩
  exact xs_nt_n ok P hr 20 0 t ht hn (by omega) h
/-- the other side of r's next action at term t -/
def pg_o (g : pg_T) (pk : Option Nat) (r t : Nat) : Nat := if pg_f g t = r then (if pg_k g t = 1 then pg_t g t else if pk = none then pr_les r else pr_gre r) else pg_f g t
theorem xs_lesser {post : Int32 → Prop} {r : Nat} (hr : r < 3) (h : post (nI (pr_les r))) : wpX_lesserOther post (nI r) := by
  have : r = 0 ∨ r = 1 ∨ r = 2 := by omega
  rcases this with e | e | e <;> subst e
  · exact br_t rfl h
  · exact br_f (by decide) h
  · exact br_f (by decide) h
theorem xs_greater {post : Int32 → Prop} {r : Nat} (hr : r < 3) (h : post (nI (pr_gre r))) : wpX_greaterOther post (nI r) := by
  have : r = 0 ∨ r = 1 ∨ r = 2 := by omega
  rcases this with e | e | e <;> subst e
  · exact br_f (by decide) h
  · exact br_f (by decide) h
  · exact br_t rfl h
theorem pg_cf {r t : Nat} (ok : pg_ok g) (ht : t < pg_n g) (hc : pg_c g r t) : pg_f g t < 3 ∧ (pg_k g t = 1 → pg_t g t < 3 ∧ pg_f g t ≠ pg_t g t) := by
  obtain ⟨b1, -, -, b2, b3, -⟩ := ok.2.2.1 t ht
  rcases hc with z | ⟨z, -⟩
  · exact ⟨b3 z, fun y => by omega⟩
  · have := b2 z
    exact ⟨this.1, fun _ => this.2⟩
theorem xs_otherSide {post : Int32 → Prop} {r t : Nat} {pk : Option Nat} (ok : pg_ok g) (P : xr_P g f_termCount f_root a_kind a_from a_to a_number a_first a_second) (ht : t < pg_n g) (hr : r < 3) (hc : pg_c g r t) (hp : a_picked r = pr_oI pk) (hpk : ∀ c, pk = some c → c < 2) (h : post (nI (pg_o g pk r t))) : wpX_otherSide post (f_draftCount, f_stackCount, f_termCount, f_root, f_sentCount, f_walkedFrom, a_draftKind, a_draftFrom, a_draftTo, a_draftNumber, a_draftFirst, a_draftSecond, a_draftParent, a_stack, a_kind, a_from, a_to, a_number, a_first, a_second, a_place, a_picked, a_lastGot, a_oldest, a_waiting, a_slotLabel, a_slotValue) (nI t) (nI r) := by
  obtain ⟨i, ek, ef, et, -⟩ := xr_at ok P ht
  obtain ⟨b1, -⟩ := ok.2.2.1 t ht
  have b2 := pg_cf ok ht hc
  unfold pg_o at h
  refine ⟨i, pk_eq (pg_f g t) r (fun e => ⟨i, pk_eq (pg_k g t) 1 (fun e1 => ⟨i, ?_⟩) (fun n1 => ⟨vp_in_nI hr (by decide), ?_⟩) ek⟩) (fun nf => ⟨i, ?_⟩) ef⟩
  · rw [if_pos e, if_pos e1] at h
    rw [et]; exact h
  · rw [if_pos e, if_neg n1] at h
    rw [nI_clamp (by omega), hp]
    cases pk with
    | none => exact br_t rfl (xs_lesser hr h)
    | some c => exact br_f (pr_nm1 (by have := hpk c rfl; omega)) (xs_greater hr h)
  · rw [if_neg nf] at h
    rw [ef]; exact h
def pg_si (g : pg_T) (pk : Option Nat) (W : Nat → Nat → Nat) (r t : Nat) : Nat := if pg_f g t = r then (if 4 ≤ W r (pg_o g pk r t) then 2 else 1) else (if W (pg_o g pk r t) r = 0 then 4 else 3)
theorem pg_o3 {r t : Nat} {pk : Option Nat} (ok : pg_ok g) (ht : t < pg_n g) (hr : r < 3) (hc : pg_c g r t) : pg_o g pk r t < 3 := by
  have b2 := pg_cf ok ht hc
  unfold pg_o
  split
  · split
    · exact (b2.2 (by assumption)).1
    · split
      · unfold pr_les; split <;> omega
      · unfold pr_gre; split <;> omega
  · exact b2.1
theorem xs_situation {post : Int32 → Prop} {r t : Nat} {pk : Option Nat} {W : Nat → Nat → Nat} (ok : pg_ok g) (P : xr_P g f_termCount f_root a_kind a_from a_to a_number a_first a_second) (ht : t < pg_n g) (hr : r < 3) (hc : pg_c g r t) (hp : a_picked r = pr_oI pk) (hpk : ∀ c, pk = some c → c < 2)
    (hw : ∀ p q, p < 3 → q < 3 → a_waiting (p * 3 + q) = nI (W p q) ∧ W p q ≤ 4) (h : post (nI (pg_si g pk W r t))) : wpX_situation post (f_draftCount, f_stackCount, f_termCount, f_root, f_sentCount, f_walkedFrom, a_draftKind, a_draftFrom, a_draftTo, a_draftNumber, a_draftFirst, a_draftSecond, a_draftParent, a_stack, a_kind, a_from, a_to, a_number, a_first, a_second, a_place, a_picked, a_lastGot, a_oldest, a_waiting, a_slotLabel, a_slotValue) (nI t) (nI r) := by
  obtain ⟨i, ek, ef, et, -⟩ := xr_at ok P ht
  have b2 := pg_cf ok ht hc
  have ho := pg_o3 (pk := pk) ok ht hr hc
  unfold pg_si at h
  unfold wpX_situation
  refine xs_otherSide ok P ht hr hc hp hpk ⟨i, ?_⟩
  generalize pg_o g pk r t = o at h ho ⊢
  rw [pr_ix3, pr_ix3, nI_clamp (n := r * 3 + o) (by omega), nI_clamp (n := o * 3 + r) (by omega)]
  have w1 := hw r o hr ho
  have w2 := hw o r ho hr
  refine pk_eq (pg_f g t) r (fun e => ⟨vp_in_nI (by omega) (by decide), ?_⟩) (fun ne => ⟨vp_in_nI (by omega) (by decide), ?_⟩) ef
  · rw [if_pos e] at h
    refine pk_le 4 (W r o) (fun z => ?_) (fun z => ?_) rfl w1.1
    · rw [if_pos z] at h; exact h
    · rw [if_neg (by omega)] at h; exact h
  · rw [if_neg ne] at h
    refine pk_le (W o r) 0 (fun z => ?_) (fun z => ?_) w2.1 rfl
    · rw [if_pos (by omega)] at h; exact h
    · rw [if_neg (by omega)] at h; exact h
theorem xs_following {post : Int32 → Prop} {t c : Nat} (ok : pg_ok g) (P : xr_P g f_termCount f_root a_kind a_from a_to a_number a_first a_second) (ht : t < pg_n g) (h2 : pg_k g t = 2) (hc : c < 2) (h : post (nI (pg_b g t c))) : wpX_following post (f_draftCount, f_stackCount, f_termCount, f_root, f_sentCount, f_walkedFrom, a_draftKind, a_draftFrom, a_draftTo, a_draftNumber, a_draftFirst, a_draftSecond, a_draftParent, a_stack, a_kind, a_from, a_to, a_number, a_first, a_second, a_place, a_picked, a_lastGot, a_oldest, a_waiting, a_slotLabel, a_slotValue) (nI t) (nI c) := by
  obtain ⟨i, ek, ef, et, el, e1, e2⟩ := xr_at ok P ht
  unfold pg_b at h
  refine ⟨i, br_t (by rw [ek, h2]; rfl) (pk_eq c 1 (fun z => ⟨i, ?_⟩) (fun z => ⟨i, ?_⟩))⟩
  · rw [if_pos z] at h; rw [e2]; exact h
  · rw [if_neg z] at h; rw [e1]; exact h
theorem xs_followm {post : Int32 → Prop} {t : Nat} {l : Int32} (ok : pg_ok g) (P : xr_P g f_termCount f_root a_kind a_from a_to a_number a_first a_second) (ht : t < pg_n g) (h2 : pg_k g t = 1) (h : post (nI (pg_1 g t))) : wpX_following post (f_draftCount, f_stackCount, f_termCount, f_root, f_sentCount, f_walkedFrom, a_draftKind, a_draftFrom, a_draftTo, a_draftNumber, a_draftFirst, a_draftSecond, a_draftParent, a_stack, a_kind, a_from, a_to, a_number, a_first, a_second, a_place, a_picked, a_lastGot, a_oldest, a_waiting, a_slotLabel, a_slotValue) (nI t) l := by
  obtain ⟨i, ek, ef, et, el, e1, e2⟩ := xr_at ok P ht
  refine ⟨i, br_f (by rw [ek, h2]; decide) ⟨i, ?_⟩⟩
  rw [e1]; exact h
end
end PRJ
