section PRS
/-! the relation -/
def rl_G (d : dd_T) (m e : Nat) (st : Nat → Nat) (g : pg_T) (gx : Nat → Nat) (gp : Nat → Option Nat) (R : List ro_T) (a w : Nat) (pl : Nat → Nat) (pk : Nat → Option Nat) : Prop :=
  dd_ok d m e st ∧ pg_ok g ∧ pg_up g gx gp ∧ pr_run g R a w pl pk ∧ ro_B R ∧ R.countP ro_f ≤ 1
def i_Rel (_ : Nat) (u : SX) (v : SY) : Prop := match u, v with
  | (f_draftCount, f_stackCount, f_termCount, f_root, f_sentCount, f_walkedFrom, a_draftKind, a_draftFrom, a_draftTo, a_draftNumber, a_draftFirst, a_draftSecond, a_draftParent, a_stack, a_kind, a_from, a_to, a_number, a_first, a_second, a_place, a_picked, a_lastGot, a_oldest, a_waiting, a_slotLabel, a_slotValue), (z_made, z_depth, z_size, z_rows, z_at, z_sendings, y_sorts, y_froms, y_tos, y_labels, y_firsts, y_seconds, y_around, y_stack, y_senders, y_receivers, y_told, y_values, y_isSent, y_isReceived, y_last, y_met) => ∃ (d : dd_T) (m e : Nat) (st : Nat → Nat) (g : pg_T) (gx : Nat → Nat) (gp : Nat → Option Nat) (R : List ro_T) (a w : Nat) (pl : Nat → Nat) (pk : Nat → Option Nat) (la : Nat → Int32),
    rl_G d m e st g gx gp R a w pl pk ∧ xr_D d m e st f_draftCount f_stackCount a_draftKind a_draftFrom a_draftTo a_draftNumber a_draftFirst a_draftSecond a_draftParent a_stack ∧ xr_P g f_termCount f_root a_kind a_from a_to a_number a_first a_second ∧ xr_R R w pl pk la f_walkedFrom a_place a_picked a_lastGot a_oldest a_waiting a_slotLabel a_slotValue
    ∧ yr_D d m e st z_made z_depth y_sorts y_froms y_tos y_labels y_firsts y_seconds y_around y_stack ∧ yr_P g gx gp z_size y_sorts y_froms y_tos y_labels y_firsts y_seconds y_around ∧ yr_R R a la z_rows z_at y_senders y_receivers y_told y_values y_isSent y_isReceived y_last ∧ f_sentCount = z_sendings
theorem i_up {k : Nat} {u : SX} {v : SY} (h : i_Rel k u v) : i_Rel (k + 4) u v := h
theorem pr_role (x : Int32) : (x < 0 ∨ nI 3 ≤ x) ∨ ∃ r, r < 3 ∧ x = nI r := by
  rcases pk_ix x (n := 3) (by decide) with h | h | h
  · exact Or.inl (Or.inl h)
  · exact Or.inl (Or.inr h)
  · exact Or.inr h
theorem rl_begin {g : pg_T} (ok : pg_ok g) : pr_run g [] (pg_s g (pg_n g - 1)) (pg_n g - 1) (fun _ => pg_n g - 1) (fun _ => none) ∧ ro_B [] ∧ ([] : List ro_T).countP ro_f ≤ 1 := by
  have h0 := ok.1
  have hl : pg_n g - 1 < pg_n g := by omega
  refine ⟨⟨pg_slt ok hl, pg_s2 ok hl, hl, pg_dr_s g _, fun r _ => List.Pairwise.nil, fun x hx => absurd hx (by simp), fun r _ => ⟨hl, rfl, pg_ssk r _⟩, fun p q => by simp⟩, ?_, by simp⟩
  intro A S e
  have : S = [] := by
    have := congrArg List.length e
    rw [List.length_append, List.length_nil] at this
    exact List.length_eq_zero_iff.mp (by omega)
  subst this
  simp [ro_nU]
theorem xr_begin {n : Nat} {a_place a_picked a_lastGot a_oldest a_waiting a_slotLabel a_slotValue : Nat → Int32} : xr_R [] n (fun _ => n) (fun _ => none) (fun _ => 0) (nI n) (fun j => if j < 3 then nI n else a_place j) (fun j => if j < 3 then -1 else a_picked j) (fun j => if j < 3 then 0 else a_lastGot j) (fun j => if j < 9 then 0 else a_oldest j) (fun j => if j < 9 then 0 else a_waiting j) a_slotLabel a_slotValue := by
  refine ⟨rfl, ?_, ?_⟩
  · intro r hr
    exact ⟨if_pos hr, if_pos hr, if_pos hr⟩
  · intro p q hp hq
    have hc : p * 3 + q < 9 := by omega
    exact ⟨0, by omega, if_pos hc, if_pos hc, fun i x hx => absurd hx (by simp)⟩
theorem yr_begin {a : Nat} {y_senders y_receivers y_told y_values y_isSent y_isReceived y_last : Nat → Int32} : yr_R [] a (fun _ => 0) 0 (nI a) y_senders y_receivers y_told y_values y_isSent y_isReceived (fun j => if j < 3 then 0 else y_last j) :=
  ⟨rfl, rfl, fun j x hx => absurd hx (by simp), fun r hr => if_pos hr⟩
def pr_g0 : pg_T := (1, fun _ => 0, fun _ => 0, fun _ => 0, fun _ => 0, fun _ => 0, fun _ => 0)
theorem pr_g0_ok : pg_ok pr_g0 := by
  have hn : pg_n pr_g0 = 1 := rfl
  have hk : ∀ i, pg_k pr_g0 i = 0 := fun _ => rfl
  have h1 : ∀ i, pg_1 pr_g0 i = 0 := fun _ => rfl
  have h2 : ∀ i, pg_2 pr_g0 i = 0 := fun _ => rfl
  refine ⟨by rw [hn]; decide, by rw [hn]; decide, ?_, Or.inl (hk 0)⟩
  intro i hi
  rw [hn] at hi
  simp only [hk, h1, h2, hn]
  refine ⟨by decide, by decide, by decide, fun z => by omega, fun z => by omega, fun _ => by omega, fun _ => trivial, by decide⟩
theorem pr_g0_up : pg_up pr_g0 (fun _ => 0) (fun _ => none) := by
  refine ⟨fun i _ t ht => absurd ht (by simp), fun _ _ => (by decide : (0 : Nat) < 4), ?_⟩
  intro i _ h
  exact absurd h (by show ¬ (0 : Nat) = 4; decide)
def dd_0 : dd_T := (fun _ => 0, fun _ => 0, fun _ => 0, fun _ => 0, fun _ => 0, fun _ => 0, fun _ => none)
theorem dd_ok0 (d : dd_T) (st : Nat → Nat) : dd_ok d 0 0 st :=
  ⟨by omega, by omega, by omega, by omega, fun i hi => by omega, fun i j _ hj => by omega, fun i hi => by omega⟩
theorem xr_D0 {d : dd_T} {st : Nat → Nat} {a_draftKind a_draftFrom a_draftTo a_draftNumber a_draftFirst a_draftSecond a_draftParent a_stack : Nat → Int32} : xr_D d 0 0 st 0 0 a_draftKind a_draftFrom a_draftTo a_draftNumber a_draftFirst a_draftSecond a_draftParent a_stack :=
  ⟨rfl, rfl, fun i hi => by omega, fun i hi => by omega, fun i hi => by omega⟩
theorem yr_D0 {d : dd_T} {st : Nat → Nat} {y_sorts y_froms y_tos y_labels y_firsts y_seconds y_around y_stack : Nat → Int32} : yr_D d 0 0 st 0 0 y_sorts y_froms y_tos y_labels y_firsts y_seconds y_around y_stack :=
  ⟨rfl, rfl, fun i hi => by omega, fun i hi => by omega⟩
theorem pr_pth_pk {g : pg_T} {r a : Nat} {L : List pr_T} {t c : Nat} (h : pr_pth g r a L t (some c)) : c < 2 := by
  cases L with
  | nil => exact absurd h.1 (by simp)
  | cons y L =>
    obtain ⟨x, -, -, -, -, hc, -⟩ := h
    exact hc
theorem i_vc0 : wpX_init (fun u => wpY_init (fun v => i_Rel 0 u v)) := by
  unfold wpX_init
  refine nm_e ?_
  refine xs_beginRun ?_
  unfold wpY_init
  have hP : yr_P pr_g0 (fun _ => 0) (fun _ => none) 1 (fun _ => 0) (fun _ => 0) (fun _ => 0) (fun _ => 0) (fun _ => 0) (fun _ => 0) (fun _ => 0) :=
    ⟨rfl, fun i _ => ⟨rfl, fun _ => rfl, fun _ => rfl, rfl, fun _ => rfl, fun _ _ => ⟨rfl, rfl⟩, fun j _ h => absurd h (by show ¬ (0 : Nat) = 4; decide)⟩⟩
  have hX : xr_P pr_g0 1 0 (upd (fun _ => 0) 0 0) (fun _ => 0) (fun _ => 0) (fun _ => 0) (fun _ => 0) (fun _ => 0) := by
    refine ⟨rfl, rfl, ?_⟩
    intro i hi
    have : i = 0 := by
      have hn : pg_n pr_g0 = 1 := rfl
      omega
    subst this
    exact ⟨rfl, rfl, rfl, rfl, rfl, rfl⟩
  refine ys_restart pr_g0_ok pr_g0_up hP ?_
  obtain ⟨b1, b2, b3⟩ := rl_begin pr_g0_ok
  exact ⟨dd_0, 0, 0, fun _ => 0, pr_g0, fun _ => 0, fun _ => none, [], pg_s pr_g0 (pg_n pr_g0 - 1), pg_n pr_g0 - 1, fun _ => pg_n pr_g0 - 1, fun _ => none, fun _ => 0, ⟨dd_ok0 _ _, pr_g0_ok, pr_g0_up, b1, b2, b3⟩, xr_D0, hX, xr_begin, yr_D0, hP, yr_begin, rfl⟩
end PRS
