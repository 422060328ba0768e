section PRP
/-! the reference: the next action, the picking -/
section
variable {z_made z_depth z_size z_rows z_at z_sendings : Int32} {y_sorts y_froms y_tos y_labels y_firsts y_seconds y_around y_stack y_senders y_receivers y_told y_values y_isSent y_isReceived y_last y_met : Nat → Int32} {g : pg_T} {gx : Nat → Nat} {gp : Nat → Option Nat}
theorem pg_itn {g : pg_T} (ok : pg_ok g) {a : Nat} (ha : a < pg_n g) (i : Nat) : pr_it (pg_w g) i a < 20 := by
  have := pg_itlt ok ha i
  have := ok.2.1
  omega
theorem ys_concerns {post : Int32 → Prop} {r t : Nat} (ok : pg_ok g) (P : yr_P g gx gp z_size y_sorts y_froms y_tos y_labels y_firsts y_seconds y_around) (ht : t < pg_n g) (hr : r < 3) (kt : pg_k g t = 1) (h1 : pg_c g r t → post 1) (h0 : ¬ pg_c g r t → post 0) : wpY_concerns post (z_made, z_depth, z_size, z_rows, z_at, z_sendings, y_sorts, y_froms, y_tos, y_labels, y_firsts, y_seconds, y_around, y_stack, y_senders, y_receivers, y_told, y_values, y_isSent, y_isReceived, y_last, y_met) (nI t) (nI r) := by
  obtain ⟨i40, i20, ec, es, b⟩ := yr_pat ok P ht
  obtain ⟨-, p1, -, p2, -⟩ := P.2 t ht
  have b2 := (ok.2.2.1 t ht).2.2.2.1 kt
  refine ⟨i40, ?_⟩
  rw [ec, p1 (by omega), p2]
  refine pk_eq (pg_f g t) r (fun c => h1 (Or.inr ⟨kt, Or.inl c⟩)) (fun c => ⟨i40, pk_eq (pg_t g t) r (fun c2 => h1 (Or.inr ⟨kt, Or.inr c2⟩)) (fun c2 => h0 ?_)⟩)
  rintro (z | ⟨-, z | z⟩)
  · omega
  · exact c z
  · exact c2 z
theorem ys_135 {post : Int32 → SY → Prop} {r w : Nat} {pl : Nat → Nat} {pk : Nat → Option Nat} (ok : pg_ok g) (U : pg_up g gx gp) (P : yr_P g gx gp z_size y_sorts y_froms y_tos y_labels y_firsts y_seconds y_around) :
    ∀ (j a : Nat) (R : List ro_T) (zr za : Int32) (c1 c2 c3 c5 c6 : Nat → Int32), pr_run g R a w pl pk → zr = nI R.length → za = nI a → yr_ok R c1 c2 c3 y_values c5 c6 →
      (∀ i, i < j → pg_k g (pr_it (pg_w g) i a) = 1 ∧ ¬ pg_c g r (pr_it (pg_w g) i a)) → pg_k g (pr_it (pg_w g) j a) = 1 → (∀ i, i < j → pr_it (pg_w g) i a ≠ pr_it (pg_w g) j a) → R.length + j < 600 →
      (∀ (E : List ro_T) (v : Int32) (d1 d2 d3 d5 d6 : Nat → Int32), E.length = j → (∀ e, e ∈ E → ro_new e ∧ ro_c r e = false) →
        pr_run g (R ++ E ++ [(pg_f g (pr_it (pg_w g) j a), pg_t g (pr_it (pg_w g) j a), pg_l g (pr_it (pg_w g) j a), v, false, false)]) (pg_w g (pr_it (pg_w g) j a)) w pl pk →
        yr_ok (R ++ E ++ [(pg_f g (pr_it (pg_w g) j a), pg_t g (pr_it (pg_w g) j a), pg_l g (pr_it (pg_w g) j a), v, false, false)]) d1 d2 d3 y_values d5 d6 →
        post (nI (R.length + j)) (z_made, z_depth, z_size, nI (R.length + j + 1), nI (pg_w g (pr_it (pg_w g) j a)), z_sendings, y_sorts, y_froms, y_tos, y_labels, y_firsts, y_seconds, y_around, y_stack, d1, d2, d3, y_values, d5, d6, y_last, y_met)) →
      wY_next_135 post (nI (pr_it (pg_w g) j a)) (j + 1) z_made z_depth z_size zr za z_sendings y_sorts y_froms y_tos y_labels y_firsts y_seconds y_around y_stack c1 c2 c3 y_values c5 c6 y_last y_met := by
  intro j
  induction j with
  | zero =>
    intro a R zr za c1 c2 c3 c5 c6 hrun er ea hY _ ka _ hl h
    refine br_t ea (ys_goOn ok U P hrun.1 ka (by omega) er ea ?_)
    show post (nI (R.length + 1) - 1) _
    rw [nI_pred]
    have := h [] (y_values R.length) _ _ _ _ _ rfl (fun e he => absurd he (by simp)) (by rw [List.append_nil]; exact pr_run_go ok hrun ka _) (by rw [List.append_nil]; exact yr_app hY _ _ _)
    exact this
  | succ j ih =>
    intro a R zr za c1 c2 c3 c5 c6 hrun er ea hY hm kt hd hl h
    have ka := (hm 0 (by omega)).1
    have hc := (hm 0 (by omega)).2
    have ha := hrun.1
    refine br_f ?_ (ys_goOn ok U P ha ka (by omega) er ea ?_)
    · rw [ea]
      intro z
      have h20 := ok.2.1
      have := (nI_eq (by omega) (by have := pg_itn ok ha (j + 1); omega)).mp z
      exact hd 0 (by omega) this
    · have hx : ro_new (pg_f g a, pg_t g a, pg_l g a, y_values R.length, false, false) ∧ ro_c r (pg_f g a, pg_t g a, pg_l g a, y_values R.length, false, false) = false := by
        refine ⟨⟨rfl, rfl⟩, ?_⟩
        show (pg_f g a == r || pg_t g a == r) = false
        by_cases z1 : pg_f g a = r
        · exact absurd (Or.inr ⟨ka, Or.inl z1⟩) hc
        · by_cases z2 : pg_t g a = r
          · exact absurd (Or.inr ⟨ka, Or.inr z2⟩) hc
          · simp [z1, z2]
      refine ih (pg_w g a) (R ++ [(pg_f g a, pg_t g a, pg_l g a, y_values R.length, false, false)]) _ _ _ _ _ _ _ (pr_run_go ok hrun ka _) (by rw [List.length_append]; rfl) rfl (yr_app hY _ _ _) (fun i hi => hm (i + 1) (by omega)) kt (fun i hi => hd (i + 1) (by omega)) (by rw [List.length_append, List.length_singleton]; omega) ?_
      intro E v d1 d2 d3 d5 d6 eE hE r1 y1
      have := h ((pg_f g a, pg_t g a, pg_l g a, y_values R.length, false, false) :: E) v d1 d2 d3 d5 d6 (by rw [List.length_cons, eE]) ?_ ?_ ?_
      · rw [List.length_append, List.length_singleton, show R.length + 1 + j = R.length + (j + 1) from by omega]
        exact this
      · intro e he
        rcases List.mem_cons.mp he with z | z
        · rw [z]; exact hx
        · exact hE e z
      · rw [show R ++ [(pg_f g a, pg_t g a, pg_l g a, y_values R.length, false, false)] ++ E = R ++ ((pg_f g a, pg_t g a, pg_l g a, y_values R.length, false, false) :: E) from by simp] at r1
        exact r1
      · rw [show R ++ [(pg_f g a, pg_t g a, pg_l g a, y_values R.length, false, false)] ++ E = R ++ ((pg_f g a, pg_t g a, pg_l g a, y_values R.length, false, false) :: E) from by simp] at y1
        exact y1
theorem ys_38f {post : Int32 → SY → Prop} {r a k : Nat} (ok : pg_ok g) (U : pg_up g gx gp) (P : yr_P g gx gp z_size y_sorts y_froms y_tos y_labels y_firsts y_seconds y_around) (hr : r < 3) (ha : a < pg_n g)
    (hm : ∀ i, i < k → pg_k g (pr_it (pg_w g) i a) = 1 ∧ ¬ pg_c g r (pr_it (pg_w g) i a)) (hc : pg_c g r (pr_it (pg_w g) k a)) (hd : ∀ i j, i < j → j ≤ k → pr_it (pg_w g) i a ≠ pr_it (pg_w g) j a)
    (hfin : ∀ M : Nat → Int32, M (pr_it (pg_w g) k a) = 0 → wY_next_87 post (nI r) (nI (pr_it (pg_w g) k a)) z_made z_depth z_size z_rows z_at z_sendings y_sorts y_froms y_tos y_labels y_firsts y_seconds y_around y_stack y_senders y_receivers y_told y_values y_isSent y_isReceived y_last M) :
    ∀ (q i : Nat) (M : Nat → Int32), i + q = k → (∀ x, x < 20 → (∀ j, j < i → pr_it (pg_w g) j a ≠ x) → M x = 0) → wY_next_38 post (nI r) z_made z_depth z_size z_rows z_at z_sendings (q + 1) (nI (pr_it (pg_w g) i a)) y_sorts y_froms y_tos y_labels y_firsts y_seconds y_around y_stack y_senders y_receivers y_told y_values y_isSent y_isReceived y_last M := by
  intro q
  induction q with
  | zero =>
    intro i M hi hM
    have : i = k := by omega
    subst this
    have ht := pg_itlt ok ha i
    obtain ⟨i40, i20, ec, es, b⟩ := yr_pat ok P ht
    have h0 := hM _ (pg_itn ok ha i) (fun j hj => hd j i hj (Nat.le_refl i))
    refine ⟨i40, ?_⟩
    rw [ec, es, h0]
    refine pk_eq _ 1 (fun c1 => ⟨i20, br_t rfl (ys_concerns ok P ht hr c1 (fun _ => br_f (by decide) (hfin M h0)) (fun z => absurd hc z))⟩) (fun c1 => hfin M h0)
  | succ q ih =>
    intro i M hi hM
    have ht := pg_itlt ok ha i
    obtain ⟨i40, i20, ec, es, b⟩ := yr_pat ok P ht
    obtain ⟨k1, nc⟩ := hm i (by omega)
    have h0 := hM _ (pg_itn ok ha i) (fun j hj => hd j i hj (by omega))
    refine ⟨i40, ?_⟩
    rw [ec, es, h0]
    refine br_t (by rw [k1]; rfl) ⟨i20, br_t rfl (ys_concerns ok P ht hr k1 (fun z => absurd z nc) (fun _ => br_t rfl ⟨i20, ?_⟩))⟩
    refine nm_e ⟨i40, ?_⟩
    rw [((P.2 _ ht).2.2.2.2.2.1 (by omega) (by omega)).1]
    refine ys_settled ok U P (pg_1lt ok ht) ?_
    have := ih (i + 1) (upd M (pr_it (pg_w g) i a) (vp_nar .boolean 1)) (by omega) ?_
    · rw [pr_it_s] at this
      exact this
    · intro x hx hne
      have : x ≠ pr_it (pg_w g) i a := fun z => hne i (by omega) z.symm
      rw [pk_un this]
      exact hM x hx (fun j hj => hne j (by omega))
theorem ys_38n {post : Int32 → SY → Prop} {r a k : Nat} (ok : pg_ok g) (U : pg_up g gx gp) (P : yr_P g gx gp z_size y_sorts y_froms y_tos y_labels y_firsts y_seconds y_around) (hr : r < 3) (ha : a < pg_n g) (h2 : pg_k g a ≤ 2)
    (hn : ∀ i, ¬ pg_c g r (pr_it (pg_w g) i a)) (hd : ∀ i j, i < j → j < k → pr_it (pg_w g) i a ≠ pr_it (pg_w g) j a) (hk : ∃ i, i < k ∧ pr_it (pg_w g) k a = pr_it (pg_w g) i a)
    (hfin : ∀ M : Nat → Int32, post (-3) (z_made, z_depth, z_size, z_rows, z_at, z_sendings, y_sorts, y_froms, y_tos, y_labels, y_firsts, y_seconds, y_around, y_stack, y_senders, y_receivers, y_told, y_values, y_isSent, y_isReceived, y_last, M)) :
    ∀ (q i : Nat) (M : Nat → Int32), i + q = k → (∀ j, j < i → pg_k g (pr_it (pg_w g) j a) = 1) → (∀ x, x < 20 → (∀ j, j < i → pr_it (pg_w g) j a ≠ x) → M x = 0) → (∀ j, j < i → M (pr_it (pg_w g) j a) = 1) → wY_next_38 post (nI r) z_made z_depth z_size z_rows z_at z_sendings (q + 1) (nI (pr_it (pg_w g) i a)) y_sorts y_froms y_tos y_labels y_firsts y_seconds y_around y_stack y_senders y_receivers y_told y_values y_isSent y_isReceived y_last M := by
  intro q
  induction q with
  | zero =>
    intro i M hi hm hM hM1
    have : i = k := by omega
    subst this
    have ht := pg_itlt ok ha i
    obtain ⟨i40, i20, ec, es, b⟩ := yr_pat ok P ht
    obtain ⟨i', hi', e'⟩ := hk
    have k1 : pg_k g (pr_it (pg_w g) i a) = 1 := by rw [e']; exact hm i' hi'
    have m1 : M (pr_it (pg_w g) i a) = 1 := by rw [e']; exact hM1 i' hi'
    unfold wY_next_38 wY_next_87
    rw [ec, es, m1, k1]
    exact ⟨i40, br_t rfl ⟨i20, br_f (by decide) ⟨i40, br_f (by decide) ⟨i40, br_f (by decide) ⟨i20, br_f (by decide) (hfin M)⟩⟩⟩⟩⟩
  | succ q ih =>
    intro i M hi hm hM hM1
    have ht := pg_itlt ok ha i
    obtain ⟨i40, i20, ec, es, b⟩ := yr_pat ok P ht
    have kl := pg_it2 ok ha h2 i
    have kn2 : pg_k g (pr_it (pg_w g) i a) ≠ 2 := fun z => hn i (Or.inl z)
    by_cases c0 : pg_k g (pr_it (pg_w g) i a) = 0
    · unfold wY_next_38 wY_next_87
      rw [ec, es, c0]
      exact ⟨i40, br_f (by decide) ⟨i40, br_f (by decide) ⟨i40, br_t rfl (hfin M)⟩⟩⟩
    · have k1 : pg_k g (pr_it (pg_w g) i a) = 1 := by omega
      have h0 := hM _ (pg_itn ok ha i) (fun j hj => hd j i hj (by omega))
      refine ⟨i40, ?_⟩
      rw [ec, es, h0]
      refine br_t (by rw [k1]; rfl) ⟨i20, br_t rfl (ys_concerns ok P ht hr k1 (fun z => absurd z (hn i)) (fun _ => br_t rfl ⟨i20, ?_⟩))⟩
      refine nm_e ⟨i40, ?_⟩
      rw [((P.2 _ ht).2.2.2.2.2.1 (by omega) (by omega)).1]
      refine ys_settled ok U P (pg_1lt ok ht) ?_
      have := ih (i + 1) (upd M (pr_it (pg_w g) i a) (vp_nar .boolean 1)) (by omega) ?_ ?_ ?_
      · rw [pr_it_s] at this
        exact this
      · intro j hj
        by_cases c : j = i
        · subst c; exact k1
        · exact hm j (by omega)
      · intro x hx hne
        have : x ≠ pr_it (pg_w g) i a := fun z => hne i (by omega) z.symm
        rw [pk_un this]
        exact hM x hx (fun j hj => hne j (by omega))
      · intro j hj
        by_cases c : j = i
        · subst c; rw [pk_us]; exact pr_bIn true
        · rw [pk_un (hd j i (by omega) (by omega))]
          exact hM1 j (by omega)
theorem ys_14 {post : Int32 → SY → Prop} {r : Nat} (h : ∀ M : Nat → Int32, (∀ x, x < 20 → M x = 0) → ∃ n, wY_next_38 post (nI r) z_made z_depth z_size z_rows z_at z_sendings n z_at y_sorts y_froms y_tos y_labels y_firsts y_seconds y_around y_stack y_senders y_receivers y_told y_values y_isSent y_isReceived y_last M) : ∃ n, wY_next_14 post (nI r) z_made z_depth z_size z_rows z_at z_sendings n 0 y_sorts y_froms y_tos y_labels y_firsts y_seconds y_around y_stack y_senders y_receivers y_told y_values y_isSent y_isReceived y_last y_met := by
  refine loop_0 (fun n i (s : Nat → Int32) => wY_next_14 post (nI r) z_made z_depth z_size z_rows z_at z_sendings n (nI i) y_sorts y_froms y_tos y_labels y_firsts y_seconds y_around y_stack y_senders y_receivers y_told y_values y_isSent y_isReceived y_last s) (fun i s => ∀ x, x < i → s x = 0) 20 y_met ?_ ?_ ?_
  · intro x hx; omega
  · intro n s hs
    exact br_t (nI_le (a := 20) (b := 20) (by omega) (by decide)) (h s hs)
  · intro n i s hi hs hk
    refine br_f (nI_ge (b := 20) hi (by decide)) ⟨vp_in_nI hi (by decide), nm_e (nm_r (nI_1 i) (hk _ ?_))⟩
    intro x hx
    rw [nI_clamp (n := i) (by omega)]
    by_cases c : x = i
    · subst c; rw [pk_us]; exact pr_bIn false
    · rw [pk_un c]; exact hs x (by omega)
theorem ys_nextA {post : Int32 → SY → Prop} {r : Nat} {A C : List ro_T} {x : ro_T} (hr : r < 3) (hA : ro_A (A ++ x :: C)) (hl : (A ++ x :: C).length ≤ 600) (er : z_rows = nI (A ++ x :: C).length) (Y : yr_ok (A ++ x :: C) y_senders y_receivers y_told y_values y_isSent y_isReceived)
    (h1 : ∀ y, y ∈ A → ro_u r y = false) (hu : ro_u r x = true) (h : post (nI A.length) (z_made, z_depth, z_size, z_rows, z_at, z_sendings, y_sorts, y_froms, y_tos, y_labels, y_firsts, y_seconds, y_around, y_stack, y_senders, y_receivers, y_told, y_values, y_isSent, y_isReceived, y_last, y_met)) : wpY_next post (z_made, z_depth, z_size, z_rows, z_at, z_sendings, y_sorts, y_froms, y_tos, y_labels, y_firsts, y_seconds, y_around, y_stack, y_senders, y_receivers, y_told, y_values, y_isSent, y_isReceived, y_last, y_met) (nI r) := by
  refine ys_left hr hA hl er Y ?_
  rw [pr_fi_s hu A 0 h1, Nat.zero_add]
  exact br_f (nI_pos (by rw [List.length_append] at hl; omega)) h
theorem ys_nextB {post : Int32 → SY → Prop} {r : Nat} {R : List ro_T} (hr : r < 3) (hA : ro_A R) (hl : R.length ≤ 600) (er : z_rows = nI R.length) (Y : yr_ok R y_senders y_receivers y_told y_values y_isSent y_isReceived)
    (h1 : ∀ y, y ∈ R → ro_u r y = false) (h : ∀ M : Nat → Int32, (∀ x, x < 20 → M x = 0) → ∃ n, wY_next_38 post (nI r) z_made z_depth z_size z_rows z_at z_sendings n z_at y_sorts y_froms y_tos y_labels y_firsts y_seconds y_around y_stack y_senders y_receivers y_told y_values y_isSent y_isReceived y_last M) : wpY_next post (z_made, z_depth, z_size, z_rows, z_at, z_sendings, y_sorts, y_froms, y_tos, y_labels, y_firsts, y_seconds, y_around, y_stack, y_senders, y_receivers, y_told, y_values, y_isSent, y_isReceived, y_last, y_met) (nI r) := by
  refine ys_left hr hA hl er Y ?_
  rw [pr_fi_n R 0 h1]
  exact br_t (by decide) (ys_14 h)
theorem ys_picker5 {post : Int32 → Prop} {a k : Nat} (ok : pg_ok g) (U : pg_up g gx gp) (P : yr_P g gx gp z_size y_sorts y_froms y_tos y_labels y_firsts y_seconds y_around) (ha : a < pg_n g) (hm : ∀ i, i < k → pg_k g (pr_it (pg_w g) i a) = 1) (k2 : pg_k g (pr_it (pg_w g) k a) = 2) (h : post (nI (pg_f g (pr_it (pg_w g) k a)))) :
    ∀ (q i : Nat), i + q = k → wY_picker_5 post z_made z_depth z_size z_rows z_at z_sendings y_sorts y_froms y_tos y_labels y_firsts y_seconds y_around y_stack y_senders y_receivers y_told y_values y_isSent y_isReceived y_last y_met (q + 1) (nI (pr_it (pg_w g) i a)) := by
  intro q
  induction q with
  | zero =>
    intro i hi
    have : i = k := by omega
    subst this
    have ht := pg_itlt ok ha i
    obtain ⟨i40, i20, ec, es, b⟩ := yr_pat ok P ht
    refine ⟨i40, ?_⟩
    rw [ec, es, (P.2 _ ht).2.1 (by omega)]
    exact br_f (by rw [k2]; decide) ⟨i40, h⟩
  | succ q ih =>
    intro i hi
    have ht := pg_itlt ok ha i
    obtain ⟨i40, i20, ec, es, b⟩ := yr_pat ok P ht
    have k1 := hm i (by omega)
    refine ⟨i40, ?_⟩
    rw [ec, es, ((P.2 _ ht).2.2.2.2.2.1 (by omega) (by omega)).1]
    refine br_t (by rw [k1]; rfl) ⟨i40, ys_settled ok U P (pg_1lt ok ht) ?_⟩
    have := ih (i + 1) (by omega)
    rw [pr_it_s] at this
    exact this
theorem ys_picker {post : Int32 → Prop} {a k : Nat} (ok : pg_ok g) (U : pg_up g gx gp) (P : yr_P g gx gp z_size y_sorts y_froms y_tos y_labels y_firsts y_seconds y_around) (ha : a < pg_n g) (ea : z_at = nI a) (hm : ∀ i, i < k → pg_k g (pr_it (pg_w g) i a) = 1) (k2 : pg_k g (pr_it (pg_w g) k a) = 2) (h : post (nI (pg_f g (pr_it (pg_w g) k a)))) : wpY_picker post (z_made, z_depth, z_size, z_rows, z_at, z_sendings, y_sorts, y_froms, y_tos, y_labels, y_firsts, y_seconds, y_around, y_stack, y_senders, y_receivers, y_told, y_values, y_isSent, y_isReceived, y_last, y_met) := by
  subst ea
  exact ⟨k + 1, ys_picker5 ok U P ha hm k2 h k 0 (by omega)⟩
theorem ys_pick0 {post : Int32 → SY → Prop} {r w c : Nat} {pl : Nat → Nat} {pk : Nat → Option Nat} (ok : pg_ok g) (U : pg_up g gx gp) (P : yr_P g gx gp z_size y_sorts y_froms y_tos y_labels y_firsts y_seconds y_around) (hr : r < 3) (hc : c < 2) :
    ∀ (j a : Nat) (R : List ro_T) (zr za : Int32) (c1 c2 c3 c5 c6 : Nat → Int32), pr_run g R a w pl pk → zr = nI R.length → za = nI a → yr_ok R c1 c2 c3 y_values c5 c6 →
      (∀ i, i < j → pg_k g (pr_it (pg_w g) i a) = 1 ∧ ¬ pg_c g r (pr_it (pg_w g) i a)) → pg_k g (pr_it (pg_w g) j a) = 2 → R.length + j + 2 ≤ 600 →
      (∀ (E : List ro_T) (v1 v2 : Int32) (d1 d2 d3 d5 d6 : Nat → Int32), E.length = j → (∀ e, e ∈ E → ro_new e ∧ ro_c r e = false) →
        pr_run g (R ++ E) (pr_it (pg_w g) j a) w pl pk →
        yr_ok (R ++ E ++ (r, pr_les r, nI c, v1, false, false) :: [(r, pr_gre r, nI c, v2, false, false)]) d1 d2 d3 y_values d5 d6 →
        post (nI (R.length + j)) (z_made, z_depth, z_size, nI (R.length + j + 2), nI (pg_s g (pg_b g (pr_it (pg_w g) j a) c)), z_sendings, y_sorts, y_froms, y_tos, y_labels, y_firsts, y_seconds, y_around, y_stack, d1, d2, d3, y_values, d5, d6, y_last, y_met)) →
      wY_pick_0 post (nI r) (nI c) (j + 1) z_made z_depth z_size zr za z_sendings y_sorts y_froms y_tos y_labels y_firsts y_seconds y_around y_stack c1 c2 c3 y_values c5 c6 y_last y_met := by
  intro j
  induction j with
  | zero =>
    intro a R zr za c1 c2 c3 c5 c6 hrun er ea hY _ ka hl h
    have ha := hrun.1
    have ka : pg_k g a = 2 := ka
    obtain ⟨i40, i20, ec, es, b⟩ := yr_pat ok P ha
    subst ea
    refine ⟨i40, ?_⟩
    rw [ec, es]
    have p4 := (P.2 a ha).2.2.2.2.2.1 (by omega) (by omega)
    have key : ∀ z0 : Int32, z0 = nI (pr_gre r) → wY_pick_30 post (nI r) (nI c) z0 z_made z_depth z_size zr (nI a) z_sendings y_sorts y_froms y_tos y_labels y_firsts y_seconds y_around y_stack c1 c2 c3 y_values c5 c6 y_last y_met := by
      intro z0 ez
      subst ez
      refine ys_lesser hr (ys_append (n := R.length) (by omega) er (ys_append (n := R.length + 1) (by omega) rfl ?_))
      have fin : ∀ z1 : Int32, z1 = nI (pg_b g a c) → wY_pick_80 post z1 z_made z_depth z_size (nI (R.length + 1 + 1)) (nI a) z_sendings y_sorts y_froms y_tos y_labels y_firsts y_seconds y_around y_stack (upd (upd c1 R.length (nI r)) (R.length + 1) (nI r)) (upd (upd c2 R.length (nI (pr_les r))) (R.length + 1) (nI (pr_gre r))) (upd (upd c3 R.length (nI c)) (R.length + 1) (nI c)) y_values (upd (upd c5 R.length 0) (R.length + 1) 0) (upd (upd c6 R.length 0) (R.length + 1) 0) y_last y_met := by
        intro z1 e1
        subst e1
        unfold wY_pick_80
        refine ys_settled ok U P (pg_blt ok ha c) ?_
        rw [show nI (R.length + 1 + 1) - 2 = nI R.length from by rw [show (2 : Int32) = nI 2 from rfl, pk_sub (by omega)]; exact congrArg nI (by omega)]
        have y1 := yr_app (yr_app hY r (pr_les r) (nI c)) r (pr_gre r) (nI c)
        rw [List.length_append, List.length_singleton] at y1
        have := h [] (y_values R.length) (y_values (R.length + 1)) _ _ _ _ _ rfl (fun e he => absurd he (by simp)) (by rw [List.append_nil]; exact hrun) (by rw [List.append_nil]; rw [List.append_assoc] at y1; exact y1)
        exact this
      dsimp only
      rw [ec]
      refine pk_eq c 0 (fun z => ⟨i40, fin _ ?_⟩) (fun z => ⟨i40, fin _ ?_⟩)
      · rw [p4.1]; unfold pg_b; rw [if_neg (by omega)]
      · rw [p4.2]; unfold pg_b; rw [if_pos (by omega)]
    refine br_f (by rw [ka]; decide) ?_
    have : r = 0 ∨ r = 1 ∨ r = 2 := by omega
    rcases this with e | e | e <;> subst e
    · exact br_f (by decide) (key _ rfl)
    · exact br_f (by decide) (key _ rfl)
    · exact br_t rfl (key _ rfl)
  | succ j ih =>
    intro a R zr za c1 c2 c3 c5 c6 hrun er ea hY hm kt hl h
    have ka := (hm 0 (by omega)).1
    have hcn := (hm 0 (by omega)).2
    have ka : pg_k g a = 1 := ka
    have ha := hrun.1
    obtain ⟨i40, i20, ec, es, b⟩ := yr_pat ok P ha
    subst ea
    refine ⟨i40, br_t (by rw [ec, es, ka]; rfl) (ys_goOn ok U P ha ka (by omega) er rfl ?_)⟩
    have hx : ro_new (pg_f g a, pg_t g a, pg_l g a, y_values R.length, false, false) ∧ ro_c r (pg_f g a, pg_t g a, pg_l g a, y_values R.length, false, false) = false := by
      refine ⟨⟨rfl, rfl⟩, ?_⟩
      show (pg_f g a == r || pg_t g a == r) = false
      by_cases z1 : pg_f g a = r
      · exact absurd (Or.inr ⟨ka, Or.inl z1⟩) hcn
      · by_cases z2 : pg_t g a = r
        · exact absurd (Or.inr ⟨ka, Or.inr z2⟩) hcn
        · simp [z1, z2]
    refine ih (pg_w g a) (R ++ [(pg_f g a, pg_t g a, pg_l g a, y_values R.length, false, false)]) _ _ _ _ _ _ _ (pr_run_go ok hrun ka _) (by rw [List.length_append]; rfl) rfl (yr_app hY _ _ _) (fun i hi => hm (i + 1) (by omega)) kt (by rw [List.length_append, List.length_singleton]; omega) ?_
    intro E v1 v2 d1 d2 d3 d5 d6 eE hE r1 y1
    have := h ((pg_f g a, pg_t g a, pg_l g a, y_values R.length, false, false) :: E) v1 v2 d1 d2 d3 d5 d6 (by rw [List.length_cons, eE]) ?_ ?_ ?_
    · rw [List.length_append, List.length_singleton, show R.length + 1 + j = R.length + (j + 1) from by omega]
      exact this
    · intro e he
      rcases List.mem_cons.mp he with z | z
      · rw [z]; exact hx
      · exact hE e z
    · rw [show R ++ [(pg_f g a, pg_t g a, pg_l g a, y_values R.length, false, false)] ++ E = R ++ ((pg_f g a, pg_t g a, pg_l g a, y_values R.length, false, false) :: E) from by simp] at r1
      exact r1
    · rw [show R ++ [(pg_f g a, pg_t g a, pg_l g a, y_values R.length, false, false)] ++ E = R ++ ((pg_f g a, pg_t g a, pg_l g a, y_values R.length, false, false) :: E) from by simp] at y1
      exact y1
end
end PRP
