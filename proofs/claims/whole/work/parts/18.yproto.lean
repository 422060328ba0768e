section PRR
/-! the reference: taking the protocol over, whether a run can finish -/
section
variable {z_made z_depth z_size z_rows z_at z_sendings : Int32} {y_sorts y_froms y_tos y_labels y_firsts y_seconds y_around y_stack y_senders y_receivers y_told y_values y_isSent y_isReceived y_last y_met : Nat → Int32} {g : pg_T} {gx : Nat → Nat} {gp : Nat → Option Nat} {d : dd_T} {m e : Nat} {st : Nat → Nat}
theorem pg_up_dr (ok : dd_ok d m e st) (hn : ∀ j, j < m → dd_n d j < 4) (fit : dd_fit d m) : pg_up (dd_gr d m (dd_l d)) (dd_n d) (dd_p d) := by
  refine ⟨dd_dd_in ok, hn, ?_⟩
  intro i hi h4
  rw [show pg_1 (dd_gr d m (dd_l d)) i = dd_l d i from if_pos h4]
  exact dd_l_fit fit i hi h4
/-- what is copied down -/
def yr_cp (i : Nat) (s o : Nat → Int32) : Prop := (∀ j, j < i → s j = o (20 + j)) ∧ (∀ j, 20 ≤ j → s j = o j)
theorem yr_cp_s {i : Nat} {s o : Nat → Int32} (h : yr_cp i s o) (hi : i < 20) : yr_cp (i + 1) (upd s i (s (20 + i))) o := by
  refine ⟨?_, ?_⟩
  · intro j hj
    by_cases c : j = i
    · subst c; rw [pk_us]; exact h.2 _ (by omega)
    · rw [pk_un c]; exact h.1 j (by omega)
  · intro j hj
    rw [pk_un (by omega)]
    exact h.2 j hj
theorem ys_protocol {post : Int32 → SY → Prop} (ok : dd_ok d m e st) (D : yr_D d m e st z_made z_depth y_sorts y_froms y_tos y_labels y_firsts y_seconds y_around y_stack) (hn : ∀ j, j < m → dd_n d j < 4)
    (h3 : ¬ e = 1 → post (-3) (z_made, z_depth, z_size, z_rows, z_at, z_sendings, y_sorts, y_froms, y_tos, y_labels, y_firsts, y_seconds, y_around, y_stack, y_senders, y_receivers, y_told, y_values, y_isSent, y_isReceived, y_last, y_met)) (h5 : e = 1 → ¬ dd_fit d m → post (-5) (z_made, z_depth, z_size, z_rows, z_at, z_sendings, y_sorts, y_froms, y_tos, y_labels, y_firsts, y_seconds, y_around, y_stack, y_senders, y_receivers, y_told, y_values, y_isSent, y_isReceived, y_last, y_met))
    (h : e = 1 → dd_fit d m → ∀ s1 s2 s3 s4 s5 s6 s7 : Nat → Int32, yr_P (dd_gr d m (dd_l d)) (dd_n d) (dd_p d) (nI m) s1 s2 s3 s4 s5 s6 s7 → post (nI m) (0, 0, nI m, 0, nI (pg_s (dd_gr d m (dd_l d)) (m - 1)), 0, s1, s2, s3, s4, s5, s6, s7, y_stack, y_senders, y_receivers, y_told, y_values, y_isSent, y_isReceived, fun j => if j < 3 then 0 else y_last j, y_met)) : wpY_protocol post (z_made, z_depth, z_size, z_rows, z_at, z_sendings, y_sorts, y_froms, y_tos, y_labels, y_firsts, y_seconds, y_around, y_stack, y_senders, y_receivers, y_told, y_values, y_isSent, y_isReceived, y_last, y_met) := by
  have om := ok.1
  have oe := ok.2.1
  have hc := D.2.1
  refine pk_eq e 1 (fun he => ?_) h3 hc rfl
  refine ys_loopsFit ok D hn (fun fit => br_f (by decide) ?_) (fun nf => br_t rfl (h5 he nf))
  have hm := D.1
  subst hm
  refine loop_0 (fun n i (s : (Nat → Int32) × (Nat → Int32) × (Nat → Int32) × (Nat → Int32) × (Nat → Int32) × (Nat → Int32) × (Nat → Int32)) => wY_protocol_23 post (nI m) z_depth z_size z_rows z_at z_sendings n (nI i) (s.1) (s.2.1) (s.2.2.1) (s.2.2.2.1) (s.2.2.2.2.1) (s.2.2.2.2.2.1) (s.2.2.2.2.2.2) y_stack y_senders y_receivers y_told y_values y_isSent y_isReceived y_last y_met)
    (fun i s => yr_cp i s.1 y_sorts ∧ yr_cp i s.2.1 y_froms ∧ yr_cp i s.2.2.1 y_tos ∧ yr_cp i s.2.2.2.1 y_labels ∧ yr_cp i s.2.2.2.2.1 y_firsts ∧ yr_cp i s.2.2.2.2.2.1 y_seconds ∧ yr_cp i s.2.2.2.2.2.2 y_around) m (y_sorts, y_froms, y_tos, y_labels, y_firsts, y_seconds, y_around) ?_ ?_ ?_
  · have z : ∀ o : Nat → Int32, yr_cp 0 o o := fun o => ⟨fun j hj => by omega, fun j _ => rfl⟩
    exact ⟨z _, z _, z _, z _, z _, z _, z _⟩
  · rintro n s ⟨q1, q2, q3, q4, q5, q6, q7⟩
    have hP : yr_P (dd_gr d m (dd_l d)) (dd_n d) (dd_p d) (nI m) s.1 s.2.1 s.2.2.1 s.2.2.2.1 s.2.2.2.2.1 s.2.2.2.2.2.1 s.2.2.2.2.2.2 := by
      refine ⟨rfl, ?_⟩
      intro i hi
      have hi' : i < m := hi
      rw [q1.1 i hi', q2.1 i hi', q3.1 i hi', q4.1 i hi', q5.1 i hi', q6.1 i hi', q7.1 i hi']
      obtain ⟨g1, g2, g3, g4, g5, g6, g7⟩ := D.2.2.1 i hi'
      refine ⟨g1, g2, g3, g4, g5, ?_, fun _ _ _ => g7⟩
      intro k1 k3
      have k3' : dd_k d i ≤ 3 := k3
      rw [show pg_1 (dd_gr d m (dd_l d)) i = dd_1 d i from if_neg (by omega), show pg_2 (dd_gr d m (dd_l d)) i = dd_2 d i from if_neg (by omega)]
      exact g6 k1 k3
    have m0 : 0 < m := by omega
    exact br_t (nI_le (by omega) (by omega)) (ys_restart (dd_gok ok m0 (dd_l_fit fit)) (pg_up_dr ok hn fit) hP (h he fit _ _ _ _ _ _ _ hP))
  · rintro n i s hi ⟨q1, q2, q3, q4, q5, q6, q7⟩ hk
    have i40 : vp_in (nI (20 + i)) 40 := vp_in_nI (by omega) (by decide)
    have j40 : vp_in (nI i) 40 := vp_in_nI (by omega) (by decide)
    refine br_f (nI_ge hi (by omega)) ?_
    rw [show (20 : Int32) = nI 20 from rfl, nI_add, nI_clamp (n := 20 + i) (by omega), nI_clamp (n := i) (by omega)]
    refine ⟨i40, j40, nm_e ⟨i40, j40, nm_e ⟨i40, j40, nm_e ⟨i40, j40, nm_e ⟨i40, j40, nm_e ⟨i40, j40, nm_e ⟨i40, j40, nm_e (nm_r (nI_1 i) (hk (_, _, _, _, _, _, _) ?_))⟩⟩⟩⟩⟩⟩⟩
    exact ⟨yr_cp_s q1 (by omega), yr_cp_s q2 (by omega), yr_cp_s q3 (by omega), yr_cp_s q4 (by omega), yr_cp_s q5 (by omega), yr_cp_s q6 (by omega), yr_cp_s q7 (by omega)⟩
/-- the marks: reached, settled -/
def yr_mk (g : pg_T) (a : Nat) (M : Nat → Int32) : Prop := (∀ x, x < 20 → M x = 0 ∨ M x = 1) ∧ (∀ x, x < 20 → M x = 1 → x < pg_n g ∧ pg_re g a x ∧ pg_k g x ≤ 2) ∧ M a = 1
def yr_b (M : Nat → Int32) (x : Nat) : Bool := decide (M x = 1)
theorem ys_cf164 {post : Int32 → SY → Prop} {a : Nat} (ok : pg_ok g) (P : yr_P g gx gp z_size y_sorts y_froms y_tos y_labels y_firsts y_seconds y_around) (ha : a < pg_n g) (h2 : pg_k g a ≤ 2) (hM : yr_mk g a y_met) (hcl : ∀ t, t < pg_n g → y_met t = 1 → pg_k g t > 0 → y_met (pg_s g (pg_1 g t)) = 1 ∧ y_met (pg_s g (pg_2 g t)) = 1)
    (h1 : pg_fin g a → post 1 (z_made, z_depth, z_size, z_rows, z_at, z_sendings, y_sorts, y_froms, y_tos, y_labels, y_firsts, y_seconds, y_around, y_stack, y_senders, y_receivers, y_told, y_values, y_isSent, y_isReceived, y_last, y_met)) (h0 : ¬ pg_fin g a → post 0 (z_made, z_depth, z_size, z_rows, z_at, z_sendings, y_sorts, y_froms, y_tos, y_labels, y_firsts, y_seconds, y_around, y_stack, y_senders, y_receivers, y_told, y_values, y_isSent, y_isReceived, y_last, y_met)) : ∃ n, wY_canFinish_164 post z_made z_depth z_size z_rows z_at z_sendings y_sorts y_froms y_tos y_labels y_firsts y_seconds y_around y_stack y_senders y_receivers y_told y_values y_isSent y_isReceived y_last y_met n 0 := by
  have h20 := ok.2.1
  have hc := P.1
  subst hc
  refine loop_0 (fun n i (_ : Unit) => wY_canFinish_164 post z_made z_depth (nI (pg_n g)) z_rows z_at z_sendings y_sorts y_froms y_tos y_labels y_firsts y_seconds y_around y_stack y_senders y_receivers y_told y_values y_isSent y_isReceived y_last y_met n (nI i)) (fun i _ => ∀ t, t < i → y_met t = 1 → pg_k g t ≠ 0) (pg_n g) () ?_ ?_ ?_
  · intro t ht; omega
  · intro n s hI
    refine br_t (nI_le (by omega) (by omega)) (h0 ?_)
    rintro ⟨b, hb, kb⟩
    have := pg_fin_y ok (M := fun x => y_met x = 1) ha h2 hM.2.2 hcl b hb
    rw [pg_ss (by omega)] at this
    exact hI b this.1 this.2 kb
  · intro n i s hi hI hk
    obtain ⟨i40, i20, ec, es, b⟩ := yr_pat ok P hi
    refine br_f (nI_ge hi (by omega)) ⟨i20, ?_⟩
    rw [ec, es]
    rcases hM.1 i (by omega) with z | z
    · refine br_t z (nm_r (nI_1 i) (hk () ?_))
      intro t ht mt
      by_cases c : t = i
      · subst c; rw [z] at mt; exact absurd mt (by decide)
      · exact hI t (by omega) mt
    · refine br_f (by rw [z]; decide) ⟨i40, pk_eq (pg_k g i) 0 (fun k0 => h1 ⟨i, (hM.2.1 i (by omega) z).2.1, k0⟩) (fun k0 => nm_r (nI_1 i) (hk () ?_))⟩
      intro t ht mt
      by_cases c : t = i
      · subst c; exact k0
      · exact hI t (by omega) mt
/-- one pass over the terms -/
def yr_ps (g : pg_T) (a : Nat) (M0 : Nat → Int32) (i : Nat) (x : Int32) (M : Nat → Int32) : Prop :=
  yr_mk g a M ∧ (∀ t, t < 20 → M0 t = 1 → M t = 1) ∧ (∀ t, t < i → t < pg_n g → M0 t = 1 → pg_k g t > 0 → M (pg_s g (pg_1 g t)) = 1 ∧ M (pg_s g (pg_2 g t)) = 1) ∧ ((x = 0 ∧ ∀ t, t < 20 → M t = M0 t) ∨ (x = 1 ∧ pr_cn (yr_b M0) 20 < pr_cn (yr_b M) 20))
theorem yr_mk_u {a y : Nat} {M : Nat → Int32} (h : yr_mk g a M) (hy : y < pg_n g) (hr : pg_re g a y) (h2 : pg_k g y ≤ 2) : yr_mk g a (upd M y 1) := by
  refine ⟨?_, ?_, ?_⟩
  · intro x hx
    by_cases c : x = y
    · subst c; rw [pk_us]; exact Or.inr rfl
    · rw [pk_un c]; exact h.1 x hx
  · intro x hx mx
    by_cases c : x = y
    · subst c; exact ⟨hy, hr, h2⟩
    · rw [pk_un c] at mx; exact h.2.1 x hx mx
  · by_cases c : a = y
    · subst c; exact pk_us
    · rw [pk_un c]; exact h.2.2
theorem pr_upd1 {M : Nat → Int32} {y t : Nat} (h : M t = 1) : upd M y 1 t = 1 := by
  by_cases c : t = y
  · subst c; exact pk_us
  · rw [pk_un c]; exact h
theorem yr_ps_u {a i : Nat} {M0 M : Nat → Int32} {x x' : Int32} (ok : pg_ok g) (h : yr_ps g a M0 i x M) (hi : i < pg_n g) (mi : M i = 1)
    (hx : (x' = 0 ∧ x = 0 ∧ M (pg_s g (pg_1 g i)) = 1 ∧ M (pg_s g (pg_2 g i)) = 1) ∨ (x' = 1 ∧ (x = 1 ∨ M (pg_s g (pg_1 g i)) = 0 ∨ M (pg_s g (pg_2 g i)) = 0))) : yr_ps g a M0 (i + 1) x' (upd (upd M (pg_s g (pg_1 g i)) 1) (pg_s g (pg_2 g i)) 1) := by
  obtain ⟨p1, p2, p3, p4⟩ := h
  have h20 := ok.2.1
  have l1 := pg_slt ok (pg_1lt ok hi)
  have l2 := pg_slt ok (pg_2lt ok hi)
  have re := (p1.2.1 i (by omega) mi).2.1
  have mo : ∀ t, M t = 1 → upd (upd M (pg_s g (pg_1 g i)) 1) (pg_s g (pg_2 g i)) 1 t = 1 := fun t ht => pr_upd1 (pr_upd1 ht)
  refine ⟨yr_mk_u (yr_mk_u p1 l1 (pg_re_s (pg_re_1 re)) (pg_s2 ok (pg_1lt ok hi))) l2 (pg_re_s (pg_re_2 re)) (pg_s2 ok (pg_2lt ok hi)), fun t ht mt => mo t (p2 t ht mt), ?_, ?_⟩
  · intro t ht hn mt kt
    by_cases c : t = i
    · subst c
      exact ⟨pr_upd1 pk_us, pk_us⟩
    · have := p3 t (by omega) hn mt kt
      exact ⟨mo _ this.1, mo _ this.2⟩
  · rcases hx with ⟨e1, e2, m1, m2⟩ | ⟨e1, e2⟩
    · refine Or.inl ⟨e1, ?_⟩
      intro t ht
      have base : M t = M0 t := by
        rcases p4 with p4 | p4
        · exact p4.2 t ht
        · rw [e2] at p4; exact absurd p4.1 (by decide)
      rw [← base]
      by_cases c2 : t = pg_s g (pg_2 g i)
      · rw [c2, pk_us, m2]
      · rw [pk_un c2]
        by_cases c1 : t = pg_s g (pg_1 g i)
        · rw [c1, pk_us, m1]
        · rw [pk_un c1]
    · refine Or.inr ⟨e1, ?_⟩
      have hmo : pr_cn (yr_b M) 20 ≤ pr_cn (yr_b (upd (upd M (pg_s g (pg_1 g i)) 1) (pg_s g (pg_2 g i)) 1)) 20 := pr_cn_mo 20 (fun t _ mt => by
        have mt' : M t = 1 := by simpa [yr_b] using mt
        simpa [yr_b] using mo t mt')
      rcases p4 with p4 | p4
      · have hsub : ∀ t, t < 20 → yr_b M0 t = true → yr_b (upd (upd M (pg_s g (pg_1 g i)) 1) (pg_s g (pg_2 g i)) 1) t = true := by
          intro t ht mt
          have mt' : M0 t = 1 := by simpa [yr_b] using mt
          have : M t = 1 := by rw [p4.2 t ht]; exact mt'
          simpa [yr_b] using mo t this
        by_cases hlt : pr_cn (yr_b M0) 20 < pr_cn (yr_b (upd (upd M (pg_s g (pg_1 g i)) 1) (pg_s g (pg_2 g i)) 1)) 20
        · exact hlt
        · exfalso
          have he := pr_cn_eq 20 hsub (by omega)
          rcases e2 with e2 | e2 | e2
          · rw [p4.1] at e2; exact absurd e2 (by decide)
          · have z := he (pg_s g (pg_1 g i)) (by omega) (by simp only [yr_b]; exact decide_eq_true (pr_upd1 pk_us))
            have z' : M0 (pg_s g (pg_1 g i)) = 1 := by simpa [yr_b] using z
            rw [← p4.2 _ (by omega), e2] at z'
            exact absurd z' (by decide)
          · have z := he (pg_s g (pg_2 g i)) (by omega) (by simp only [yr_b]; exact decide_eq_true pk_us)
            have z' : M0 (pg_s g (pg_2 g i)) = 1 := by simpa [yr_b] using z
            rw [← p4.2 _ (by omega), e2] at z'
            exact absurd z' (by decide)
      · omega
theorem yr_ps_k {a i : Nat} {M0 M : Nat → Int32} {x : Int32} (h : yr_ps g a M0 i x M) (hne : M i = 1 → M0 i = 1 → ¬ pg_k g i > 0) (h0 : M0 i = 1 → M i = 1) : yr_ps g a M0 (i + 1) x M := by
  obtain ⟨p1, p2, p3, p4⟩ := h
  refine ⟨p1, p2, ?_, p4⟩
  intro t ht hn mt kt
  by_cases c : t = i
  · subst c; exact absurd kt (hne (h0 mt) mt)
  · exact p3 t (by omega) hn mt kt
theorem ys_cf41 {post : Int32 → SY → Prop} {J : Int32 → (Nat → Int32) → (Nat → Int32) → (Nat → Int32) → (Nat → Int32) → (Nat → Int32) → (Nat → Int32) → (Nat → Int32) → (Nat → Int32) → (Nat → Int32) → (Nat → Int32) → (Nat → Int32) → (Nat → Int32) → (Nat → Int32) → (Nat → Int32) → (Nat → Int32) → (Nat → Int32) → Prop} {a : Nat} (ok : pg_ok g) (U : pg_up g gx gp) (P : yr_P g gx gp z_size y_sorts y_froms y_tos y_labels y_firsts y_seconds y_around) (hM : yr_mk g a y_met)
    (h : ∀ (x : Int32) (M : Nat → Int32), yr_ps g a y_met (pg_n g) x M → J x y_sorts y_froms y_tos y_labels y_firsts y_seconds y_around y_stack y_senders y_receivers y_told y_values y_isSent y_isReceived y_last M) : ∃ n, wY_canFinish_41 post J z_made z_depth z_size z_rows z_at z_sendings n 0 0 y_sorts y_froms y_tos y_labels y_firsts y_seconds y_around y_stack y_senders y_receivers y_told y_values y_isSent y_isReceived y_last y_met := by
  have h20 := ok.2.1
  have hc := P.1
  subst hc
  refine loop_0 (fun n i (s : Int32 × (Nat → Int32)) => wY_canFinish_41 post J z_made z_depth (nI (pg_n g)) z_rows z_at z_sendings n s.1 (nI i) y_sorts y_froms y_tos y_labels y_firsts y_seconds y_around y_stack y_senders y_receivers y_told y_values y_isSent y_isReceived y_last (s.2)) (fun i s => yr_ps g a y_met i s.1 s.2) (pg_n g) (0, y_met) ?_ ?_ ?_
  · exact ⟨hM, fun _ _ z => z, fun t ht => by omega, Or.inl ⟨rfl, fun _ _ => rfl⟩⟩
  · rintro n ⟨x, M⟩ hI
    exact br_t (nI_le (by omega) (by omega)) (h x M hI)
  · rintro n i ⟨x, M⟩ hi hI hk
    obtain ⟨i40, i20, ec, es, b⟩ := yr_pat ok P hi
    have hI' : yr_ps g a y_met i x M := hI
    have l1 := pg_slt ok (pg_1lt ok hi)
    have l2 := pg_slt ok (pg_2lt ok hi)
    refine br_f (nI_ge hi (by omega)) ⟨i20, ?_⟩
    show ((M (nI i).toNatClampNeg = 0 → _) ∧ _)
    rw [ec, es]
    rcases hI'.1.1 i (by omega) with z | z
    · refine br_t z (nm_r (nI_1 i) (hk (x, M) (yr_ps_k hI' (fun (y : M i = 1) => by rw [z] at y; exact absurd y (by decide)) (fun y => hI'.2.1 i (by omega) y))))
    · refine br_f (by rw [z]; decide) ⟨i40, pk_le (pg_k g i) 0 (fun k0 => nm_r (nI_1 i) (hk (x, M) (yr_ps_k hI' (fun _ _ => by omega) (fun y => hI'.2.1 i (by omega) y)))) (fun k0 => ⟨i40, ?_⟩)⟩
      have key : ∀ z0 : Int32, z0 = nI (pg_2 g i) → wY_canFinish_104 post J (wY_canFinish_41 post J z_made z_depth (nI (pg_n g)) z_rows z_at z_sendings n) x (nI i) (nI (pg_s g (pg_1 g i))) z0 z_made z_depth (nI (pg_n g)) z_rows z_at z_sendings y_sorts y_froms y_tos y_labels y_firsts y_seconds y_around y_stack y_senders y_receivers y_told y_values y_isSent y_isReceived y_last M := by
        intro z0 e0
        subst e0
        have j1 : vp_in (nI (pg_s g (pg_1 g i))) 20 := vp_in_nI (by omega) (by decide)
        have j2 : vp_in (nI (pg_s g (pg_2 g i))) 20 := vp_in_nI (by omega) (by decide)
        have fin : ∀ (x' : Int32), ((x' = 0 ∧ x = 0 ∧ M (pg_s g (pg_1 g i)) = 1 ∧ M (pg_s g (pg_2 g i)) = 1) ∨ (x' = 1 ∧ (x = 1 ∨ M (pg_s g (pg_1 g i)) = 0 ∨ M (pg_s g (pg_2 g i)) = 0))) → wY_canFinish_137 post J (wY_canFinish_41 post J z_made z_depth (nI (pg_n g)) z_rows z_at z_sendings n) (nI i) (nI (pg_s g (pg_1 g i))) (nI (pg_s g (pg_2 g i))) x' z_made z_depth (nI (pg_n g)) z_rows z_at z_sendings y_sorts y_froms y_tos y_labels y_firsts y_seconds y_around y_stack y_senders y_receivers y_told y_values y_isSent y_isReceived y_last M := by
          intro x' hx'
          unfold wY_canFinish_137
          rw [nI_clamp (n := pg_s g (pg_1 g i)) (by omega), nI_clamp (n := pg_s g (pg_2 g i)) (by omega), show vp_nar .boolean 1 = 1 from pr_bIn true]
          exact ⟨j1, nm_e ⟨j2, nm_e (nm_r (nI_1 i) (hk (x', _) (yr_ps_u ok hI' hi z hx')))⟩⟩
        refine ys_settled ok U P (pg_2lt ok hi) ?_
        rw [nI_clamp (n := pg_s g (pg_1 g i)) (by omega), nI_clamp (n := pg_s g (pg_2 g i)) (by omega)]
        rcases hI'.2.2.2 with q | q
        · refine br_t q.1 ⟨j1, ?_⟩
          rcases hI'.1.1 (pg_s g (pg_1 g i)) (by omega) with y | y
          · exact br_t y (fin 1 (Or.inr ⟨rfl, Or.inr (Or.inl y)⟩))
          · refine br_f (by rw [y]; decide) ⟨j2, ?_⟩
            rcases hI'.1.1 (pg_s g (pg_2 g i)) (by omega) with w | w
            · exact br_t w (fin 1 (Or.inr ⟨rfl, Or.inr (Or.inr w)⟩))
            · exact br_f (by rw [w]; decide) (fin 0 (Or.inl ⟨rfl, q.1, y, w⟩))
        · exact br_f (by rw [q.1]; decide) (fin 1 (Or.inr ⟨rfl, Or.inl q.1⟩))
      have f2 : pg_k g i ≠ 2 → pg_2 g i = pg_1 g i := (ok.2.2.1 i hi).2.2.2.2.2.2.1
      have k2 := (hI'.1.2.1 i (by omega) z).2.2
      have p4 := (P.2 i hi).2.2.2.2.2.1 (by omega) (by omega)
      rw [p4.1, p4.2]
      exact ys_settled ok U P (pg_1lt ok hi) ⟨i40, pk_eq (pg_k g i) 2 (fun c => ⟨i40, key _ rfl⟩) (fun c => ⟨i40, key _ (by rw [f2 c])⟩)⟩
theorem ys_canFinish {post : Int32 → SY → Prop} {a : Nat} (ok : pg_ok g) (U : pg_up g gx gp) (P : yr_P g gx gp z_size y_sorts y_froms y_tos y_labels y_firsts y_seconds y_around) (ha : a < pg_n g) (h2 : pg_k g a ≤ 2) (ea : z_at = nI a)
    (h1 : ∀ M, pg_fin g a → post 1 (z_made, z_depth, z_size, z_rows, z_at, z_sendings, y_sorts, y_froms, y_tos, y_labels, y_firsts, y_seconds, y_around, y_stack, y_senders, y_receivers, y_told, y_values, y_isSent, y_isReceived, y_last, M)) (h0 : ∀ M, ¬ pg_fin g a → post 0 (z_made, z_depth, z_size, z_rows, z_at, z_sendings, y_sorts, y_froms, y_tos, y_labels, y_firsts, y_seconds, y_around, y_stack, y_senders, y_receivers, y_told, y_values, y_isSent, y_isReceived, y_last, M)) : wpY_canFinish post (z_made, z_depth, z_size, z_rows, z_at, z_sendings, y_sorts, y_froms, y_tos, y_labels, y_firsts, y_seconds, y_around, y_stack, y_senders, y_receivers, y_told, y_values, y_isSent, y_isReceived, y_last, y_met) := by
  have h20 := ok.2.1
  subst ea
  refine loop_0 (fun n i (s : Nat → Int32) => wY_canFinish_2 post z_made z_depth z_size z_rows (nI a) z_sendings n (nI i) y_sorts y_froms y_tos y_labels y_firsts y_seconds y_around y_stack y_senders y_receivers y_told y_values y_isSent y_isReceived y_last s) (fun i s => ∀ x, x < i → s x = 0) 20 y_met ?_ ?_ ?_
  · intro x hx; omega
  · intro n s hs
    refine br_t (nI_le (a := 20) (b := 20) (by omega) (by decide)) ⟨vp_in_nI (by omega) (by decide), ?_⟩
    rw [nI_clamp (n := a) (by omega), show vp_nar .boolean 1 = 1 from pr_bIn true]
    refine nm_e ?_
    refine lp2 (fun n x M => wY_canFinish_33 post z_made z_depth z_size z_rows (nI a) z_sendings n x y_sorts y_froms y_tos y_labels y_firsts y_seconds y_around y_stack y_senders y_receivers y_told y_values y_isSent y_isReceived y_last M) (fun x M => yr_mk g a M ∧ (x = 1 ∨ (x = 0 ∧ ∀ t, t < pg_n g → M t = 1 → pg_k g t > 0 → M (pg_s g (pg_1 g t)) = 1 ∧ M (pg_s g (pg_2 g t)) = 1))) (fun x M => if x = 0 then 0 else 21 - pr_cn (yr_b M) 20) ?_ 1 (upd s a 1) ⟨?_, Or.inl rfl⟩
    · rintro n x M ⟨hM, hx⟩ hk
      rcases hx with hx | ⟨hx, hcl⟩
      · subst hx
        refine br_f (by decide) ?_
        refine ys_cf41 ok U P hM ?_
        intro x' M' hps
        obtain ⟨p1, p2, p3, p4⟩ := hps
        have cle := pr_cn_le (yr_b M) 20
        have cle' := pr_cn_le (yr_b M') 20
        rcases p4 with ⟨e, em⟩ | ⟨e, lt⟩
        · refine hk x' M' ⟨p1, Or.inr ⟨e, ?_⟩⟩ ?_
          · intro t ht mt kt
            exact p3 t ht ht (by rw [← em t (by omega)]; exact mt) kt
          · rw [if_pos e, if_neg (by decide)]
            omega
        · refine hk x' M' ⟨p1, Or.inl e⟩ ?_
          rw [e, if_neg (by decide), if_neg (by decide)]
          omega
      · subst hx
        exact br_t rfl (ys_cf164 ok P ha h2 hM hcl (h1 M) (h0 M))
    · refine ⟨?_, ?_, pk_us⟩
      · intro x hx
        by_cases c : x = a
        · subst c; rw [pk_us]; exact Or.inr rfl
        · rw [pk_un c]; exact Or.inl (hs x hx)
      · intro x hx mx
        by_cases c : x = a
        · subst c; exact ⟨ha, pg_re_rf g x, h2⟩
        · rw [pk_un c, hs x hx] at mx; exact absurd mx (by decide)
  · intro n i s hi hs hk
    refine br_f (nI_ge (b := 20) hi (by decide)) ⟨vp_in_nI hi (by decide), nm_e (nm_r (nI_1 i) (hk _ ?_))⟩
    intro x hx
    rw [nI_clamp (n := i) (by omega)]
    by_cases c : x = i
    · subst c; rw [pk_us]; exact pr_bIn false
    · rw [pk_un c]; exact hs x (by omega)
end
end PRR
