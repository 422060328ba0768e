section PRD
/-! what a step does to the rows -/
theorem ro_fil0 {P : ro_T → Bool} {A : List ro_T} (h : ∀ a, a ∈ A → P a = false) : A.filter P = [] := by
  rw [List.filter_eq_nil_iff]
  intro a ha
  simp [h a ha]
theorem ro_own {r : Nat} {A C : List ro_T} {x : ro_T} (hA : ∀ a, a ∈ A → ro_u r a = false) (hx : ro_u r x = true) : (A ++ x :: C).filter (ro_u r) = x :: C.filter (ro_u r) := by
  rw [List.filter_append, ro_fil0 hA, List.filter_cons_of_pos hx, List.nil_append]
theorem ro_own' {r : Nat} {A C : List ro_T} {x : ro_T} (hA : ∀ a, a ∈ A → ro_u r a = false) (hx : ro_u r x = false) : (A ++ x :: C).filter (ro_u r) = C.filter (ro_u r) := by
  rw [List.filter_append, ro_fil0 hA, List.filter_cons_of_neg (by simp [hx]), List.nil_append]
theorem ro_oth {z : Nat} {A C : List ro_T} {x y : ro_T} (h : ro_u z y = ro_u z x) (ht : ro_t y = ro_t x) : ((A ++ y :: C).filter (ro_u z)).map ro_t = ((A ++ x :: C).filter (ro_u z)).map ro_t := by
  cases hx : ro_u z x
  · rw [hx] at h
    rw [List.filter_append, List.filter_append, List.filter_cons_of_neg (by simp [h]), List.filter_cons_of_neg (by simp [hx])]
  · rw [hx] at h
    rw [List.filter_append, List.filter_append, List.filter_cons_of_pos hx, List.filter_cons_of_pos h, List.map_append, List.map_append, List.map_cons, List.map_cons, ht]
theorem ro_O_set {r : Nat} {A C : List ro_T} {x y : ro_T} (o : ro_O (A ++ x :: C)) (hA : ∀ a, a ∈ A → ro_u r a = false) (h1 : ro_u r y = false) (h2 : ∀ z, z ≠ r → ro_u z y = ro_u z x) (h3 : ∀ z, ro_c z y = ro_c z x) : ro_O (A ++ y :: C) := by
  intro z hz
  have hp := o z hz
  rw [List.pairwise_append, List.pairwise_cons] at hp ⊢
  obtain ⟨p1, ⟨p2, p3⟩, p4⟩ := hp
  refine ⟨p1, ⟨?_, p3⟩, ?_⟩
  · intro c hc u1 c1
    by_cases e : z = r
    · rw [e, h1] at u1; exact absurd u1 (by decide)
    · rw [h2 z e] at u1
      exact p2 c hc u1 c1
  · intro a ha b hb u1 c1
    rcases List.mem_cons.mp hb with e | e
    · subst e
      by_cases e2 : z = r
      · rw [e2, hA a ha] at u1; exact absurd u1 (by decide)
      · rw [h2 z e2]
        exact p4 a ha x (by simp) u1 (by rw [← h3]; exact c1)
    · exact p4 a ha b (by simp [e]) u1 c1
theorem ro_A_set {A C : List ro_T} {x y : ro_T} (h : ro_A (A ++ x :: C)) (hy : ro_ok y) : ro_A (A ++ y :: C) := by
  intro z hz
  rcases List.mem_append.mp hz with h1 | h1
  · exact h z (by simp [h1])
  · rcases List.mem_cons.mp h1 with h2 | h2
    · rw [h2]; exact hy
    · exact h z (by simp [h2])
/-- what a sending finds -/
theorem ro_snd0 {r : Nat} {x : ro_T} (ok : ro_ok x) (hp : ro_p x = r) (hu : ro_u r x = true) : ro_s x = false ∧ ro_d x = false := by
  obtain ⟨-, -, a3, a4⟩ := ok
  have hq : (ro_q x == r) = false := by
    rw [beq_eq_false_iff_ne]
    omega
  have hs : ro_s x = false := by
    unfold ro_u at hu
    simpa [hp, hq] using hu
  refine ⟨hs, ?_⟩
  cases h : ro_d x
  · rfl
  · rw [a4 h] at hs; exact hs
theorem ro_snd1 {r : Nat} {x : ro_T} {v : Int32} (ok : ro_ok x) (hp : ro_p x = r) : ro_u r (ro_snd x v) = false := by
  obtain ⟨-, -, a3, a4⟩ := ok
  have hq : (ro_q x == r) = false := by
    rw [beq_eq_false_iff_ne]
    omega
  show ((ro_p x == r && !true) || (ro_q x == r && !ro_d x)) = false
  simp [hq]
theorem ro_snd2 {r : Nat} {x : ro_T} {v : Int32} (hp : ro_p x = r) : ∀ z, z ≠ r → ro_u z (ro_snd x v) = ro_u z x := by
  intro z hz
  show ((ro_p x == z && !true) || (ro_q x == z && !ro_d x)) = ((ro_p x == z && !ro_s x) || (ro_q x == z && !ro_d x))
  have : (ro_p x == z) = false := by
    rw [beq_eq_false_iff_ne]
    omega
  rw [this]
  rfl
theorem ro_rcv0 {r : Nat} {x : ro_T} (ok : ro_ok x) (hq : ro_q x = r) (hu : ro_u r x = true) : ro_d x = false := by
  obtain ⟨-, -, a3, a4⟩ := ok
  have hp : (ro_p x == r) = false := by
    rw [beq_eq_false_iff_ne]
    omega
  unfold ro_u at hu
  simpa [hp, hq] using hu
theorem ro_rcv1 {r : Nat} {x : ro_T} (ok : ro_ok x) (hq : ro_q x = r) : ro_u r (ro_rcv x) = false := by
  obtain ⟨-, -, a3, a4⟩ := ok
  have hp : (ro_p x == r) = false := by
    rw [beq_eq_false_iff_ne]
    omega
  show ((ro_p x == r && !ro_s x) || (ro_q x == r && !true)) = false
  simp [hp]
theorem ro_rcv2 {r : Nat} {x : ro_T} (hq : ro_q x = r) : ∀ z, z ≠ r → ro_u z (ro_rcv x) = ro_u z x := by
  intro z hz
  show ((ro_p x == z && !ro_s x) || (ro_q x == z && !true)) = ((ro_p x == z && !ro_s x) || (ro_q x == z && !ro_d x))
  have : (ro_q x == z) = false := by
    rw [beq_eq_false_iff_ne]
    omega
  rw [this]
  rfl
theorem ro_snd_B {r : Nat} {A C : List ro_T} {x : ro_T} {v : Int32} (hr : r < 3) (b : ro_B (A ++ x :: C)) (ok : ro_ok x) (hp : ro_p x = r) (hu : ro_u r x = true) : ro_B (A ++ ro_snd x v :: C) := by
  refine ro_B_cut rfl (ro_B_suf1 b) ?_
  rintro A2 ⟨A1, eA⟩
  have h0 := b A1 (A2 ++ x :: C) (by rw [eA, List.append_assoc])
  rw [ro_nUa, ro_nUc, ro_nOa, ro_nOc, (ro_snd0 ok hp hu).1] at h0
  rw [ro_nUa, ro_nUc, ro_nOa, ro_nOc, show ro_s (ro_snd x v) = true from rfl]
  have hz : ∀ z, z ≠ r → ro_n z (A2 ++ x :: C) ≤ ro_n z (A2 ++ ro_snd x v :: C) := by
    intro z hz
    apply ro_n_mo
    intro y hy u
    rcases List.mem_append.mp hy with h1 | h1
    · exact ⟨y, List.mem_append_left _ h1, u⟩
    · rcases List.mem_cons.mp h1 with h2 | h2
      · rw [h2, ← ro_snd2 (v := v) hp z hz] at u
        exact ⟨_, by simp, u⟩
      · exact ⟨y, by simp [h2], u⟩
  have z0 := hz 0
  have z1 := hz 1
  have z2 := hz 2
  have y0 := ro_n_le 0 (A2 ++ x :: C)
  have y1 := ro_n_le 1 (A2 ++ x :: C)
  have y2 := ro_n_le 2 (A2 ++ x :: C)
  have : ro_N (A2 ++ x :: C) ≤ ro_N (A2 ++ ro_snd x v :: C) + 1 := by
    unfold ro_N
    have : r = 0 ∨ r = 1 ∨ r = 2 := by omega
    rcases this with e | e | e
    · have := z1 (by omega); have := z2 (by omega); omega
    · have := z0 (by omega); have := z2 (by omega); omega
    · have := z0 (by omega); have := z1 (by omega); omega
  simp only [if_true, if_false, Bool.false_eq_true] at h0 ⊢
  omega
theorem ro_rcv_B {A C : List ro_T} {x : ro_T} (b : ro_B (A ++ x :: C)) (o : ro_O (A ++ ro_rcv x :: C)) (k : ro_A (A ++ ro_rcv x :: C)) (hs : ro_s x = true) : ro_B (A ++ ro_rcv x :: C) := by
  have hb := ro_B_suf1 b
  refine ro_B_cut rfl hb ?_
  rintro A2 ⟨A1, eA⟩
  have hA := ro_bef o k (show ro_f (ro_rcv x) = true from by show (ro_s x && true) = true; rw [hs]; rfl)
  have hA2 : ro_nU A2 = 0 := ro_nU0 (fun a ha => hA a (by rw [eA]; simp [ha]))
  have h0 := hb [] C rfl
  rw [ro_nUa, ro_nUc, ro_nOa, ro_nOc, hA2, show ro_s (ro_rcv x) = ro_s x from rfl, hs]
  have h3 : ro_N C ≤ ro_N (A2 ++ ro_rcv x :: C) := ro_N_mo (fun r y hy u => ⟨y, by simp [hy], u⟩)
  simp only [if_true]
  omega
def ro_new (x : ro_T) : Prop := ro_s x = false ∧ ro_d x = false
theorem ro_new_u {x : ro_T} (h : ro_new x) (r : Nat) : ro_u r x = ro_c r x := by
  unfold ro_u ro_c
  rw [h.1, h.2]
  simp
theorem ro_new_w {x : ro_T} (h : ro_new x) (p q : Nat) : ro_w p q x = false := by
  unfold ro_w
  rw [h.1]
  simp
theorem ro_app_w {R E : List ro_T} (h : ∀ e, e ∈ E → ro_new e) (p q : Nat) : (R ++ E).filter (ro_w p q) = R.filter (ro_w p q) := by
  rw [List.filter_append, ro_fil0 (A := E) (fun e he => ro_new_w (h e he) p q), List.append_nil]
theorem ro_app_O {R E : List ro_T} (o : ro_O R) (h : ∀ e, e ∈ E → ro_new e) : ro_O (R ++ E) := by
  intro z hz
  rw [List.pairwise_append]
  refine ⟨o z hz, ?_, ?_⟩
  · apply List.pairwise_of_forall_mem_list
    intro a ha b hb u c
    rw [ro_new_u (h b hb)]
    exact c
  · intro a ha b hb u c
    rw [ro_new_u (h b hb)]
    exact c
theorem ro_app_A {R E : List ro_T} (o : ro_A R) (h : ∀ e, e ∈ E → ro_ok e) : ro_A (R ++ E) := by
  intro x hx
  rcases List.mem_append.mp hx with h1 | h1
  · exact o x h1
  · exact h x h1
theorem ro_nU_le (R : List ro_T) : ro_nU R ≤ R.length := List.countP_le_length
theorem ro_app_B {R E : List ro_T} {e : ro_T} {r : Nat} (b : ro_B R) (hr : r < 3) (h0 : ∀ x, x ∈ R → ro_u r x = false) (hE : (E ++ [e]).length ≤ 20) (he : ro_u r e = true) : ro_B (R ++ (E ++ [e])) := by
  intro A S eS
  have hN : ∀ T, e ∈ T → 1 ≤ ro_N T := by
    intro T hT
    have := ro_n_1 hT he
    unfold ro_N
    have : r = 0 ∨ r = 1 ∨ r = 2 := by omega
    rcases this with z | z | z <;> subst z <;> omega
  rcases List.append_eq_append_iff.mp eS with ⟨D, e1, e2⟩ | ⟨D, e1, e2⟩
  · -- S lies in the new ones
    rcases List.eq_nil_or_concat S with z | ⟨S', y, z⟩
    · subst z; simp [ro_nU]
    · rw [List.concat_eq_append] at z
      subst z
      have : y = e := by
        have := congrArg List.getLast? e2
        simp at this
        exact this.symm
      subst this
      have h1 := hN (S' ++ [y]) (by simp)
      have h2 := ro_nU_le (S' ++ [y])
      have h3 : (S' ++ [y]).length ≤ 20 := by
        have := congrArg List.length e2
        rw [List.length_append (as := D)] at this
        omega
      omega
  · rw [e2, ro_nUa, ro_nOa]
    have h1 := b A D e1
    have h2 := ro_nU_le (E ++ [e])
    have hD : ro_n r D = 0 := ro_n_0 (fun x hx => h0 x (by rw [e1]; simp [hx]))
    have hD1 : ro_n r (D ++ (E ++ [e])) = 1 := ro_n_1 (x := e) (by simp) he
    have hm : ∀ z, ro_n z D ≤ ro_n z (D ++ (E ++ [e])) := fun z => ro_n_mo (fun x hx u => ⟨x, by simp [hx], u⟩)
    have : ro_N D + 1 ≤ ro_N (D ++ (E ++ [e])) := by
      unfold ro_N
      have m0 := hm 0
      have m1 := hm 1
      have m2 := hm 2
      have : r = 0 ∨ r = 1 ∨ r = 2 := by omega
      rcases this with z | z | z <;> subst z <;> omega
    omega
/-- the sent ones by their ways -/
theorem ro_sum {R : List ro_T} (ok : ro_A R) : ro_nO R = (R.filter (ro_w 0 1)).length + (R.filter (ro_w 0 2)).length + (R.filter (ro_w 1 0)).length + (R.filter (ro_w 1 2)).length + (R.filter (ro_w 2 0)).length + (R.filter (ro_w 2 1)).length + R.countP ro_f := by
  induction R with
  | nil => rfl
  | cons x T ih =>
    have ih := ih (fun y hy => ok y (by simp [hy]))
    obtain ⟨a1, a2, a3, a4⟩ := ok x (by simp)
    rw [ro_nOc, List.countP_cons]
    cases hs : ro_s x
    · have hw : ∀ p q, ro_w p q x = false := fun p q => by unfold ro_w; simp [hs]
      have hf : ro_f x = false := by unfold ro_f; simp [hs]
      simp only [List.filter_cons, hw, hf, if_false, Bool.false_eq_true]
      omega
    · cases hd : ro_d x
      · have hf : ro_f x = false := by unfold ro_f; simp [hd]
        have hw : ∀ p q, ro_w p q x = (ro_p x == p && ro_q x == q) := fun p q => by unfold ro_w; simp [hs, hd]
        have hp : ro_p x = 0 ∨ ro_p x = 1 ∨ ro_p x = 2 := by omega
        have hq : ro_q x = 0 ∨ ro_q x = 1 ∨ ro_q x = 2 := by omega
        rcases hp with ep | ep | ep <;> rcases hq with eq | eq | eq
        all_goals first
          | exact absurd (ep.trans eq.symm) a3
          | (simp [List.filter_cons, hw, hf, ep, eq]; omega)
      · have hw : ∀ p q, ro_w p q x = false := fun p q => by unfold ro_w; simp [hd]
        have hf : ro_f x = true := by unfold ro_f; simp [hs, hd]
        simp only [List.filter_cons, hw, hf, if_false, if_true, Bool.false_eq_true]
        omega
theorem ro_len (R : List ro_T) : R.length = ro_nU R + ro_nO R := by
  induction R with
  | nil => rfl
  | cons x T ih =>
    rw [ro_nUc, ro_nOc, List.length_cons]
    cases ro_s x <;> simp <;> omega
theorem ro_585 {R : List ro_T} (ok : ro_A R) (b : ro_B R) (hw : ∀ p q, (R.filter (ro_w p q)).length ≤ 4) (hf : R.countP ro_f ≤ 1) : R.length ≤ 585 := by
  have h1 := b [] R rfl
  have h2 := ro_sum ok
  have h3 := ro_N_3 R
  have h4 := ro_len R
  have w1 := hw 0 1
  have w2 := hw 0 2
  have w3 := hw 1 0
  have w4 := hw 1 2
  have w5 := hw 2 0
  have w6 := hw 2 1
  omega
end PRD
