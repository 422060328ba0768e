section PRC
/-! the rows of the path: sender, receiver, label, value, sent, received -/
abbrev ro_T : Type := Nat × Nat × Int32 × Int32 × Bool × Bool
def ro_p (x : ro_T) : Nat := x.1
def ro_q (x : ro_T) : Nat := x.2.1
def ro_l (x : ro_T) : Int32 := x.2.2.1
def ro_v (x : ro_T) : Int32 := x.2.2.2.1
def ro_s (x : ro_T) : Bool := x.2.2.2.2.1
def ro_d (x : ro_T) : Bool := x.2.2.2.2.2
def ro_t (x : ro_T) : pr_T := (ro_p x, ro_q x, ro_l x)
/-- not done by r -/
def ro_u (r : Nat) (x : ro_T) : Bool := (ro_p x == r && !ro_s x) || (ro_q x == r && !ro_d x)
def ro_c (r : Nat) (x : ro_T) : Bool := ro_p x == r || ro_q x == r
/-- on its way from p to q -/
def ro_w (p q : Nat) (x : ro_T) : Bool := ro_p x == p && ro_q x == q && ro_s x && !ro_d x
def ro_k (x : ro_T) : Bool := !(ro_s x && ro_d x)
def ro_f (x : ro_T) : Bool := ro_s x && ro_d x
def ro_ok (x : ro_T) : Prop := ro_p x < 3 ∧ ro_q x < 3 ∧ ro_p x ≠ ro_q x ∧ (ro_d x = true → ro_s x = true)
def ro_or (r : Nat) (a b : ro_T) : Prop := ro_u r a = true → ro_c r b = true → ro_u r b = true
def ro_O (R : List ro_T) : Prop := ∀ r, r < 3 → R.Pairwise (ro_or r)
def ro_A (R : List ro_T) : Prop := ∀ x, x ∈ R → ro_ok x
def ro_snd (x : ro_T) (v : Int32) : ro_T := (ro_p x, ro_q x, ro_l x, v, true, ro_d x)
def ro_rcv (x : ro_T) : ro_T := (ro_p x, ro_q x, ro_l x, ro_v x, ro_s x, true)
def ro_nU (R : List ro_T) : Nat := R.countP (fun x => !ro_s x)
def ro_nO (R : List ro_T) : Nat := R.countP ro_s
def ro_n (r : Nat) (R : List ro_T) : Nat := if R.any (ro_u r) then 1 else 0
def ro_N (R : List ro_T) : Nat := ro_n 0 R + ro_n 1 R + ro_n 2 R
/-- few rows: behind each place at most 20 unsent ones for each sent one and each role with something to do -/
def ro_B (R : List ro_T) : Prop := ∀ A S, R = A ++ S → ro_nU S ≤ 20 * (ro_nO S + ro_N S)
theorem ro_uf {r : Nat} {x : ro_T} (h : ro_f x = true) : ro_u r x = false := by
  unfold ro_f at h
  unfold ro_u
  simp only [Bool.and_eq_true] at h
  simp [h.1, h.2]
theorem ro_k_u {r : Nat} {x : ro_T} (h : ro_u r x = true) : ro_k x = true := by
  cases hk : ro_k x
  · unfold ro_k at hk
    have : ro_f x = true := by unfold ro_f; simpa using hk
    rw [ro_uf this] at h
    exact h
  · rfl
theorem ro_k_w {p q : Nat} {x : ro_T} (h : ro_w p q x = true) : ro_k x = true := by
  unfold ro_w at h
  unfold ro_k
  simp only [Bool.and_eq_true, Bool.not_eq_true'] at h
  simp [h.2]
theorem ro_ffl {P : ro_T → Bool} (hP : ∀ x, P x = true → ro_k x = true) (R : List ro_T) : (R.filter ro_k).filter P = R.filter P := by
  rw [List.filter_filter]
  congr 1
  funext x
  cases h : P x
  · simp
  · simp [hP x h]
theorem ro_fu (r : Nat) (R : List ro_T) : (R.filter ro_k).filter (ro_u r) = R.filter (ro_u r) := ro_ffl (fun _ h => ro_k_u h) R
theorem ro_fw (p q : Nat) (R : List ro_T) : (R.filter ro_k).filter (ro_w p q) = R.filter (ro_w p q) := ro_ffl (fun _ h => ro_k_w h) R
theorem ro_fO {R : List ro_T} (h : ro_O R) : ro_O (R.filter ro_k) := fun r hr => (h r hr).filter _
theorem ro_fA {R : List ro_T} (h : ro_A R) : ro_A (R.filter ro_k) := fun x hx => h x (List.mem_filter.mp hx).1
/-- nothing unsent stands before something done -/
theorem ro_bef {A C : List ro_T} {e : ro_T} (o : ro_O (A ++ e :: C)) (ok : ro_A (A ++ e :: C)) (he : ro_f e = true) : ∀ a, a ∈ A → ro_s a = true := by
  intro a ha
  cases hs : ro_s a
  · exfalso
    obtain ⟨a1, a2, a3, a4⟩ := ok a (by simp [ha])
    obtain ⟨e1, e2, e3, e4⟩ := ok e (by simp)
    have hd : ro_d a = false := by
      cases h : ro_d a
      · rfl
      · rw [a4 h] at hs; exact hs
    have key : ∀ z, z < 3 → ro_c z a = true → ro_c z e = true → False := by
      intro z hz c1 c2
      have hp := (List.pairwise_append.mp (o z hz)).2.2 a ha e (by simp)
      have u1 : ro_u z a = true := by
        unfold ro_c at c1
        unfold ro_u
        simpa [hs, hd] using c1
      have := hp u1 c2
      rw [ro_uf he] at this
      exact absurd this (by decide)
    have : ro_p a = ro_p e ∨ ro_p a = ro_q e ∨ ro_q a = ro_p e ∨ ro_q a = ro_q e := by omega
    rcases this with h | h | h | h
    · exact key (ro_p a) a1 (by simp [ro_c]) (by simp [ro_c, h])
    · exact key (ro_p a) a1 (by simp [ro_c]) (by simp [ro_c, h])
    · exact key (ro_q a) a2 (by simp [ro_c]) (by simp [ro_c, h])
    · exact key (ro_q a) a2 (by simp [ro_c]) (by simp [ro_c, h])
  · rfl
theorem ro_nU0 {A : List ro_T} (h : ∀ a, a ∈ A → ro_s a = true) : ro_nU A = 0 := by
  unfold ro_nU
  rw [List.countP_eq_zero]
  intro a ha
  simp [h a ha]
theorem ro_nUa (A B : List ro_T) : ro_nU (A ++ B) = ro_nU A + ro_nU B := List.countP_append
theorem ro_nOa (A B : List ro_T) : ro_nO (A ++ B) = ro_nO A + ro_nO B := List.countP_append
theorem ro_nUc (x : ro_T) (B : List ro_T) : ro_nU (x :: B) = ro_nU B + (if ro_s x then 0 else 1) := by
  unfold ro_nU
  rw [List.countP_cons]
  cases ro_s x <;> rfl
theorem ro_nOc (x : ro_T) (B : List ro_T) : ro_nO (x :: B) = ro_nO B + (if ro_s x then 1 else 0) := by
  unfold ro_nO
  rw [List.countP_cons]
theorem ro_n_le (r : Nat) (R : List ro_T) : ro_n r R ≤ 1 := by
  unfold ro_n
  split <;> omega
theorem ro_n_1 {r : Nat} {R : List ro_T} {x : ro_T} (h : x ∈ R) (u : ro_u r x = true) : ro_n r R = 1 := by
  unfold ro_n
  rw [if_pos (List.any_eq_true.mpr ⟨x, h, u⟩)]
theorem ro_n_0 {r : Nat} {R : List ro_T} (h : ∀ x, x ∈ R → ro_u r x = false) : ro_n r R = 0 := by
  unfold ro_n
  rw [if_neg]
  intro z
  obtain ⟨x, hx, u⟩ := List.any_eq_true.mp z
  rw [h x hx] at u
  exact absurd u (by decide)
theorem ro_n_mo {r : Nat} {R S : List ro_T} (h : ∀ x, x ∈ R → ro_u r x = true → ∃ y, y ∈ S ∧ ro_u r y = true) : ro_n r R ≤ ro_n r S := by
  by_cases c : ∃ x, x ∈ R ∧ ro_u r x = true
  · obtain ⟨x, hx, u⟩ := c
    obtain ⟨y, hy, v⟩ := h x hx u
    rw [ro_n_1 hy v]
    exact ro_n_le r R
  · rw [ro_n_0 (R := R)]
    · exact Nat.zero_le _
    · intro x hx
      cases u : ro_u r x
      · rfl
      · exact absurd ⟨x, hx, u⟩ c
theorem ro_N_mo {R S : List ro_T} (h : ∀ r x, x ∈ R → ro_u r x = true → ∃ y, y ∈ S ∧ ro_u r y = true) : ro_N R ≤ ro_N S := by
  have h0 := ro_n_mo (h 0)
  have h1 := ro_n_mo (h 1)
  have h2 := ro_n_mo (h 2)
  unfold ro_N
  omega
theorem ro_N_3 (R : List ro_T) : ro_N R ≤ 3 := by
  have h0 := ro_n_le 0 R
  have h1 := ro_n_le 1 R
  have h2 := ro_n_le 2 R
  unfold ro_N
  omega
/-- forgetting what is done -/
theorem ro_fB {R : List ro_T} (o : ro_O R) (ok : ro_A R) (b : ro_B R) : ro_B (R.filter ro_k) := by
  intro A S e
  obtain ⟨A0, S0, e0, eA, eS⟩ := List.filter_eq_append_iff.mp e
  -- the last done one in S0
  have key : ∀ (S0 B0 : List ro_T), R = B0 ++ S0 → ro_nU (S0.filter ro_k) ≤ 20 * (ro_nO (S0.filter ro_k) + ro_N (S0.filter ro_k)) ∧ ro_nU (S0.filter ro_k) = ro_nU S0 := by
    intro S0
    induction S0 with
    | nil => intro B0 _; exact ⟨by simp [ro_nU], rfl⟩
    | cons x T ih =>
      intro B0 eB
      obtain ⟨i1, i2⟩ := ih (B0 ++ [x]) (by rw [eB]; simp)
      cases hk : ro_k x
      · have hf : ro_f x = true := by unfold ro_k at hk; unfold ro_f; simpa using hk
        have hs : ro_s x = true := by unfold ro_f at hf; simp only [Bool.and_eq_true] at hf; exact hf.1
        rw [List.filter_cons_of_neg (by simp [hk])]
        refine ⟨i1, ?_⟩
        rw [i2, ro_nUc, hs]
        rfl
      · rw [List.filter_cons_of_pos hk]
        have e2 : ro_nU (x :: T.filter ro_k) = ro_nU (x :: T) := by rw [ro_nUc, ro_nUc, i2]
        refine ⟨?_, e2⟩
        by_cases hd : ∃ y, y ∈ T ∧ ro_f y = true
        · obtain ⟨y, hy, fy⟩ := hd
          obtain ⟨D, T1, eT⟩ := List.append_of_mem hy
          have hs := ro_bef (A := B0 ++ x :: D) (C := T1) (e := y) (by rw [show (B0 ++ x :: D) ++ y :: T1 = R from by rw [eB, eT]; simp]; exact o) (by rw [show (B0 ++ x :: D) ++ y :: T1 = R from by rw [eB, eT]; simp]; exact ok) fy x (by simp)
          have h1 : ro_nU (x :: T.filter ro_k) = ro_nU (T.filter ro_k) := by rw [ro_nUc, hs]; rfl
          have h2 : ro_nO (x :: T.filter ro_k) = ro_nO (T.filter ro_k) + 1 := by rw [ro_nOc, hs]; rfl
          have h3 : ro_N (T.filter ro_k) ≤ ro_N (x :: T.filter ro_k) := ro_N_mo (fun r y hy u => ⟨y, List.mem_cons_of_mem _ hy, u⟩)
          omega
        · have hT : T.filter ro_k = T := by
            rw [List.filter_eq_self]
            intro y hy
            cases z : ro_k y
            · exact absurd ⟨y, hy, by unfold ro_k at z; unfold ro_f; simpa using z⟩ hd
            · rfl
          rw [hT]
          exact b B0 (x :: T) eB
  have := (key S0 A0 e0).1
  rw [eS] at this
  exact this
theorem ro_B_cut {A C R' : List ro_T} {x : ro_T} (e : R' = A ++ x :: C) (hC : ro_B C) (h : ∀ A2, (∃ A1, A = A1 ++ A2) → ro_nU (A2 ++ x :: C) ≤ 20 * (ro_nO (A2 ++ x :: C) + ro_N (A2 ++ x :: C))) : ro_B R' := by
  intro B S eS
  rw [e] at eS
  rcases List.append_eq_append_iff.mp eS with ⟨D, e1, e2⟩ | ⟨D, e1, e2⟩
  · cases D with
    | nil =>
      have : S = [] ++ x :: C := by simpa using e2.symm
      rw [this]
      exact h [] ⟨A, by simp⟩
    | cons y D =>
      have e3 : x = y ∧ C = D ++ S := by simpa using e2
      exact hC D S e3.2
  · rw [e2]
    exact h D ⟨B, e1⟩
theorem ro_B_suf {A C : List ro_T} (h : ro_B (A ++ C)) : ro_B C := fun B S e => h (A ++ B) S (by rw [e, List.append_assoc])
theorem ro_B_suf1 {A C : List ro_T} {x : ro_T} (h : ro_B (A ++ x :: C)) : ro_B C := ro_B_suf (A := A ++ [x]) (by simpa using h)
theorem ro_N_set {A C : List ro_T} {x y : ro_T} (h : ∀ z, ro_u z x = true → ro_u z y = true) : ro_N (A ++ x :: C) ≤ ro_N (A ++ y :: C) := by
  apply ro_N_mo
  intro r z hz u
  rcases List.mem_append.mp hz with h1 | h1
  · exact ⟨z, List.mem_append_left _ h1, u⟩
  · rcases List.mem_cons.mp h1 with h2 | h2
    · rw [h2] at u
      exact ⟨y, by simp, h r u⟩
    · exact ⟨z, by simp [h2], u⟩
end PRC
