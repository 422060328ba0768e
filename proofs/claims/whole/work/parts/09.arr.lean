section PRI
/-! the reference's arrays hold the rows -/
def pr_bI (b : Bool) : Int32 := if b then 1 else 0
def yr_at (se re to va is ir : Nat → Int32) (j : Nat) (x : ro_T) : Prop :=
  se j = nI (ro_p x) ∧ re j = nI (ro_q x) ∧ to j = ro_l x ∧ va j = ro_v x ∧ is j = pr_bI (ro_s x) ∧ ir j = pr_bI (ro_d x)
def yr_ok (R : List ro_T) (se re to va is ir : Nat → Int32) : Prop := ∀ (j : Nat) (x : ro_T), R[j]? = some x → yr_at se re to va is ir j x
theorem yr_mid {A C : List ro_T} {x y z : ro_T} {j : Nat} (h : (A ++ y :: C)[j]? = some z) : (j = A.length ∧ z = y) ∨ (j ≠ A.length ∧ (A ++ x :: C)[j]? = some z) := by
  rw [List.getElem?_append] at h ⊢
  by_cases c : j < A.length
  · rw [if_pos c] at h
    rw [if_pos c]
    exact Or.inr ⟨by omega, h⟩
  · rw [if_neg c] at h
    rw [if_neg c]
    by_cases e : j = A.length
    · rw [e, Nat.sub_self, List.getElem?_cons_zero] at h
      exact Or.inl ⟨e, by simpa using h.symm⟩
    · obtain ⟨m, hm⟩ : ∃ m, j - A.length = m + 1 := ⟨j - A.length - 1, by omega⟩
      rw [hm, List.getElem?_cons_succ] at h ⊢
      exact Or.inr ⟨e, h⟩
theorem yr_here {A C : List ro_T} {x : ro_T} : (A ++ x :: C)[A.length]? = some x := by
  rw [List.getElem?_append, if_neg (by omega), Nat.sub_self, List.getElem?_cons_zero]
theorem yr_snd {A C : List ro_T} {x : ro_T} {se re to va is ir : Nat → Int32} (h : yr_ok (A ++ x :: C) se re to va is ir) (v : Int32) : yr_ok (A ++ ro_snd x v :: C) se re to (upd va A.length v) (upd is A.length 1) ir := by
  intro j z hz
  rcases yr_mid (x := x) hz with ⟨e, e2⟩ | ⟨e, h2⟩
  · subst e; subst e2
    obtain ⟨h1, h2, h3, h4, h5, h6⟩ := h A.length x yr_here
    exact ⟨h1, h2, h3, pk_us, pk_us, h6⟩
  · obtain ⟨h1, h2, h3, h4, h5, h6⟩ := h j z h2
    exact ⟨h1, h2, h3, by rw [pk_un e]; exact h4, by rw [pk_un e]; exact h5, h6⟩
theorem yr_rcv {A C : List ro_T} {x : ro_T} {se re to va is ir : Nat → Int32} (h : yr_ok (A ++ x :: C) se re to va is ir) : yr_ok (A ++ ro_rcv x :: C) se re to va is (upd ir A.length 1) := by
  intro j z hz
  rcases yr_mid (x := x) hz with ⟨e, e2⟩ | ⟨e, h2⟩
  · subst e; subst e2
    obtain ⟨h1, h2, h3, h4, h5, h6⟩ := h A.length x yr_here
    exact ⟨h1, h2, h3, h4, h5, pk_us⟩
  · obtain ⟨h1, h2, h3, h4, h5, h6⟩ := h j z h2
    exact ⟨h1, h2, h3, h4, h5, by rw [pk_un e]; exact h6⟩
theorem yr_app {R : List ro_T} {se re to va is ir : Nat → Int32} (h : yr_ok R se re to va is ir) (p q : Nat) (l : Int32) : yr_ok (R ++ [(p, q, l, va R.length, false, false)]) (upd se R.length (nI p)) (upd re R.length (nI q)) (upd to R.length l) va (upd is R.length 0) (upd ir R.length 0) := by
  intro j z hz
  rw [List.getElem?_append] at hz
  by_cases c : j < R.length
  · rw [if_pos c] at hz
    obtain ⟨h1, h2, h3, h4, h5, h6⟩ := h j z hz
    have e : j ≠ R.length := by omega
    exact ⟨by rw [pk_un e]; exact h1, by rw [pk_un e]; exact h2, by rw [pk_un e]; exact h3, h4, by rw [pk_un e]; exact h5, by rw [pk_un e]; exact h6⟩
  · rw [if_neg c] at hz
    have e : j = R.length := by
      by_cases z1 : j - R.length = 0
      · omega
      · rw [List.getElem?_eq_none (by simp; omega)] at hz
        exact absurd hz (by simp)
    subst e
    rw [Nat.sub_self] at hz
    have : (p, q, l, va R.length, false, false) = z := by simpa using hz
    subst this
    exact ⟨pk_us, pk_us, pk_us, rfl, pk_us, pk_us⟩
theorem pr_bI1 : pr_bI true = 1 := rfl
theorem pr_bI0 : pr_bI false = 0 := rfl
theorem pr_bI_0 {b : Bool} : pr_bI b = 0 ↔ b = false := by
  cases b
  · exact ⟨fun _ => rfl, fun _ => rfl⟩
  · exact ⟨fun h => absurd h (by decide), fun h => absurd h (by decide)⟩
theorem pr_bI_1 {b : Bool} : pr_bI b = 1 ↔ b = true := by
  cases b
  · exact ⟨fun h => absurd h (by decide), fun h => absurd h (by decide)⟩
  · exact ⟨fun _ => rfl, fun _ => rfl⟩
theorem pr_bIn (b : Bool) : vp_nar .boolean (pr_bI b) = pr_bI b := by
  cases b
  · decide
  · decide
/-- the first one that r has not done, or none -/
theorem ro_split (r : Nat) (R : List ro_T) : (∀ x, x ∈ R → ro_u r x = false) ∨ ∃ A x C, R = A ++ x :: C ∧ (∀ y, y ∈ A → ro_u r y = false) ∧ ro_u r x = true := by
  induction R with
  | nil => exact Or.inl (fun x hx => absurd hx (by simp))
  | cons x T ih =>
    cases hu : ro_u r x
    · rcases ih with h | ⟨A, y, C, e, hA, hy⟩
      · refine Or.inl ?_
        intro y hy
        rcases List.mem_cons.mp hy with e | e
        · rw [e]; exact hu
        · exact h y e
      · refine Or.inr ⟨x :: A, y, C, by rw [e]; rfl, ?_, hy⟩
        intro z hz
        rcases List.mem_cons.mp hz with e | e
        · rw [e]; exact hu
        · exact hA z e
    · exact Or.inr ⟨[], x, T, rfl, fun y hy => absurd hy (by simp), hu⟩
end PRI
