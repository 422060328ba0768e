section PRH
/-! the rings of slots -/
def pr_ring (ol wt sl sv : Nat → Int32) (R : List ro_T) : Prop :=
  ∀ p q, p < 3 → q < 3 → ∃ o, o < 4 ∧ ol (p * 3 + q) = nI o ∧ wt (p * 3 + q) = nI (R.filter (ro_w p q)).length ∧ ∀ (i : Nat) (x : ro_T), (R.filter (ro_w p q))[i]? = some x → sl ((p * 3 + q) * 4 + (o + i) % 4) = ro_l x ∧ sv ((p * 3 + q) * 4 + (o + i) % 4) = ro_v x
theorem pr_ring_eq {ol wt sl sv : Nat → Int32} {R R' : List ro_T} (h : pr_ring ol wt sl sv R) (e : ∀ p q, R'.filter (ro_w p q) = R.filter (ro_w p q)) : pr_ring ol wt sl sv R' := by
  intro p q hp hq
  rw [e]
  exact h p q hp hq
theorem pr_ring_push {ol wt sl sv : Nat → Int32} {R R' : List ro_T} {p q o n : Nat} {x : ro_T} (h : pr_ring ol wt sl sv R) (hp : p < 3) (hq : q < 3) (ho : ol (p * 3 + q) = nI o) (ho4 : o < 4) (hn : (R.filter (ro_w p q)).length = n) (hn4 : n < 4)
    (e : R'.filter (ro_w p q) = R.filter (ro_w p q) ++ [x]) (eo : ∀ p' q', ¬ (p' = p ∧ q' = q) → R'.filter (ro_w p' q') = R.filter (ro_w p' q')) :
    pr_ring ol (upd wt (p * 3 + q) (nI (n + 1))) (upd sl ((p * 3 + q) * 4 + (o + n) % 4) (ro_l x)) (upd sv ((p * 3 + q) * 4 + (o + n) % 4) (ro_v x)) R' := by
  intro p' q' hp' hq'
  obtain ⟨o', h1, h2, h3, h4⟩ := h p' q' hp' hq'
  by_cases c : p' = p ∧ q' = q
  · obtain ⟨rfl, rfl⟩ := c
    have : o' = o := by
      rw [ho] at h2
      exact ((nI_eq (by omega) (by omega)).mp h2).symm
    subst this
    refine ⟨o', h1, h2, ?_, ?_⟩
    · rw [pk_us, e, List.length_append, hn]
      rfl
    · intro i y hy
      rw [e, List.getElem?_append, hn] at hy
      by_cases ci : i < n
      · rw [if_pos ci] at hy
        rw [pk_un (by omega), pk_un (by omega)]
        exact h4 i y hy
      · rw [if_neg ci] at hy
        have hi : i - n = 0 := by
          by_cases z : i - n = 0
          · exact z
          · rw [List.getElem?_eq_none (by simp; omega)] at hy
            exact absurd hy (by simp)
        rw [hi] at hy
        have : x = y := by simpa using hy
        subst this
        have : i = n := by omega
        subst this
        rw [pk_us, pk_us]
        exact ⟨rfl, rfl⟩
  · rw [eo p' q' c]
    have hc : p' * 3 + q' ≠ p * 3 + q := by omega
    refine ⟨o', h1, h2, ?_, ?_⟩
    · rw [pk_un hc]
      exact h3
    · intro i y hy
      have : ∀ z, (p' * 3 + q') * 4 + (o' + i) % 4 ≠ (p * 3 + q) * 4 + z % 4 := by
        intro z
        omega
      rw [pk_un (this _), pk_un (this _)]
      exact h4 i y hy
theorem pr_ring_pop {ol wt sl sv : Nat → Int32} {R R' : List ro_T} {p q o : Nat} {x : ro_T} (h : pr_ring ol wt sl sv R) (hp : p < 3) (hq : q < 3) (ho : ol (p * 3 + q) = nI o) (ho4 : o < 4)
    (e : R.filter (ro_w p q) = x :: R'.filter (ro_w p q)) (eo : ∀ p' q', ¬ (p' = p ∧ q' = q) → R'.filter (ro_w p' q') = R.filter (ro_w p' q')) :
    pr_ring (upd ol (p * 3 + q) (nI ((o + 1) % 4))) (upd wt (p * 3 + q) (nI (R'.filter (ro_w p q)).length)) sl sv R' ∧ sl ((p * 3 + q) * 4 + o) = ro_l x ∧ sv ((p * 3 + q) * 4 + o) = ro_v x := by
  refine ⟨?_, ?_⟩
  · intro p' q' hp' hq'
    obtain ⟨o', h1, h2, h3, h4⟩ := h p' q' hp' hq'
    by_cases c : p' = p ∧ q' = q
    · obtain ⟨rfl, rfl⟩ := c
      have : o' = o := by
        rw [ho] at h2
        exact ((nI_eq (by omega) (by omega)).mp h2).symm
      subst this
      refine ⟨(o' + 1) % 4, by omega, pk_us, pk_us, ?_⟩
      intro i y hy
      have := h4 (i + 1) y (by rw [e, List.getElem?_cons_succ]; exact hy)
      rw [show ((o' + 1) % 4 + i) % 4 = (o' + (i + 1)) % 4 from by omega]
      exact this
    · rw [eo p' q' c]
      have hc : p' * 3 + q' ≠ p * 3 + q := by omega
      refine ⟨o', h1, by rw [pk_un hc]; exact h2, by rw [pk_un hc]; exact h3, h4⟩
  · obtain ⟨o', h1, h2, h3, h4⟩ := h p q hp hq
    have : o' = o := by
      rw [ho] at h2
      exact ((nI_eq (by omega) (by omega)).mp h2).symm
    subst this
    have := h4 0 x (by rw [e]; rfl)
    rw [show (o' + 0) % 4 = o' from by omega] at this
    exact this
end PRH
