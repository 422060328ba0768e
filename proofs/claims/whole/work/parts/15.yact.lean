section PRO
/-! the reference: appending, forgetting, beginning -/
def yr_R (R : List ro_T) (a : Nat) (la : Nat → Int32) (z_rows z_at : Int32) (y_senders y_receivers y_told y_values y_isSent y_isReceived y_last : Nat → Int32) : Prop :=
  z_rows = nI R.length ∧ z_at = nI a ∧ yr_ok R y_senders y_receivers y_told y_values y_isSent y_isReceived ∧ (∀ r, r < 3 → y_last r = la r)
section
variable {z_made z_depth z_size z_rows z_at z_sendings : Int32} {y_sorts y_froms y_tos y_labels y_firsts y_seconds y_around y_stack y_senders y_receivers y_told y_values y_isSent y_isReceived y_last y_met : Nat → Int32} {g : pg_T} {gx : Nat → Nat} {gp : Nat → Option Nat}
theorem ys_append {post : SY → Prop} {n p q : Nat} {l : Int32} (hl : n < 600) (er : z_rows = nI n)
    (h : post (z_made, z_depth, z_size, nI (n + 1), z_at, z_sendings, y_sorts, y_froms, y_tos, y_labels, y_firsts, y_seconds, y_around, y_stack, upd y_senders n (nI p), upd y_receivers n (nI q), upd y_told n l, y_values, upd y_isSent n 0, upd y_isReceived n 0, y_last, y_met)) : wpY_append post (z_made, z_depth, z_size, z_rows, z_at, z_sendings, y_sorts, y_froms, y_tos, y_labels, y_firsts, y_seconds, y_around, y_stack, y_senders, y_receivers, y_told, y_values, y_isSent, y_isReceived, y_last, y_met) (nI p) (nI q) l := by
  subst er
  have i6 : vp_in (nI n) 600 := vp_in_nI hl (by decide)
  unfold wpY_append
  dsimp only
  rw [nI_clamp (n := n) (by omega), show vp_nar .boolean 0 = 0 from pr_bIn false]
  exact ⟨i6, nm_e ⟨i6, nm_e ⟨i6, nm_e ⟨i6, nm_e ⟨i6, nm_e (nm_r (nI_1 n) h)⟩⟩⟩⟩⟩
theorem ys_goOn {post : SY → Prop} {n a : Nat} (ok : pg_ok g) (U : pg_up g gx gp) (P : yr_P g gx gp z_size y_sorts y_froms y_tos y_labels y_firsts y_seconds y_around) (ha : a < pg_n g) (ka : pg_k g a = 1) (hl : n < 600) (er : z_rows = nI n) (ea : z_at = nI a)
    (h : post (z_made, z_depth, z_size, nI (n + 1), nI (pg_w g a), z_sendings, y_sorts, y_froms, y_tos, y_labels, y_firsts, y_seconds, y_around, y_stack, upd y_senders n (nI (pg_f g a)), upd y_receivers n (nI (pg_t g a)), upd y_told n (pg_l g a), y_values, upd y_isSent n 0, upd y_isReceived n 0, y_last, y_met)) : wpY_goOn post (z_made, z_depth, z_size, z_rows, z_at, z_sendings, y_sorts, y_froms, y_tos, y_labels, y_firsts, y_seconds, y_around, y_stack, y_senders, y_receivers, y_told, y_values, y_isSent, y_isReceived, y_last, y_met) := by
  subst ea
  obtain ⟨i40, i20, ec, es, b⟩ := yr_pat ok P ha
  obtain ⟨-, p1, -, p2, p3, p4, -⟩ := P.2 a ha
  unfold wpY_goOn
  dsimp only
  rw [ec, p1 (by omega), p2, p3 ka]
  refine ⟨i40, i40, i40, ys_append hl er ⟨i40, ?_⟩⟩
  dsimp only
  rw [ec, (p4 (by omega) (by omega)).1]
  exact ys_settled ok U P (pg_1lt ok ha) h
theorem ys_fg4 {post : SY → Prop} {R : List ro_T} (hl : R.length ≤ 600) (er : z_rows = nI R.length)
    (h : ∀ c1 c2 c3 c4 c5 c6 : Nat → Int32, yr_ok (R.filter ro_k) c1 c2 c3 c4 c5 c6 → post (z_made, z_depth, z_size, nI (R.filter ro_k).length, z_at, z_sendings, y_sorts, y_froms, y_tos, y_labels, y_firsts, y_seconds, y_around, y_stack, c1, c2, c3, c4, c5, c6, y_last, y_met)) :
    ∀ (S P : List ro_T) (c1 c2 c3 c4 c5 c6 : Nat → Int32), R = P ++ S → (∀ (j : Nat) (x : ro_T), (P.filter ro_k)[j]? = some x → yr_at c1 c2 c3 c4 c5 c6 j x) → (∀ (j : Nat) (x : ro_T), P.length ≤ j → R[j]? = some x → yr_at c1 c2 c3 c4 c5 c6 j x) →
      wY_forget_4 post z_made z_depth z_size z_rows z_at z_sendings (S.length + 1) (nI (P.filter ro_k).length) (nI P.length) y_sorts y_froms y_tos y_labels y_firsts y_seconds y_around y_stack c1 c2 c3 c4 c5 c6 y_last y_met := by
  subst er
  intro S
  induction S with
  | nil =>
    intro P c1 c2 c3 c4 c5 c6 e h1 h2
    rw [List.append_nil] at e
    subst e
    exact br_t (nI_le (by omega) (by omega)) (h _ _ _ _ _ _ h1)
  | cons x S ih =>
    intro P c1 c2 c3 c4 c5 c6 e h1 h2
    have hlen : P.length < R.length := by rw [e, List.length_append, List.length_cons]; omega
    have hfl : (P.filter ro_k).length ≤ P.length := List.length_filter_le _ _
    obtain ⟨t1, t2, t3, t4, t5, t6⟩ := h2 P.length x (Nat.le_refl _) (by rw [e]; exact yr_here)
    have i6 : vp_in (nI P.length) 600 := vp_in_nI (by omega) (by decide)
    have j6 : vp_in (nI (P.filter ro_k).length) 600 := vp_in_nI (by omega) (by decide)
    have keep : ro_k x = true → wY_forget_30 post (wY_forget_4 post z_made z_depth z_size (nI R.length) z_at z_sendings (S.length + 1)) (nI (P.filter ro_k).length) (nI P.length) z_made z_depth z_size (nI R.length) z_at z_sendings y_sorts y_froms y_tos y_labels y_firsts y_seconds y_around y_stack c1 c2 c3 c4 c5 c6 y_last y_met := by
      intro hk
      unfold wY_forget_30
      rw [nI_clamp (n := P.length) (by omega), nI_clamp (n := (P.filter ro_k).length) (by omega), t1, t2, t3, t4, t5, t6, pr_bIn, pr_bIn]
      refine ⟨i6, j6, nm_e ⟨i6, j6, nm_e ⟨i6, j6, nm_e ⟨i6, j6, nm_e ⟨i6, j6, nm_e ⟨i6, j6, nm_e (nm_r (nI_1 _) (nm_r (nI_1 _) ?_))⟩⟩⟩⟩⟩⟩
      have ef : ((P ++ [x]).filter ro_k) = P.filter ro_k ++ [x] := by rw [List.filter_append, List.filter_cons_of_pos hk]; rfl
      have el : ((P ++ [x]).filter ro_k).length = (P.filter ro_k).length + 1 := by rw [ef, List.length_append]; rfl
      have := ih (P ++ [x]) (upd c1 (P.filter ro_k).length (nI (ro_p x))) (upd c2 (P.filter ro_k).length (nI (ro_q x))) (upd c3 (P.filter ro_k).length (ro_l x)) (upd c4 (P.filter ro_k).length (ro_v x)) (upd c5 (P.filter ro_k).length (pr_bI (ro_s x))) (upd c6 (P.filter ro_k).length (pr_bI (ro_d x))) (by rw [e]; simp) ?_ ?_
      · rw [el, List.length_append] at this
        exact this
      · intro j y hy
        rw [ef, List.getElem?_append] at hy
        by_cases c : j < (P.filter ro_k).length
        · rw [if_pos c] at hy
          obtain ⟨s1, s2, s3, s4, s5, s6⟩ := h1 j y hy
          have ne : j ≠ (P.filter ro_k).length := by omega
          exact ⟨(pk_un ne).trans s1, (pk_un ne).trans s2, (pk_un ne).trans s3, (pk_un ne).trans s4, (pk_un ne).trans s5, (pk_un ne).trans s6⟩
        · rw [if_neg c] at hy
          have ej : j = (P.filter ro_k).length := by
            by_cases z1 : j - (P.filter ro_k).length = 0
            · omega
            · rw [List.getElem?_eq_none (by simp; omega)] at hy
              exact absurd hy (by simp)
          subst ej
          rw [Nat.sub_self] at hy
          have : x = y := by simpa using hy
          subst this
          exact ⟨pk_us, pk_us, pk_us, pk_us, pk_us, pk_us⟩
      · intro j y hj hy
        rw [List.length_append] at hj
        have hj' : P.length + 1 ≤ j := hj
        obtain ⟨s1, s2, s3, s4, s5, s6⟩ := h2 j y (by omega) hy
        have ne : j ≠ (P.filter ro_k).length := by omega
        exact ⟨(pk_un ne).trans s1, (pk_un ne).trans s2, (pk_un ne).trans s3, (pk_un ne).trans s4, (pk_un ne).trans s5, (pk_un ne).trans s6⟩
    refine br_f (nI_ge hlen (by omega)) ?_
    rw [nI_clamp (n := P.length) (by omega), t5, t6]
    refine ⟨i6, ?_⟩
    cases hs : ro_s x
    · exact br_t rfl (keep (by unfold ro_k; simp [hs]))
    · refine br_f (by decide) ⟨i6, ?_⟩
      cases hd : ro_d x
      · exact br_t rfl (keep (by unfold ro_k; simp [hd]))
      · have hk : ro_k x = false := by unfold ro_k; simp [hs, hd]
        have ef : ((P ++ [x]).filter ro_k) = P.filter ro_k := by rw [List.filter_append, List.filter_cons_of_neg (by simp [hk])]; simp
        refine br_f (by decide) (nm_r (nI_1 _) ?_)
        have := ih (P ++ [x]) c1 c2 c3 c4 c5 c6 (by rw [e]; simp) (by rw [ef]; exact h1) (fun j y hj hy => h2 j y (by rw [List.length_append] at hj; omega) hy)
        rw [ef, List.length_append] at this
        exact this
theorem ys_forget {post : SY → Prop} {R : List ro_T} (hl : R.length ≤ 600) (er : z_rows = nI R.length) (Y : yr_ok R y_senders y_receivers y_told y_values y_isSent y_isReceived)
    (h : ∀ c1 c2 c3 c4 c5 c6 : Nat → Int32, yr_ok (R.filter ro_k) c1 c2 c3 c4 c5 c6 → post (z_made, z_depth, z_size, nI (R.filter ro_k).length, z_at, z_sendings, y_sorts, y_froms, y_tos, y_labels, y_firsts, y_seconds, y_around, y_stack, c1, c2, c3, c4, c5, c6, y_last, y_met)) : wpY_forget post (z_made, z_depth, z_size, z_rows, z_at, z_sendings, y_sorts, y_froms, y_tos, y_labels, y_firsts, y_seconds, y_around, y_stack, y_senders, y_receivers, y_told, y_values, y_isSent, y_isReceived, y_last, y_met) :=
  ⟨R.length + 1, ys_fg4 hl er h R [] _ _ _ _ _ _ rfl (fun j x hx => absurd hx (by simp)) (fun j x _ hx => Y j x hx)⟩
theorem ys_restart {post : SY → Prop} (ok : pg_ok g) (U : pg_up g gx gp) (P : yr_P g gx gp z_size y_sorts y_froms y_tos y_labels y_firsts y_seconds y_around)
    (h : post (z_made, z_depth, z_size, 0, nI (pg_s g (pg_n g - 1)), 0, y_sorts, y_froms, y_tos, y_labels, y_firsts, y_seconds, y_around, y_stack, y_senders, y_receivers, y_told, y_values, y_isSent, y_isReceived, fun j => if j < 3 then 0 else y_last j, y_met)) : wpY_restart post (z_made, z_depth, z_size, z_rows, z_at, z_sendings, y_sorts, y_froms, y_tos, y_labels, y_firsts, y_seconds, y_around, y_stack, y_senders, y_receivers, y_told, y_values, y_isSent, y_isReceived, y_last, y_met) := by
  have h0 := ok.1
  have es := P.1
  unfold wpY_restart
  dsimp only
  rw [show z_size - 1 = nI (pg_n g - 1) from by rw [es]; exact pk_sub (a := pg_n g) (b := 1) (by omega)]
  refine ys_settled ok U P (by omega) ?_
  refine loop_0 (fun n i (s : Nat → Int32) => wY_restart_26 post z_made z_depth z_size 0 (nI (pg_s g (pg_n g - 1))) 0 n (nI i) y_sorts y_froms y_tos y_labels y_firsts y_seconds y_around y_stack y_senders y_receivers y_told y_values y_isSent y_isReceived s y_met)
    (fun i s => s = (fun j => if j < i then 0 else y_last j)) 3 y_last ?_ ?_ ?_
  · simp
  · intro n s e
    subst e
    exact br_t (nI_le (a := 3) (b := 3) (by omega) (by decide)) h
  · intro n i s hi e hk
    subst e
    refine br_f (nI_ge (b := 3) hi (by decide)) ⟨vp_in_nI hi (by decide), nm_e (nm_r (nI_1 i) (hk _ ?_))⟩
    rw [nI_clamp (n := i) (by omega)]
    exact pr_updlt i
end
end PRO
