section PRM
/-! the component: the protocol, and whether a run can finish -/
section
variable {f_draftCount f_stackCount f_termCount f_root f_sentCount f_walkedFrom : Int32} {a_draftKind a_draftFrom a_draftTo a_draftNumber a_draftFirst a_draftSecond a_draftParent a_stack a_kind a_from a_to a_number a_first a_second a_place a_picked a_lastGot a_oldest a_waiting a_slotLabel a_slotValue : Nat → Int32} {d : dd_T} {m e : Nat} {st : Nat → Nat} {g : pg_T}
def dd_l (d : dd_T) (i : Nat) : Nat := match dd_up (dd_k d) (dd_n d) (dd_p d) (dd_n d i) 20 (dd_p d i) false with
  | some (l, _) => l
  | none => 0
theorem dd_l_fit (fit : dd_fit d m) : ∀ i, i < m → dd_k d i = 4 → dd_up (dd_k d) (dd_n d) (dd_p d) (dd_n d i) 20 (dd_p d i) false = some (dd_l d i, true) := by
  intro i hi h4
  obtain ⟨l, hl⟩ := fit i hi h4
  unfold dd_l
  rw [hl]
theorem xs_takeOver {post : SX → Prop} (ok : dd_ok d m e st) (D : xr_D d m e st f_draftCount f_stackCount a_draftKind a_draftFrom a_draftTo a_draftNumber a_draftFirst a_draftSecond a_draftParent a_stack) (fit : dd_fit d m) (he : e = 1)
    (h : ∀ k1 k2 k3 k4 k5 k6 : Nat → Int32, xr_P (dd_gr d m (dd_l d)) (nI m) (nI (m - 1)) k1 k2 k3 k4 k5 k6 → post (nI m, f_stackCount, nI m, nI (m - 1), f_sentCount, f_walkedFrom, a_draftKind, a_draftFrom, a_draftTo, a_draftNumber, a_draftFirst, a_draftSecond, a_draftParent, a_stack, k1, k2, k3, k4, k5, k6, a_place, a_picked, a_lastGot, a_oldest, a_waiting, a_slotLabel, a_slotValue)) : wpX_takeOverDraft post (f_draftCount, f_stackCount, f_termCount, f_root, f_sentCount, f_walkedFrom, a_draftKind, a_draftFrom, a_draftTo, a_draftNumber, a_draftFirst, a_draftSecond, a_draftParent, a_stack, a_kind, a_from, a_to, a_number, a_first, a_second, a_place, a_picked, a_lastGot, a_oldest, a_waiting, a_slotLabel, a_slotValue) := by
  have om := ok.1
  have hc := D.1
  subst hc
  have hl := dd_l_fit fit
  refine loop_0 (fun n i (s : (Nat → Int32) × (Nat → Int32) × (Nat → Int32) × (Nat → Int32) × (Nat → Int32) × (Nat → Int32)) => wX_takeOverDraft_2 post (nI m) f_stackCount f_termCount f_root f_sentCount f_walkedFrom n (nI i) a_draftKind a_draftFrom a_draftTo a_draftNumber a_draftFirst a_draftSecond a_draftParent a_stack (s.1) (s.2.1) (s.2.2.1) (s.2.2.2.1) (s.2.2.2.2.1) (s.2.2.2.2.2) a_place a_picked a_lastGot a_oldest a_waiting a_slotLabel a_slotValue)
    (fun i s => ∀ j, j < i → s.1 j = nI (dd_k d j) ∧ s.2.1 j = nI (dd_f d j) ∧ s.2.2.1 j = nI (dd_t d j) ∧ s.2.2.2.1 j = nI (dd_n d j) ∧ s.2.2.2.2.1 j = nI (if dd_k d j = 4 then dd_l d j else dd_1 d j) ∧ s.2.2.2.2.2 j = nI (if dd_k d j = 4 then dd_l d j else dd_2 d j)) m (a_kind, a_from, a_to, a_number, a_first, a_second) ?_ ?_ ?_
  · intro j hj; omega
  · intro n s hI
    refine br_t (nI_le (by omega) (by omega)) (nm_r (e' := nI (m - 1)) ?_ (h _ _ _ _ _ _ ⟨rfl, rfl, hI⟩))
    rw [D.2.2.2.1 0 (by omega)]
    have := ok.2.2.2.1 (by omega)
    rw [he] at this
    exact congrArg nI (by have : st (1 - 1) = st 0 := rfl; omega)
  · intro n i s hi hI hk
    have i20 : vp_in (nI i) 20 := vp_in_nI (by omega) (by decide)
    obtain ⟨g1, g2, g3, g4, g5, g6, g7⟩ := D.2.2.1 i hi
    have bk := (ok.2.2.2.2.2.2 i hi).1
    refine br_f (nI_ge hi (by omega)) ?_
    rw [nI_clamp (n := i) (by omega), g1, g2, g3, g4, g5, g6]
    refine ⟨i20, i20, nm_e ⟨i20, i20, nm_e ⟨i20, i20, nm_e ⟨i20, i20, nm_e ⟨i20, i20, nm_e ⟨i20, i20, nm_e ⟨i20, ?_⟩⟩⟩⟩⟩⟩⟩
    refine pk_eq (dd_k d i) 4 (fun c => xs_loopOf ok D hi ?_) (fun c => nm_r (nI_1 i) (hk (_, _, _, _, _, _) ?_))
    · rw [hl i hi c]
      refine ⟨i20, nm_e ⟨i20, i20, nm_e (nm_r (nI_1 i) (hk (_, _, _, _, _, _) ?_))⟩⟩
      intro j hj
      by_cases cj : j = i
      · subst cj
        refine ⟨pk_us, pk_us, pk_us, pk_us, ?_, ?_⟩
        · rw [if_pos c]; exact pk_us
        · rw [if_pos c]
          show upd _ j _ j = _
          rw [pk_us, pk_us]
          rfl
      · obtain ⟨q1, q2, q3, q4, q5, q6⟩ := hI j (by omega)
        refine ⟨(pk_un cj).trans q1, (pk_un cj).trans q2, (pk_un cj).trans q3, (pk_un cj).trans q4, ?_, ?_⟩
        · exact (pk_un cj).trans ((pk_un cj).trans q5)
        · exact (pk_un cj).trans ((pk_un cj).trans q6)
    · intro j hj
      by_cases cj : j = i
      · subst cj
        refine ⟨pk_us, pk_us, pk_us, pk_us, ?_, ?_⟩
        · rw [if_neg c]; exact pk_us
        · rw [if_neg c]; exact pk_us
      · obtain ⟨q1, q2, q3, q4, q5, q6⟩ := hI j (by omega)
        exact ⟨(pk_un cj).trans q1, (pk_un cj).trans q2, (pk_un cj).trans q3, (pk_un cj).trans q4, (pk_un cj).trans q5, (pk_un cj).trans q6⟩
theorem xs_protocol {post : Int32 → SX → Prop} (ok : dd_ok d m e st) (D : xr_D d m e st f_draftCount f_stackCount a_draftKind a_draftFrom a_draftTo a_draftNumber a_draftFirst a_draftSecond a_draftParent a_stack)
    (h3 : ¬ e = 1 → post (-3) (f_draftCount, f_stackCount, f_termCount, f_root, f_sentCount, f_walkedFrom, a_draftKind, a_draftFrom, a_draftTo, a_draftNumber, a_draftFirst, a_draftSecond, a_draftParent, a_stack, a_kind, a_from, a_to, a_number, a_first, a_second, a_place, a_picked, a_lastGot, a_oldest, a_waiting, a_slotLabel, a_slotValue)) (h5 : e = 1 → ¬ dd_fit d m → post (-5) (f_draftCount, f_stackCount, f_termCount, f_root, f_sentCount, f_walkedFrom, a_draftKind, a_draftFrom, a_draftTo, a_draftNumber, a_draftFirst, a_draftSecond, a_draftParent, a_stack, a_kind, a_from, a_to, a_number, a_first, a_second, a_place, a_picked, a_lastGot, a_oldest, a_waiting, a_slotLabel, a_slotValue))
    (h : e = 1 → dd_fit d m → ∀ k1 k2 k3 k4 k5 k6 : Nat → Int32, xr_P (dd_gr d m (dd_l d)) (nI m) (nI (m - 1)) k1 k2 k3 k4 k5 k6 → post (nI m) (0, 0, nI m, nI (m - 1), 0, nI (m - 1), a_draftKind, a_draftFrom, a_draftTo, a_draftNumber, a_draftFirst, a_draftSecond, a_draftParent, a_stack, k1, k2, k3, k4, k5, k6, fun j => if j < 3 then nI (m - 1) else a_place j, fun j => if j < 3 then -1 else a_picked j, fun j => if j < 3 then 0 else a_lastGot j, fun j => if j < 9 then 0 else a_oldest j, fun j => if j < 9 then 0 else a_waiting j, a_slotLabel, a_slotValue)) : wpX_protocol post (f_draftCount, f_stackCount, f_termCount, f_root, f_sentCount, f_walkedFrom, a_draftKind, a_draftFrom, a_draftTo, a_draftNumber, a_draftFirst, a_draftSecond, a_draftParent, a_stack, a_kind, a_from, a_to, a_number, a_first, a_second, a_place, a_picked, a_lastGot, a_oldest, a_waiting, a_slotLabel, a_slotValue) := by
  have om := ok.1
  have oe := ok.2.1
  have hc := D.2.1
  refine pk_eq e 1 (fun he => ?_) h3 hc rfl
  refine xs_every ok D (fun fit => br_f (by decide) ?_) (fun nf => br_t rfl (h5 he nf))
  refine xs_takeOver ok D fit he ?_
  intro k1 k2 k3 k4 k5 k6 hP
  exact xs_beginRun (h he fit k1 k2 k3 k4 k5 k6 hP)
theorem xs_canFinish {post : Int32 → Prop} {w : Nat} (ok : pg_ok g) (P : xr_P g f_termCount f_root a_kind a_from a_to a_number a_first a_second) (hw : w < pg_n g) (ew : f_walkedFrom = nI w) (h1 : pg_fin g w → post 1) (h0 : ¬ pg_fin g w → post 0) : wpX_canFinish post (f_draftCount, f_stackCount, f_termCount, f_root, f_sentCount, f_walkedFrom, a_draftKind, a_draftFrom, a_draftTo, a_draftNumber, a_draftFirst, a_draftSecond, a_draftParent, a_stack, a_kind, a_from, a_to, a_number, a_first, a_second, a_place, a_picked, a_lastGot, a_oldest, a_waiting, a_slotLabel, a_slotValue) := by
  have h20 := ok.2.1
  have hc := P.1
  subst hc ew
  refine nm_e ?_
  refine loop_0 (fun n i (s : Int32) => wX_canFinish_9 post f_draftCount f_stackCount (nI (pg_n g)) f_root f_sentCount (nI w) a_draftKind a_draftFrom a_draftTo a_draftNumber a_draftFirst a_draftSecond a_draftParent a_stack a_kind a_from a_to a_number a_first a_second a_place a_picked a_lastGot a_oldest a_waiting a_slotLabel a_slotValue n s (nI i))
    (fun i s => (∀ t, bt s t = true → t < pg_n g ∧ pg_re g w t) ∧ bt s w = true ∧ (i + 1 ≤ pr_cn (bt s) (pg_n g) ∨ ¬ pg_fin g w)) 20 _ ?_ ?_ ?_
  · refine ⟨?_, ?_, Or.inl ?_⟩
    · intro t ht
      by_cases c : t < 32
      · rw [pr_sh1 (by omega) c] at ht
        have : t = w := by simpa using ht
        subst this
        exact ⟨hw, pg_re_rf g t⟩
      · rw [b_big (by omega)] at ht
        exact absurd ht (by decide)
    · rw [pr_sh1 (by omega) (by omega)]
      simp
    · have hm := pr_cn_mo (P := fun i => decide (i = w)) (Q := bt ((1 : Int32) <<< (nI w &&& 31))) (pg_n g) (by
        intro i hi hp
        rw [pr_sh1 (by omega) (by omega)]
        exact hp)
      have : ∀ k, w < k → 1 ≤ pr_cn (fun i => decide (i = w)) k := by
        intro k
        induction k with
        | zero => intro z; omega
        | succ k ih =>
          intro z
          show 1 ≤ pr_cn (fun i => decide (i = w)) k + (if (decide (k = w)) = true then 1 else 0)
          by_cases c : k = w
          · simp [c]
          · have := ih (by omega)
            omega
      have := this _ hw
      omega
  · rintro n s ⟨-, -, hz⟩
    refine br_t (nI_le (a := 20) (b := 20) (by omega) (by decide)) (h0 ?_)
    rcases hz with hz | hz
    · have := pr_cn_le (bt s) (pg_n g)
      omega
    · exact hz
  · rintro n i s hi ⟨i1, i2, i3⟩ hk
    refine br_f (nI_ge (b := 20) hi (by decide)) ?_
    refine loop_0 (fun n' j (s' : Int32) => wX_canFinish_17 post (wX_canFinish_9 post f_draftCount f_stackCount (nI (pg_n g)) f_root f_sentCount (nI w) a_draftKind a_draftFrom a_draftTo a_draftNumber a_draftFirst a_draftSecond a_draftParent a_stack a_kind a_from a_to a_number a_first a_second a_place a_picked a_lastGot a_oldest a_waiting a_slotLabel a_slotValue n) (nI i) f_draftCount f_stackCount (nI (pg_n g)) f_root f_sentCount (nI w) a_draftKind a_draftFrom a_draftTo a_draftNumber a_draftFirst a_draftSecond a_draftParent a_stack a_kind a_from a_to a_number a_first a_second a_place a_picked a_lastGot a_oldest a_waiting a_slotLabel a_slotValue n' s' (nI j))
      (fun j s' => (∀ t, bt s t = true → bt s' t = true) ∧ (∀ t, bt s' t = true → t < pg_n g ∧ pg_re g w t) ∧ (∀ t, t < j → bt s t = true → pg_k g t ≠ 0 ∧ bt s' (pg_1 g t) = true ∧ bt s' (pg_2 g t) = true)) (pg_n g) s ?_ ?_ ?_
    · exact ⟨fun _ z => z, i1, fun t ht => by omega⟩
    · rintro n' s' ⟨j1, j2, j3⟩
      refine br_t (nI_le (by omega) (by omega)) (nm_r (nI_1 i) (hk s' ⟨j2, j1 w i2, ?_⟩))
      by_cases c : pr_cn (bt s') (pg_n g) ≤ pr_cn (bt s) (pg_n g)
      · refine Or.inr ?_
        have he := pr_cn_eq (pg_n g) (fun t _ => j1 t) c
        rintro ⟨b, hb, kb⟩
        have hC := pg_re_cl (C := fun x => bt s x = true) (by
          intro x hx
          have hn := (i1 x hx).1
          obtain ⟨a1, a2, a3⟩ := j3 x hn hx
          exact ⟨he _ (pg_1lt ok hn) a2, he _ (pg_2lt ok hn) a3⟩) hb i2
        exact (j3 b (i1 b hC).1 hC).1 kb
      · rcases i3 with i3 | i3
        · exact Or.inl (by omega)
        · exact Or.inr i3
    · rintro n' j s' hj ⟨j1, j2, j3⟩ hk'
      obtain ⟨i20, ek, ef, et, el, e1, e2⟩ := xr_at ok P hj
      obtain ⟨b1, b2, b3, -⟩ := ok.2.2.1 j hj
      refine br_f (nI_ge hj (by omega)) ?_
      by_cases c : bt s' j = true
      · refine br_t ((pr_get (by omega)).mpr c) ⟨i20, ?_⟩
        rw [ek, e1, e2]
        refine pk_eq (pg_k g j) 0 (fun z => h1 ⟨j, (j2 j c).2, z⟩) (fun z => ⟨i20, i20, nm_e (nm_r (nI_1 j) (hk' _ ⟨?_, ?_, ?_⟩))⟩)
        · intro t ht
          rw [b_or, j1 t ht]
          rfl
        · intro t ht
          by_cases c32 : t < 32
          · rw [b_or, b_or, pr_sh1 (by omega) c32, pr_sh1 (by omega) c32] at ht
            by_cases ca : bt s' t = true
            · exact j2 t ca
            · by_cases cb : t = pg_1 g j
              · rw [cb]; exact ⟨b2, pg_re_1 (j2 j c).2⟩
              · by_cases cc : t = pg_2 g j
                · rw [cc]; exact ⟨b3, pg_re_2 (j2 j c).2⟩
                · simp [cb, cc] at ht
                  exact absurd ht ca
          · rw [b_big (by omega)] at ht
            exact absurd ht (by decide)
        · intro t ht hb
          by_cases ct : t = j
          · subst ct
            refine ⟨z, ?_, ?_⟩
            · rw [b_or, b_or, pr_sh1 (n := pg_1 g t) (by omega) (by omega)]
              simp
            · rw [b_or, b_or, pr_sh1 (n := pg_2 g t) (by omega) (by omega)]
              simp
          · obtain ⟨a1, a2, a3⟩ := j3 t (by omega) hb
            refine ⟨a1, ?_, ?_⟩
            · rw [b_or, a2]; rfl
            · rw [b_or, a3]; rfl
      · refine br_f (fun z => c ((pr_get (by omega)).mp z)) (nm_r (nI_1 j) (hk' _ ⟨j1, j2, ?_⟩))
        intro t ht hb
        by_cases ct : t = j
        · subst ct; exact absurd (j1 t hb) c
        · exact j3 t (by omega) hb
end
end PRM
