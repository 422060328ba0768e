section PRE
/-! the run: rows R, the path's end at a, the walk went on at w after the last pick; each role's place and pick -/
def pr_run (g : pg_T) (R : List ro_T) (a w : Nat) (pl : Nat → Nat) (pk : Nat → Option Nat) : Prop :=
  a < pg_n g ∧ pg_k g a ≤ 2 ∧ w < pg_n g ∧ pg_dr g w a ∧ ro_O R ∧ ro_A R ∧ (∀ r, r < 3 → pl r < pg_n g ∧ pr_pth g r a ((R.filter (ro_u r)).map ro_t) (pl r) (pk r)) ∧ (∀ p q, (R.filter (ro_w p q)).length ≤ 4)
def pr_fu {α : Type} (f : Nat → α) (r : Nat) (y : α) : Nat → α := fun j => if j = r then y else f j
theorem pr_fus {α : Type} (f : Nat → α) (r : Nat) (y : α) : pr_fu f r y r = y := if_pos rfl
theorem pr_fun {α : Type} (f : Nat → α) {r j : Nat} (y : α) (h : j ≠ r) : pr_fu f r y j = f j := if_neg h
theorem pr_run_go {g : pg_T} {R : List ro_T} {a w : Nat} {pl : Nat → Nat} {pk : Nat → Option Nat} (ok : pg_ok g) (h : pr_run g R a w pl pk) (ka : pg_k g a = 1) (v : Int32) :
    pr_run g (R ++ [(pg_f g a, pg_t g a, pg_l g a, v, false, false)]) (pg_w g a) w pl pk := by
  obtain ⟨h1, h2, h3, h4, h5, h6, h7, h8⟩ := h
  have hnew : ∀ e, e ∈ [((pg_f g a, pg_t g a, pg_l g a, v, false, false) : ro_T)] → ro_new e := by
    intro e he
    rw [List.mem_singleton] at he
    subst he
    exact ⟨rfl, rfl⟩
  refine ⟨pg_wlt ok h1, pg_w2 ok h1, h3, pg_dr_m h4 ka, ro_app_O h5 hnew, ro_app_A h6 ?_, ?_, ?_⟩
  · intro e he
    rw [List.mem_singleton] at he
    subst he
    have := (ok.2.2.1 a h1).2.2.2.1 ka
    exact ⟨this.1, this.2.1, this.2.2, fun z => z⟩
  · intro r hr
    obtain ⟨p1, p2⟩ := h7 r hr
    refine ⟨p1, ?_⟩
    have := pr_pth_msg ka p2
    rw [List.filter_append, List.map_append]
    have e : ([((pg_f g a, pg_t g a, pg_l g a, v, false, false) : ro_T)].filter (ro_u r)).map ro_t = (if pg_f g a = r ∨ pg_t g a = r then [(pg_f g a, pg_t g a, pg_l g a)] else []) := by
      have hu : ro_u r (pg_f g a, pg_t g a, pg_l g a, v, false, false) = (pg_f g a == r || pg_t g a == r) := ro_new_u ⟨rfl, rfl⟩ r
      by_cases c : pg_f g a = r ∨ pg_t g a = r
      · rw [if_pos c, List.filter_cons_of_pos (by rw [hu]; simpa using c)]
        rfl
      · rw [if_neg c, List.filter_cons_of_neg (by rw [hu]; simpa using c)]
        rfl
    rw [e]
    exact this
  · intro p q
    rw [ro_app_w hnew]
    exact h8 p q
theorem pr_run_fg {g : pg_T} {R : List ro_T} {a w : Nat} {pl : Nat → Nat} {pk : Nat → Option Nat} (h : pr_run g R a w pl pk) : pr_run g (R.filter ro_k) a w pl pk := by
  obtain ⟨h1, h2, h3, h4, h5, h6, h7, h8⟩ := h
  refine ⟨h1, h2, h3, h4, ro_fO h5, ro_fA h6, ?_, ?_⟩
  · intro r hr
    rw [ro_fu]
    exact h7 r hr
  · intro p q
    rw [ro_fw]
    exact h8 p q
theorem ro_mid {P : ro_T → Bool} {A C : List ro_T} {x y : ro_T} (hx : P x = false) (hy : P y = false) : (A ++ y :: C).filter P = (A ++ x :: C).filter P := by
  rw [List.filter_append, List.filter_append, List.filter_cons_of_neg (by simp [hy]), List.filter_cons_of_neg (by simp [hx])]
theorem ro_snd_w {r : Nat} {A C : List ro_T} {x : ro_T} {v : Int32} (o : ro_O (A ++ x :: C)) (k : ro_A (A ++ x :: C)) (hr : r < 3) (hp : ro_p x = r) (hu : ro_u r x = true) :
    (A ++ ro_snd x v :: C).filter (ro_w r (ro_q x)) = (A ++ x :: C).filter (ro_w r (ro_q x)) ++ [ro_snd x v] := by
  have kx := k x (by simp)
  obtain ⟨hs, hd⟩ := ro_snd0 kx hp hu
  have hC : C.filter (ro_w r (ro_q x)) = [] := by
    apply ro_fil0
    intro c hc
    cases hw : ro_w r (ro_q x) c
    · rfl
    · exfalso
      unfold ro_w at hw
      simp only [Bool.and_eq_true, beq_iff_eq, Bool.not_eq_true'] at hw
      obtain ⟨⟨⟨w1, w2⟩, w3⟩, w4⟩ := hw
      have hp2 := (List.pairwise_cons.mp (List.pairwise_append.mp (o r hr)).2.1).1 c hc hu (by unfold ro_c; simp [w1])
      have := ro_snd0 (k c (by simp [hc])) w1 hp2
      rw [w3] at this
      exact absurd this.1 (by decide)
  have h1 : ro_w r (ro_q x) x = false := by unfold ro_w; simp [hs]
  have h2 : ro_w r (ro_q x) (ro_snd x v) = true := by
    show (ro_p x == r && ro_q x == ro_q x && true && !ro_d x) = true
    simp [hp, hd]
  rw [List.filter_append, List.filter_append, List.filter_cons_of_pos h2, List.filter_cons_of_neg (by simp [h1]), hC, List.append_nil]
theorem ro_snd_wo {r p q : Nat} {A C : List ro_T} {x : ro_T} {v : Int32} (kx : ro_ok x) (hp : ro_p x = r) (hu : ro_u r x = true) (hne : ¬ (p = r ∧ q = ro_q x)) :
    (A ++ ro_snd x v :: C).filter (ro_w p q) = (A ++ x :: C).filter (ro_w p q) := by
  obtain ⟨hs, hd⟩ := ro_snd0 kx hp hu
  apply ro_mid
  · unfold ro_w; simp [hs]
  · show (ro_p x == p && ro_q x == q && true && !ro_d x) = false
    by_cases e1 : ro_p x = p
    · have : ro_q x ≠ q := fun e2 => hne ⟨by omega, e2.symm⟩
      simp [this]
    · simp [e1]
theorem pr_les_ok {p : Nat} (h : p < 3) : pr_les p < 3 ∧ p ≠ pr_les p := by
  have : p = 0 ∨ p = 1 ∨ p = 2 := by omega
  rcases this with e | e | e <;> subst e <;> decide
theorem pr_gre_ok {p : Nat} (h : p < 3) : pr_gre p < 3 ∧ p ≠ pr_gre p := by
  have : p = 0 ∨ p = 1 ∨ p = 2 := by omega
  rcases this with e | e | e <;> subst e <;> decide
theorem pr_run_pick {g : pg_T} {R : List ro_T} {a w c p : Nat} {pl : Nat → Nat} {pk : Nat → Option Nat} (ok : pg_ok g) (h : pr_run g R a w pl pk) (ka : pg_k g a = 2) (ep : pg_f g a = p) (hc : c < 2) (hR : ∀ x, x ∈ R → ro_u p x = false) (hcap : (R.filter (ro_w p (pr_les p))).length < 4) (v v0 v2 : Int32) :
    pr_run g (R ++ ro_snd (p, pr_les p, nI c, v0, false, false) v :: [(p, pr_gre p, nI c, v2, false, false)]) (pg_s g (pg_b g a c)) (pg_b g a c) pl (pr_fu pk p (some c)) := by
  obtain ⟨h1, h2, h3, h4, h5, h6, h7, h8⟩ := h
  have hf : p < 3 := by rw [← ep]; exact (ok.2.2.1 a h1).2.2.2.2.1 ka
  have hpp : p = 0 ∨ p = 1 ∨ p = 2 := by omega
  have hnew : ∀ e, e ∈ [((p, pr_les p, nI c, v0, false, false) : ro_T), (p, pr_gre p, nI c, v2, false, false)] → ro_new e := by
    intro e he
    rw [List.mem_cons, List.mem_singleton] at he
    rcases he with he | he <;> subst he <;> exact ⟨rfl, rfl⟩
  have hoe : ∀ e, e ∈ [((p, pr_les p, nI c, v0, false, false) : ro_T), (p, pr_gre p, nI c, v2, false, false)] → ro_ok e := by
    intro e he
    rw [List.mem_cons, List.mem_singleton] at he
    rcases he with he | he <;> subst he
    · exact ⟨hf, (pr_les_ok hf).1, (pr_les_ok hf).2, fun z => z⟩
    · exact ⟨hf, (pr_gre_ok hf).1, (pr_gre_ok hf).2, fun z => z⟩
  have kx : ro_ok (p, pr_les p, nI c, v0, false, false) := hoe _ (by simp)
  have hu : ro_u p (p, pr_les p, nI c, v0, false, false) = true := by rw [ro_new_u ⟨rfl, rfl⟩]; simp [ro_c, ro_p]
  have o1 : ro_O (R ++ (p, pr_les p, nI c, v0, false, false) :: [(p, pr_gre p, nI c, v2, false, false)]) := ro_app_O h5 hnew
  have a1 : ro_A (R ++ (p, pr_les p, nI c, v0, false, false) :: [(p, pr_gre p, nI c, v2, false, false)]) := ro_app_A h6 hoe
  refine ⟨pg_slt ok (pg_blt ok h1 c), pg_s2 ok (pg_blt ok h1 c), pg_blt ok h1 c, pg_dr_s g _, ro_O_set o1 hR (ro_snd1 kx rfl) (ro_snd2 rfl) (fun _ => rfl), ro_A_set a1 ⟨kx.1, kx.2.1, kx.2.2.1, fun _ => rfl⟩, ?_, ?_⟩
  · intro r hr
    obtain ⟨p1, p2⟩ := h7 r hr
    refine ⟨p1, ?_⟩
    by_cases e : r = p
    · subst e
      rw [pr_fus, ro_own' hR (ro_snd1 kx rfl)]
      rw [ro_fil0 hR] at p2
      have := pr_pth_own ka ep hc p2.2
      rw [List.filter_cons_of_pos (by rw [ro_new_u ⟨rfl, rfl⟩]; simp [ro_c, ro_p])]
      exact this
    · rw [pr_fun _ _ e, ro_oth (x := (p, pr_les p, nI c, v0, false, false)) (ro_snd2 (r := p) rfl r e) rfl, List.filter_append, List.map_append]
      have := pr_pth_oth ka (by omega) hc p2
      rw [ep] at this
      have e2 : ([((p, pr_les p, nI c, v0, false, false) : ro_T), (p, pr_gre p, nI c, v2, false, false)].filter (ro_u r)).map ro_t = [(p, r, nI c)] := by
        have i2 : r = 0 ∨ r = 1 ∨ r = 2 := by omega
        rcases hpp with z | z | z <;> rcases i2 with y | y | y <;> subst z <;> subst y <;> first | exact absurd rfl e | rfl
      rw [e2]
      exact this
  · intro x y
    by_cases e : x = p ∧ y = pr_les p
    · obtain ⟨rfl, rfl⟩ := e
      have := ro_snd_w (v := v) o1 a1 hf rfl hu
      have this : (R ++ ro_snd (x, pr_les x, nI c, v0, false, false) v :: [(x, pr_gre x, nI c, v2, false, false)]).filter (ro_w x (pr_les x)) = _ := this
      rw [this, ro_app_w hnew, List.length_append]
      show _ + 1 ≤ 4
      exact hcap
    · rw [ro_snd_wo kx rfl hu e, ro_app_w hnew]
      exact h8 x y
theorem pr_run_snd {g : pg_T} {A C : List ro_T} {x : ro_T} {a w r t : Nat} {pl : Nat → Nat} {pk : Nat → Option Nat} {pk1 : Option Nat} (h : pr_run g (A ++ x :: C) a w pl pk) (hr : r < 3) (hA : ∀ y, y ∈ A → ro_u r y = false) (hu : ro_u r x = true) (hp : ro_p x = r)
    (hcap : ((A ++ x :: C).filter (ro_w r (ro_q x))).length < 4) (ht : t < pg_n g) (hpt : pr_pth g r a ((C.filter (ro_u r)).map ro_t) t pk1) (v : Int32) : pr_run g (A ++ ro_snd x v :: C) a w (pr_fu pl r t) (pr_fu pk r pk1) := by
  obtain ⟨h1, h2, h3, h4, h5, h6, h7, h8⟩ := h
  have kx := h6 x (by simp)
  refine ⟨h1, h2, h3, h4, ro_O_set h5 hA (ro_snd1 kx hp) (ro_snd2 hp) (fun _ => rfl), ro_A_set h6 ⟨kx.1, kx.2.1, kx.2.2.1, fun _ => rfl⟩, ?_, ?_⟩
  · intro z hz
    by_cases e : z = r
    · subst e
      rw [pr_fus, pr_fus, ro_own' hA (ro_snd1 kx hp)]
      exact ⟨ht, hpt⟩
    · rw [pr_fun _ _ e, pr_fun _ _ e, ro_oth (ro_snd2 hp z e) rfl]
      exact h7 z hz
  · intro p q
    by_cases e : p = r ∧ q = ro_q x
    · obtain ⟨rfl, rfl⟩ := e
      rw [ro_snd_w h5 h6 hr hp hu, List.length_append]
      show _ + 1 ≤ 4
      omega
    · rw [ro_snd_wo kx hp hu e]
      exact h8 p q
/-- the first one that r has not done, received by r: sent just if something is on that way -/
theorem ro_rcv_w {r : Nat} {A C : List ro_T} {x : ro_T} (o : ro_O (A ++ x :: C)) (k : ro_A (A ++ x :: C)) (hA : ∀ y, y ∈ A → ro_u r y = false) (hq : ro_q x = r) (hu : ro_u r x = true) :
    (ro_s x = true → (A ++ x :: C).filter (ro_w (ro_p x) r) = x :: (A ++ ro_rcv x :: C).filter (ro_w (ro_p x) r)) ∧ (ro_s x = false → (A ++ x :: C).filter (ro_w (ro_p x) r) = []) := by
  have kx := k x (by simp)
  have hd := ro_rcv0 kx hq hu
  have hA0 : A.filter (ro_w (ro_p x) r) = [] := by
    apply ro_fil0
    intro y hy
    have := hA y hy
    cases hw : ro_w (ro_p x) r y
    · rfl
    · unfold ro_w at hw
      simp only [Bool.and_eq_true, beq_iff_eq, Bool.not_eq_true'] at hw
      unfold ro_u at this
      simp [hw.1.1.2, hw.2] at this
  refine ⟨fun hs => ?_, fun hs => ?_⟩
  · have h1 : ro_w (ro_p x) r x = true := by unfold ro_w; simp [hs, hd, hq]
    have h2 : ro_w (ro_p x) r (ro_rcv x) = false := by
      show (ro_p x == ro_p x && ro_q x == r && ro_s x && !true) = false
      simp
    rw [List.filter_append, List.filter_append, hA0, List.filter_cons_of_pos h1, List.filter_cons_of_neg (by simp [h2])]
    rfl
  · have h1 : ro_w (ro_p x) r x = false := by unfold ro_w; simp [hs]
    rw [List.filter_append, hA0, List.filter_cons_of_neg (by simp [h1]), List.nil_append]
    apply ro_fil0
    intro c hc
    cases hw : ro_w (ro_p x) r c
    · rfl
    · exfalso
      unfold ro_w at hw
      simp only [Bool.and_eq_true, beq_iff_eq, Bool.not_eq_true'] at hw
      obtain ⟨⟨⟨w1, w2⟩, w3⟩, w4⟩ := hw
      have hup : ro_u (ro_p x) x = true := by unfold ro_u; simp [hs]
      have hp2 := (List.pairwise_cons.mp (List.pairwise_append.mp (o (ro_p x) kx.1)).2.1).1 c hc hup (by unfold ro_c; simp [w1])
      have := ro_snd0 (k c (by simp [hc])) w1 hp2
      rw [w3] at this
      exact absurd this.1 (by decide)
theorem ro_rcv_wo {r p q : Nat} {A C : List ro_T} {x : ro_T} (hq : ro_q x = r) (hne : ¬ (p = ro_p x ∧ q = r)) :
    (A ++ ro_rcv x :: C).filter (ro_w p q) = (A ++ x :: C).filter (ro_w p q) := by
  apply ro_mid
  · unfold ro_w
    by_cases e1 : ro_p x = p
    · have : ro_q x ≠ q := fun e2 => hne ⟨e1.symm, by omega⟩
      simp [this]
    · simp [e1]
  · show (ro_p x == p && ro_q x == q && ro_s x && !true) = false
    simp
theorem pr_run_rcv {g : pg_T} {A C : List ro_T} {x : ro_T} {a w r t : Nat} {pl : Nat → Nat} {pk : Nat → Option Nat} {pk1 : Option Nat} (h : pr_run g (A ++ x :: C) a w pl pk) (hr : r < 3) (hA : ∀ y, y ∈ A → ro_u r y = false) (hu : ro_u r x = true) (hq : ro_q x = r) (hs : ro_s x = true)
    (ht : t < pg_n g) (hpt : pr_pth g r a ((C.filter (ro_u r)).map ro_t) t pk1) : pr_run g (A ++ ro_rcv x :: C) a w (pr_fu pl r t) (pr_fu pk r pk1) := by
  obtain ⟨h1, h2, h3, h4, h5, h6, h7, h8⟩ := h
  have kx := h6 x (by simp)
  refine ⟨h1, h2, h3, h4, ro_O_set h5 hA (ro_rcv1 kx hq) (ro_rcv2 hq) (fun _ => rfl), ro_A_set h6 ⟨kx.1, kx.2.1, kx.2.2.1, fun _ => hs⟩, ?_, ?_⟩
  · intro z hz
    by_cases e : z = r
    · subst e
      rw [pr_fus, pr_fus, ro_own' hA (ro_rcv1 kx hq)]
      exact ⟨ht, hpt⟩
    · rw [pr_fun _ _ e, pr_fun _ _ e, ro_oth (ro_rcv2 hq z e) rfl]
      exact h7 z hz
  · intro p q
    by_cases e : p = ro_p x ∧ q = r
    · obtain ⟨rfl, rfl⟩ := e
      have e1 := (ro_rcv_w h5 h6 hA hq hu).1 hs
      have e2 := h8 (ro_p x) q
      rw [e1, List.length_cons] at e2
      omega
    · rw [ro_rcv_wo hq e]
      exact h8 p q
/-- nothing left for r: nothing is on its way to r -/
theorem ro_none_w {r p : Nat} {R : List ro_T} (h : ∀ x, x ∈ R → ro_u r x = false) : R.filter (ro_w p r) = [] := by
  apply ro_fil0
  intro y hy
  have := h y hy
  cases hw : ro_w p r y
  · rfl
  · unfold ro_w at hw
    simp only [Bool.and_eq_true, beq_iff_eq, Bool.not_eq_true'] at hw
    unfold ro_u at this
    simp [hw.1.1.2, hw.2] at this
end PRE
