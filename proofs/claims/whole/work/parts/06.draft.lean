section PRF
/-! the draft: kinds, senders, receivers, numbers, first, second, around -/
abbrev dd_T : Type := (Nat → Nat) × (Nat → Nat) × (Nat → Nat) × (Nat → Nat) × (Nat → Nat) × (Nat → Nat) × (Nat → Option Nat)
def dd_k (d : dd_T) : Nat → Nat := d.1
def dd_f (d : dd_T) : Nat → Nat := d.2.1
def dd_t (d : dd_T) : Nat → Nat := d.2.2.1
def dd_n (d : dd_T) : Nat → Nat := d.2.2.2.1
def dd_1 (d : dd_T) : Nat → Nat := d.2.2.2.2.1
def dd_2 (d : dd_T) : Nat → Nat := d.2.2.2.2.2.1
def dd_p (d : dd_T) : Nat → Option Nat := d.2.2.2.2.2.2
/-- one term of the draft -/
def dd_at (d : dd_T) (m i : Nat) : Prop :=
  dd_k d i ≤ 4 ∧ (dd_k d i = 1 → dd_f d i < 3 ∧ dd_t d i < 3 ∧ dd_f d i ≠ dd_t d i) ∧ (dd_k d i = 2 → dd_f d i < 3) ∧ (1 ≤ dd_k d i → dd_k d i ≤ 3 → dd_1 d i < i ∧ dd_2 d i < i)
  ∧ (dd_k d i = 0 ∨ dd_k d i = 4 → dd_1 d i = i) ∧ (dd_k d i ≠ 2 → dd_2 d i = dd_1 d i)
  ∧ (∀ p, dd_p d i = some p → i < p ∧ p < m ∧ 1 ≤ dd_k d p ∧ dd_k d p ≤ 3 ∧ (dd_k d p = 3 → dd_1 d p = i))
def dd_ok (d : dd_T) (m e : Nat) (st : Nat → Nat) : Prop :=
  m ≤ 20 ∧ e ≤ m ∧ (0 < m → 0 < e) ∧ (0 < e → st (e - 1) + 1 = m) ∧ (∀ i, i < e → st i < m ∧ dd_p d (st i) = none) ∧ (∀ i j, i < j → j < e → st i ≠ st j) ∧ (∀ i, i < m → dd_at d m i)
def dd_a (st : Nat → Nat) (m e q : Nat) : Nat := if 0 < q then st (e - q) else m
def dd_b (st : Nat → Nat) (m e q : Nat) : Nat := if 1 < q then st (e - q + 1) else dd_a st m e q
def dd_put (d : dd_T) (m k f t n a b : Nat) : dd_T :=
  (pr_fu (dd_k d) m k, pr_fu (dd_f d) m f, pr_fu (dd_t d) m t, pr_fu (dd_n d) m n, pr_fu (dd_1 d) m a, pr_fu (dd_2 d) m b, pr_fu (pr_fu (pr_fu (dd_p d) a (some m)) b (some m)) m none)
def dd_kq (k f t q : Nat) : Prop := k ≤ 4 ∧ (q = 0 → k = 0 ∨ k = 4) ∧ (q = 1 → k = 1 ∨ k = 3) ∧ (q = 2 → k = 2) ∧ q ≤ 2 ∧ (k = 1 → f < 3 ∧ t < 3 ∧ f ≠ t) ∧ (k = 2 → f < 3)
theorem dd_push {d : dd_T} {m e : Nat} {st : Nat → Nat} (ok : dd_ok d m e st) (hm : m < 20) {q k f t n : Nat} (hq : q ≤ e) (hk : dd_kq k f t q) :
    dd_ok (dd_put d m k f t n (dd_a st m e q) (dd_b st m e q)) (m + 1) (e - q + 1) (pr_fu st (e - q) m) := by
  obtain ⟨o1, o2, o3, o4, o5, o6, o7⟩ := ok
  obtain ⟨k1, k2, k3, k4, k5, k6, k7⟩ := hk
  have ha : dd_a st m e q ≤ m ∧ (0 < q → dd_a st m e q < m ∧ dd_p d (dd_a st m e q) = none) ∧ (q = 0 → dd_a st m e q = m) ∧ (0 < q → dd_a st m e q = st (e - q)) := by
    unfold dd_a
    by_cases c : 0 < q
    · rw [if_pos c]
      have := o5 (e - q) (by omega)
      exact ⟨by omega, fun _ => this, by omega, fun _ => rfl⟩
    · rw [if_neg c]
      exact ⟨by omega, by omega, fun _ => rfl, by omega⟩
  have hb : dd_b st m e q ≤ m ∧ (0 < q → dd_b st m e q < m ∧ dd_p d (dd_b st m e q) = none) ∧ (q = 0 → dd_b st m e q = m) ∧ (q ≠ 2 → dd_b st m e q = dd_a st m e q) ∧ (q = 2 → dd_b st m e q = st (e - q + 1)) := by
    unfold dd_b
    by_cases c : 1 < q
    · rw [if_pos c]
      have := o5 (e - q + 1) (by omega)
      exact ⟨by omega, fun _ => this, by omega, by omega, fun _ => rfl⟩
    · rw [if_neg c]
      exact ⟨ha.1, ha.2.1, ha.2.2.1, fun _ => rfl, by omega⟩
  generalize ea : dd_a st m e q = a at ha hb ⊢
  generalize eb : dd_b st m e q = b at hb ⊢
  have hp : ∀ i, i < m → dd_p (dd_put d m k f t n a b) i = if i = a ∨ i = b then some m else dd_p d i := by
    intro i hi
    show pr_fu (pr_fu (pr_fu (dd_p d) a (some m)) b (some m)) m none i = _
    rw [pr_fun _ _ (by omega)]
    by_cases c : i = b
    · rw [c, pr_fus, if_pos (Or.inr rfl)]
    · rw [pr_fun _ _ c]
      by_cases c2 : i = a
      · rw [c2, pr_fus, if_pos (Or.inl rfl)]
      · rw [pr_fun _ _ c2, if_neg (by omega)]
  have hpm : dd_p (dd_put d m k f t n a b) m = none := pr_fus _ _ _
  have hkm : dd_k (dd_put d m k f t n a b) m = k := pr_fus _ _ _
  have hki : ∀ i, i < m → dd_k (dd_put d m k f t n a b) i = dd_k d i := fun i hi => pr_fun _ _ (by omega)
  have h1m : dd_1 (dd_put d m k f t n a b) m = a := pr_fus _ _ _
  have h1i : ∀ i, i < m → dd_1 (dd_put d m k f t n a b) i = dd_1 d i := fun i hi => pr_fun _ _ (by omega)
  have h2m : dd_2 (dd_put d m k f t n a b) m = b := pr_fus _ _ _
  have h2i : ∀ i, i < m → dd_2 (dd_put d m k f t n a b) i = dd_2 d i := fun i hi => pr_fun _ _ (by omega)
  have hfm : dd_f (dd_put d m k f t n a b) m = f := pr_fus _ _ _
  have hfi : ∀ i, i < m → dd_f (dd_put d m k f t n a b) i = dd_f d i := fun i hi => pr_fun _ _ (by omega)
  have htm : dd_t (dd_put d m k f t n a b) m = t := pr_fus _ _ _
  have hti : ∀ i, i < m → dd_t (dd_put d m k f t n a b) i = dd_t d i := fun i hi => pr_fun _ _ (by omega)
  refine ⟨by omega, by omega, by omega, ?_, ?_, ?_, ?_⟩
  · intro _
    rw [show e - q + 1 - 1 = e - q from by omega, pr_fus]
  · intro i hi
    by_cases c : i = e - q
    · rw [c, pr_fus]
      exact ⟨by omega, hpm⟩
    · rw [pr_fun _ _ c]
      obtain ⟨s1, s2⟩ := o5 i (by omega)
      refine ⟨by omega, ?_⟩
      rw [hp _ s1, if_neg, s2]
      intro z
      by_cases q0 : q = 0
      · have := ha.2.2.1 q0; have := hb.2.2.1 q0; omega
      · have e1 := ha.2.2.2 (by omega)
        have n1 := o6 i (e - q) (by omega) (by omega)
        by_cases q2 : q = 2
        · have e2 := hb.2.2.2.2 q2
          have n2 := o6 i (e - q + 1) (by omega) (by omega)
          omega
        · have e2 := hb.2.2.2.1 q2
          omega
  · intro i j hij hj
    by_cases c : j = e - q
    · rw [c, pr_fus, pr_fun _ _ (by omega)]
      have := (o5 i (by omega)).1
      omega
    · rw [pr_fun _ _ c, pr_fun _ _ (by omega)]
      exact o6 i j hij (by omega)
  · intro i hi
    unfold dd_at
    by_cases c : i = m
    · subst c
      rw [hkm, h1m, h2m, hfm, htm, hpm]
      refine ⟨k1, k6, k7, ?_, ?_, ?_, ?_⟩
      · intro z1 z2
        have : 0 < q := by
          by_cases q0 : q = 0
          · have := k2 q0; omega
          · omega
        exact ⟨(ha.2.1 this).1, (hb.2.1 this).1⟩
      · intro z
        have : q = 0 := by
          by_cases q1 : q = 1
          · have := k3 q1; omega
          · by_cases q2 : q = 2
            · have := k4 q2; omega
            · omega
        exact ha.2.2.1 this
      · intro z
        exact hb.2.2.2.1 (fun q2 => z (k4 q2))
      · intro p z
        exact absurd z (by simp)
    · have hi2 : i < m := by omega
      rw [hki i hi2, h1i i hi2, h2i i hi2, hfi i hi2, hti i hi2, hp i hi2]
      obtain ⟨t1, t2, t3, t4, t5, t6, t7⟩ := o7 i hi2
      refine ⟨t1, t2, t3, t4, t5, t6, ?_⟩
      intro p z
      by_cases c2 : i = a ∨ i = b
      · rw [if_pos c2] at z
        have : m = p := by simpa using z
        subst this
        rw [hkm, h1m]
        have q0 : q ≠ 0 := fun q0 => by
          have := ha.2.2.1 q0; have := hb.2.2.1 q0; omega
        have kk : 1 ≤ k ∧ k ≤ 3 := by
          by_cases q1 : q = 1
          · have := k3 q1; omega
          · have := k4 (by omega); omega
        refine ⟨by omega, by omega, kk.1, kk.2, ?_⟩
        intro k33
        have q2 : q ≠ 2 := fun q2 => by have := k4 q2; omega
        have := hb.2.2.2.1 q2
        omega
      · rw [if_neg c2] at z
        obtain ⟨s1, s2, s3, s4, s5⟩ := t7 p z
        rw [hki p s2, h1i p s2]
        exact ⟨s1, by omega, s3, s4, s5⟩
/-- up from o to the nearest loop with number tt; the flag: an action was passed -/
def dd_up (k x : Nat → Nat) (p : Nat → Option Nat) (tt : Nat) : Nat → Option Nat → Bool → Option (Nat × Bool)
  | 0, _, _ => none
  | _ + 1, none, _ => none
  | m + 1, some t, b => if k t = 3 ∧ x t = tt then some (t, b) else dd_up k x p tt m (p t) (b || decide (k t < 3))
/-- parents lie above -/
def dd_in (k : Nat → Nat) (p : Nat → Option Nat) (m : Nat) : Prop := ∀ i, i < m → ∀ t, p i = some t → i < t ∧ t < m ∧ 1 ≤ k t ∧ k t ≤ 3
theorem dd_up_m {k x : Nat → Nat} {p : Nat → Option Nat} {tt m : Nat} (hi : dd_in k p m) : ∀ (n1 n2 : Nat) (o : Option Nat) (b : Bool), (∀ t, o = some t → t < m ∧ m - t ≤ n1 ∧ m - t ≤ n2) → dd_up k x p tt n1 o b = dd_up k x p tt n2 o b := by
  intro n1
  induction n1 with
  | zero =>
    intro n2 o b h
    cases o with
    | none => cases n2 <;> rfl
    | some t => have := h t rfl; omega
  | succ n1 ih =>
    intro n2 o b h
    cases o with
    | none => cases n2 <;> rfl
    | some t =>
      have ht := h t rfl
      cases n2 with
      | zero => omega
      | succ n2 =>
        show (if k t = 3 ∧ x t = tt then some (t, b) else dd_up k x p tt n1 (p t) (b || decide (k t < 3))) = (if k t = 3 ∧ x t = tt then some (t, b) else dd_up k x p tt n2 (p t) (b || decide (k t < 3)))
        split
        · rfl
        · apply ih
          intro s hs
          have := hi t ht.1 s hs
          omega
/-- what is found is a loop with that number -/
theorem dd_up_l {k x : Nat → Nat} {p : Nat → Option Nat} {tt m : Nat} (hi : dd_in k p m) : ∀ (n : Nat) (o : Option Nat) (b : Bool) (l : Nat) (c : Bool), (∀ t, o = some t → t < m) → dd_up k x p tt n o b = some (l, c) → l < m ∧ k l = 3 := by
  intro n
  induction n with
  | zero => intro o b l c _ h; exact absurd h (by simp [dd_up])
  | succ n ih =>
    intro o b l c ho h
    cases o with
    | none => exact absurd h (by simp [dd_up])
    | some t =>
      have h' : (if k t = 3 ∧ x t = tt then some (t, b) else dd_up k x p tt n (p t) (b || decide (k t < 3))) = some (l, c) := h
      split at h'
      · rename_i hc
        have : t = l ∧ b = c := by simpa using h'
        rw [← this.1]
        exact ⟨ho t rfl, hc.1⟩
      · exact ih _ _ _ _ (fun s hs => (hi t (ho t rfl) s hs).2.1) h'
theorem pr_sg_mo {kd f : Nat → Nat} {t a b : Nat} (h : kd (pr_sg kd f a t) ≤ 2) (hab : a ≤ b) : pr_sg kd f b t = pr_sg kd f a t := by
  induction b with
  | zero => rw [show a = 0 from by omega]
  | succ b ih =>
    by_cases e : a = b + 1
    · rw [e]
    · have i := ih (by omega)
      rw [pr_sg_m b t (by rw [i]; exact h), i]
/-- below c: loops down to an action -/
def dd_Q (kd f : Nat → Nat) (c : Nat) : Prop := 1 ≤ kd (pr_sg kd f (c + 1) c) ∧ kd (pr_sg kd f (c + 1) c) ≤ 2
theorem dd_Q_a {kd f : Nat → Nat} {c : Nat} (h : 1 ≤ kd c) (h2 : kd c ≤ 2) : dd_Q kd f c := by
  unfold dd_Q
  rw [pr_sg_s h2]
  exact ⟨h, h2⟩
theorem dd_Q_l {kd f : Nat → Nat} {c l : Nat} (h : dd_Q kd f c) (hl : kd l = 3) (hf : f l = c) (hlt : c < l) : dd_Q kd f l := by
  have e : pr_sg kd f (l + 1) l = pr_sg kd f (c + 1) c := by
    have : pr_sg kd f (l + 1) l = pr_sg kd f l (f l) := if_neg (by omega)
    rw [this, hf]
    exact pr_sg_mo h.2 (by omega)
  unfold dd_Q
  rw [e]
  exact h
theorem dd_up_Q {k x f : Nat → Nat} {p : Nat → Option Nat} {tt m : Nat} (hi : dd_in k p m) (h3 : ∀ c t, c < m → p c = some t → k t = 3 → f t = c) : ∀ (n c : Nat) (b : Bool) (l : Nat), c < m → (b = true → dd_Q k f c) → dd_up k x p tt n (p c) b = some (l, true) → dd_Q k f l := by
  intro n
  induction n with
  | zero => intro c b l _ _ h; exact absurd h (by simp [dd_up])
  | succ n ih =>
    intro c b l hc hb h
    cases ho : p c with
    | none => rw [ho] at h; exact absurd h (by simp [dd_up])
    | some t =>
      rw [ho] at h
      obtain ⟨i1, i2, i3, i4⟩ := hi c hc t ho
      have h' : (if k t = 3 ∧ x t = tt then some (t, b) else dd_up k x p tt n (p t) (b || decide (k t < 3))) = some (l, true) := h
      split at h'
      · rename_i hk
        have : t = l ∧ b = true := by simpa using h'
        rw [← this.1]
        exact dd_Q_l (hb this.2) hk.1 (h3 c t hc ho hk.1) i1
      · refine ih t _ l i2 ?_ h'
        intro hb'
        by_cases k3 : k t = 3
        · have : b = true := by simpa [k3] using hb'
          exact dd_Q_l (hb this) k3 (h3 c t hc ho k3) i1
        · exact dd_Q_a (by omega) (by omega)
/-- every term settles -/
theorem dd_settle {kd f : Nat → Nat} {m : Nat} (hm : m ≤ 20) (h4 : ∀ i, i < m → kd i ≤ 4) (hl : ∀ i, i < m → kd i = 3 → f i < i) (ha : ∀ i, i < m → kd i = 4 → f i < m ∧ dd_Q kd f (f i)) : ∀ i, i < m → kd (pr_sg kd f 42 i) ≤ 2 := by
  have key : ∀ i, i < m → ∃ u, u ≤ i + 22 ∧ kd (pr_sg kd f u i) ≤ 2 := by
    intro i
    induction i using Nat.strongRecOn with
    | ind i ih =>
      intro hi
      by_cases c : kd i ≤ 2
      · exact ⟨0, by omega, c⟩
      · have e : ∀ u, pr_sg kd f (u + 1) i = pr_sg kd f u (f i) := fun u => if_neg c
        by_cases c3 : kd i = 3
        · have hf := hl i hi c3
          obtain ⟨u, hu, h⟩ := ih (f i) hf (by omega)
          exact ⟨u + 1, by omega, by rw [e]; exact h⟩
        · have := h4 i hi
          obtain ⟨hf, hQ⟩ := ha i hi (by omega)
          exact ⟨f i + 1 + 1, by omega, by rw [e]; exact hQ.2⟩
  intro i hi
  obtain ⟨u, hu, h⟩ := key i hi
  rw [pr_sg_mo h (by omega)]
  exact h
/-- the graph that a draft becomes: l i is the loop of the again i -/
def dd_gr (d : dd_T) (m : Nat) (l : Nat → Nat) : pg_T :=
  (m, dd_k d, dd_f d, dd_t d, (fun i => if dd_k d i = 4 then l i else dd_1 d i), (fun i => if dd_k d i = 4 then l i else dd_2 d i), (fun i => nI (dd_n d i)))
theorem dd_dd_in {d : dd_T} {m e : Nat} {st : Nat → Nat} (ok : dd_ok d m e st) : dd_in (dd_k d) (dd_p d) m := by
  intro i hi t ht
  obtain ⟨s1, s2, s3, s4, s5⟩ := (ok.2.2.2.2.2.2 i hi).2.2.2.2.2.2 t ht
  exact ⟨s1, s2, s3, s4⟩
theorem dd_gok {d : dd_T} {m e : Nat} {st : Nat → Nat} (ok : dd_ok d m e st) (hm : 0 < m) {l : Nat → Nat} (hl : ∀ i, i < m → dd_k d i = 4 → dd_up (dd_k d) (dd_n d) (dd_p d) (dd_n d i) 20 (dd_p d i) false = some (l i, true)) : pg_ok (dd_gr d m l) := by
  have hin := dd_dd_in ok
  obtain ⟨o1, o2, o3, o4, o5, o6, o7⟩ := ok
  have f1 : ∀ i, pg_1 (dd_gr d m l) i = if dd_k d i = 4 then l i else dd_1 d i := fun _ => rfl
  have f2 : ∀ i, pg_2 (dd_gr d m l) i = if dd_k d i = 4 then l i else dd_2 d i := fun _ => rfl
  have kk : ∀ i, pg_k (dd_gr d m l) i = dd_k d i := fun _ => rfl
  have hll : ∀ i, i < m → dd_k d i = 4 → l i < m ∧ dd_k d (l i) = 3 := by
    intro i hi h4
    exact dd_up_l hin _ _ _ _ _ (fun t ht => (hin i hi t ht).2.1) (hl i hi h4)
  have h1 : ∀ i, i < m → pg_1 (dd_gr d m l) i < m := by
    intro i hi
    rw [f1]
    split
    · exact (hll i hi (by assumption)).1
    · obtain ⟨t1, t2, t3, t4, t5, t6, t7⟩ := o7 i hi
      by_cases c : dd_k d i = 0
      · rw [t5 (Or.inl c)]; exact hi
      · have := t4 (by omega) (by omega)
        omega
  have h2 : ∀ i, i < m → pg_2 (dd_gr d m l) i < m := by
    intro i hi
    rw [f2]
    split
    · exact (hll i hi (by assumption)).1
    · obtain ⟨t1, t2, t3, t4, t5, t6, t7⟩ := o7 i hi
      by_cases c : dd_k d i = 0
      · rw [t6 (by omega), t5 (Or.inl c)]; exact hi
      · have := t4 (by omega) (by omega)
        omega
  refine ⟨hm, o1, ?_, ?_⟩
  · intro i hi
    obtain ⟨t1, t2, t3, t4, t5, t6, t7⟩ := o7 i hi
    refine ⟨t1, h1 i hi, h2 i hi, t2, t3, ?_, ?_, ?_⟩
    · intro z
      rw [f1, if_neg (by rw [kk] at z; omega)]
      exact t5 (Or.inl z)
    · intro z
      rw [f1, f2]
      split
      · rfl
      · exact t6 z
    · refine dd_settle (m := m) o1 (fun j hj => (o7 j hj).1) ?_ ?_ i hi
      · intro j hj k3
        rw [f1, if_neg (by omega)]
        exact ((o7 j hj).2.2.2.1 (by omega) (by omega)).1
      · intro j hj k4
        rw [f1, if_pos k4]
        refine ⟨(hll j hj k4).1, ?_⟩
        refine dd_up_Q (x := dd_n d) (tt := dd_n d j) hin ?_ 20 j false (l j) hj (fun z => absurd z (by decide)) (hl j hj k4)
        intro c t hc ht k3
        rw [f1, if_neg (by omega)]
        exact ((o7 c hc).2.2.2.2.2.2 t ht).2.2.2.2 k3
  · obtain ⟨t1, t2, t3, t4, t5, t6, t7⟩ := o7 0 hm
    rw [kk]
    by_cases c : dd_k d 0 = 0
    · exact Or.inl c
    · by_cases c4 : dd_k d 0 = 4
      · exact Or.inr c4
      · have := t4 (by omega) (by omega)
        omega
end PRF
