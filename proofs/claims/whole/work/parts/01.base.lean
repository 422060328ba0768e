section PRA
/-! rows pasted from the kit, then numbers, steps, orbits -/
theorem pk_us {f : Nat → Int32} {k : Nat} {x : Int32} : upd f k x k = x := if_pos rfl
theorem pk_un {f : Nat → Int32} {k j : Nat} {x : Int32} (h : j ≠ k) : upd f k x j = f j := if_neg h
theorem pk_sub {a b : Nat} (h : b ≤ a) : nI a - nI b = nI (a - b) := by
  obtain ⟨c, rfl⟩ : ∃ c, a = c + b := ⟨a - b, by omega⟩
  rw [← nI_add, Int32.add_sub_cancel, Nat.add_sub_cancel]
theorem pk_m1 (n : Nat) : nI (n + 1) + (-1) = nI n := by
  rw [← nI_1, Int32.add_assoc, show (1 : Int32) + (-1) = 0 from rfl, Int32.add_zero]
theorem pk_mul (a b : Nat) : nI a * nI b = nI (a * b) := (Int32.ofNat_mul a b).symm
theorem pk_div {a d : Nat} (ha : a < 2 ^ 31) (h0 : 0 < d) (hd : d < 2 ^ 31) : nI a / nI d = nI (a / d) := by
  apply Int32.toInt_inj.mp
  rw [lg_idiv_nonneg (by rw [nI_toInt ha]; omega) (by rw [nI_toInt hd]; omega), nI_toInt ha, nI_toInt hd, nI_toInt (Nat.lt_of_le_of_lt (Nat.div_le_self a d) ha)]
  first | rfl | exact (Int.natCast_ediv _ _).symm
theorem pk_rem {a d : Nat} (ha : a < 2 ^ 31) (h0 : 0 < d) (hd : d < 2 ^ 31) : nI a - nI a / nI d * nI d = nI (a % d) := by
  rw [pk_div ha h0 hd, pk_mul, pk_sub (Nat.div_mul_le_self a d)]
  exact congrArg nI (by have := Nat.div_add_mod' a d; omega)
theorem pk_ix (x : Int32) {n : Nat} (hn : n < 2 ^ 31) : x < 0 ∨ nI n ≤ x ∨ ∃ j : Nat, j < n ∧ x = nI j := by
  by_cases h : x < 0
  · exact Or.inl h
  · obtain ⟨j, hj, rfl⟩ := nI_of h
    by_cases h2 : j < n
    · exact Or.inr (Or.inr ⟨j, h2, rfl⟩)
    · exact Or.inr (Or.inl (nI_le (by omega) hj))
theorem pk_le {x y : Int32} {A B : Prop} (a b : Nat) (f : a ≤ b → A) (g : b < a → B) (hx : x = nI a := by rfl) (hy : y = nI b := by rfl) (ha : a < 2 ^ 31 := by omega) (hb : b < 2 ^ 31 := by omega) : (x ≤ y → A) ∧ (¬ x ≤ y → B) := by
  subst hx hy
  rw [nI_leI ha hb]
  exact ⟨f, fun z => g (by omega)⟩
theorem pk_lt {x y : Int32} {A B : Prop} (a b : Nat) (f : a < b → A) (g : b ≤ a → B) (hx : x = nI a := by rfl) (hy : y = nI b := by rfl) (ha : a < 2 ^ 31 := by omega) (hb : b < 2 ^ 31 := by omega) : (x < y → A) ∧ (¬ x < y → B) := by
  subst hx hy
  rw [nI_ltI ha hb]
  exact ⟨f, fun z => g (by omega)⟩
theorem pk_eq {x y : Int32} {A B : Prop} (a b : Nat) (f : a = b → A) (g : a ≠ b → B) (hx : x = nI a := by rfl) (hy : y = nI b := by rfl) (ha : a < 2 ^ 31 := by omega) (hb : b < 2 ^ 31 := by omega) : (x = y → A) ∧ (¬ x = y → B) := by
  subst hx hy
  rw [nI_eq ha hb]
  exact ⟨f, g⟩
theorem pk_in {x : Int32} (n N : Nat) (h : n < N) (hx : x = nI n := by rfl) (hN : N < 2 ^ 31 := by omega) : vp_in x N := by
  subst hx
  exact vp_in_nI h hN
theorem pk_cl {x : Int32} (n : Nat) (hx : x = nI n := by rfl) (h : n < 2 ^ 31 := by omega) : x.toNatClampNeg = n := by
  subst hx
  exact nI_clamp h
theorem pk_loop {σ : Type} (W : Nat → Nat → σ → Prop) (I : Nat → σ → Prop) (e i0 : Nat) (s : σ) (hi : i0 ≤ e) (h0 : I i0 s) (hx : ∀ n s, I e s → W (n + 1) e s)
    (hs : ∀ n i s, i < e → I i s → (∀ s', I (i + 1) s' → W n (i + 1) s') → W (n + 1) i s) : ∃ n, W n i0 s :=
  ⟨e + 1, loop_i W I e hx hs (e + 1) i0 s hi (by omega) h0⟩
theorem pk_least (P : Nat → Prop) (h : ∃ k, P k) : ∃ k, P k ∧ ∀ j, j < k → ¬ P j := by
  obtain ⟨k, hk⟩ := h
  induction k using Nat.strongRecOn with
  | ind k ih =>
    by_cases e : ∃ j, j < k ∧ P j
    · obtain ⟨j, hj, pj⟩ := e
      exact ih j hj pj
    · exact ⟨k, hk, fun j hj pj => e ⟨j, hj, pj⟩⟩
theorem lp1 {A1 : Type} (W : Nat → A1 → Prop) (I : A1 → Prop) (μ : A1 → Nat) (hs : ∀ (n : Nat) (a1 : A1), I a1 → (∀ (b1 : A1), I b1 → μ b1 < μ a1 → W n b1) → W (n + 1) a1) (a1 : A1) (h : I a1) : ∃ n, W n a1 :=
  loop_m (σ := A1) (fun n s => W n s) (fun s => I s) (fun s => μ s) (fun n s hI hk => hs n s hI (fun b1 h9 hm => hk b1 h9 hm)) a1 h
theorem lp2 {A1 A2 : Type} (W : Nat → A1 → A2 → Prop) (I : A1 → A2 → Prop) (μ : A1 → A2 → Nat) (hs : ∀ (n : Nat) (a1 : A1) (a2 : A2), I a1 a2 → (∀ (b1 : A1) (b2 : A2), I b1 b2 → μ b1 b2 < μ a1 a2 → W n b1 b2) → W (n + 1) a1 a2) (a1 : A1) (a2 : A2) (h : I a1 a2) : ∃ n, W n a1 a2 :=
  loop_m (σ := A1 × A2) (fun n s => W n s.1 s.2) (fun s => I s.1 s.2) (fun s => μ s.1 s.2) (fun n s hI hk => hs n s.1 s.2 hI (fun b1 b2 h9 hm => hk (b1, b2) h9 hm)) (a1, a2) h
theorem lp3 {A1 A2 A3 : Type} (W : Nat → A1 → A2 → A3 → Prop) (I : A1 → A2 → A3 → Prop) (μ : A1 → A2 → A3 → Nat) (hs : ∀ (n : Nat) (a1 : A1) (a2 : A2) (a3 : A3), I a1 a2 a3 → (∀ (b1 : A1) (b2 : A2) (b3 : A3), I b1 b2 b3 → μ b1 b2 b3 < μ a1 a2 a3 → W n b1 b2 b3) → W (n + 1) a1 a2 a3) (a1 : A1) (a2 : A2) (a3 : A3) (h : I a1 a2 a3) : ∃ n, W n a1 a2 a3 :=
  loop_m (σ := A1 × A2 × A3) (fun n s => W n s.1 s.2.1 s.2.2) (fun s => I s.1 s.2.1 s.2.2) (fun s => μ s.1 s.2.1 s.2.2) (fun n s hI hk => hs n s.1 s.2.1 s.2.2 hI (fun b1 b2 b3 h9 hm => hk (b1, b2, b3) h9 hm)) (a1, a2, a3) h
/-- k steps of f -/
def pr_it (f : Nat → Nat) : Nat → Nat → Nat
  | 0, t => t
  | k + 1, t => pr_it f k (f t)
theorem pr_it_s (f : Nat → Nat) : ∀ k t, pr_it f (k + 1) t = f (pr_it f k t) := by
  intro k
  induction k with
  | zero => intro t; rfl
  | succ k ih => intro t; exact ih (f t)
theorem pr_it_add (f : Nat → Nat) (a b t : Nat) : pr_it f (a + b) t = pr_it f b (pr_it f a t) := by
  induction a generalizing t with
  | zero => rw [Nat.zero_add]; rfl
  | succ a ih => rw [Nat.succ_add]; exact ih (f t)
theorem pr_it_lt {f : Nat → Nat} {n : Nat} (hf : ∀ x, x < n → f x < n) : ∀ k t, t < n → pr_it f k t < n := by
  intro k
  induction k with
  | zero => intro t h; exact h
  | succ k ih => intro t h; exact ih _ (hf t h)
theorem pr_pig : ∀ (n : Nat) (f : Nat → Nat), (∀ i, i ≤ n → f i < n) → ∃ i j, i < j ∧ j ≤ n ∧ f i = f j := by
  intro n
  induction n with
  | zero => intro f h; exact absurd (h 0 (Nat.le_refl 0)) (Nat.not_lt_zero _)
  | succ n ih =>
    intro f h
    by_cases hm : ∃ i, i ≤ n ∧ f i = f (n + 1)
    · obtain ⟨i, hi, e⟩ := hm
      exact ⟨i, n + 1, by omega, by omega, e⟩
    · have hne : ∀ i, i ≤ n → f i ≠ f (n + 1) := fun i hi e => hm ⟨i, hi, e⟩
      have hl := h (n + 1) (by omega)
      obtain ⟨i, j, hij, hj, e⟩ := ih (fun i => if f i = n then f (n + 1) else f i) (by
        intro i hi
        have h1 := h i (by omega)
        have h2 := hne i hi
        show (if f i = n then f (n + 1) else f i) < n
        split <;> omega)
      have hi2 := hne i (by omega)
      have hj2 := hne j (by omega)
      refine ⟨i, j, hij, by omega, ?_⟩
      have e' : (if f i = n then f (n + 1) else f i) = (if f j = n then f (n + 1) else f j) := e
      split at e' <;> split at e' <;> omega
theorem pr_orb {g : Nat → Nat} {n : Nat} (hg : ∀ x, x < n → g x < n) {t : Nat} (ht : t < n) :
    ∃ j, 0 < j ∧ j ≤ n ∧ (∀ a b, a < b → b < j → pr_it g a t ≠ pr_it g b t) ∧ (∃ i, i < j ∧ pr_it g j t = pr_it g i t) ∧ ∀ k, ∃ i, i < j ∧ pr_it g k t = pr_it g i t := by
  obtain ⟨a, b, hab, hb, e⟩ := pr_pig n (fun i => pr_it g i t) (fun i _ => pr_it_lt hg i t ht)
  obtain ⟨j, ⟨i, hi, ej⟩, hmin⟩ := pk_least (fun j => ∃ i, i < j ∧ pr_it g j t = pr_it g i t) ⟨b, a, hab, e.symm⟩
  refine ⟨j, by omega, ?_, ?_, ⟨i, hi, ej⟩, ?_⟩
  · by_cases h : j ≤ n
    · exact h
    · exact absurd ⟨a, hab, e.symm⟩ (hmin b (by omega))
  · intro x y hxy hy exy
    exact hmin y hy ⟨x, hxy, exy.symm⟩
  · intro k
    induction k using Nat.strongRecOn with
    | ind k ih =>
      by_cases h : k < j
      · exact ⟨k, h, rfl⟩
      · obtain ⟨i2, h2, e2⟩ := ih (i + (k - j)) (by omega)
        refine ⟨i2, h2, ?_⟩
        rw [← e2, pr_it_add, ← ej, ← pr_it_add]
        congr 1
        omega
/-- from t by steps of f, over what isn't in C, to x -/
def pr_sk (C : Nat → Prop) (f : Nat → Nat) (t x : Nat) : Prop := ∃ k, pr_it f k t = x ∧ ∀ j, j < k → ¬ C (pr_it f j t)
theorem pr_sk_rf {C : Nat → Prop} {f : Nat → Nat} (t : Nat) : pr_sk C f t t := ⟨0, rfl, fun _ h => absurd h (Nat.not_lt_zero _)⟩
theorem pr_sk_st {C : Nat → Prop} {f : Nat → Nat} {t x : Nat} (h : ¬ C t) (hx : pr_sk C f (f t) x) : pr_sk C f t x := by
  obtain ⟨k, e, hk⟩ := hx
  refine ⟨k + 1, e, ?_⟩
  intro j hj
  cases j with
  | zero => exact h
  | succ j => exact hk j (by omega)
theorem pr_sk_tr {C : Nat → Prop} {f : Nat → Nat} {t x y : Nat} (h1 : pr_sk C f t x) (h2 : pr_sk C f x y) : pr_sk C f t y := by
  obtain ⟨k, e, hk⟩ := h1
  obtain ⟨m, e2, hm⟩ := h2
  refine ⟨k + m, by rw [pr_it_add, e, e2], ?_⟩
  intro j hj
  by_cases h : j < k
  · exact hk j h
  · have := hm (j - k) (by omega)
    rw [← e, ← pr_it_add, show k + (j - k) = j from by omega] at this
    exact this
theorem pr_sk_dt {C : Nat → Prop} {f : Nat → Nat} {t x y : Nat} (h1 : pr_sk C f t x) (c1 : C x) (h2 : pr_sk C f t y) (c2 : C y) : x = y := by
  obtain ⟨k, e, hk⟩ := h1
  obtain ⟨m, e2, hm⟩ := h2
  have a : ¬ m < k := fun h => hk m h (by rw [e2]; exact c2)
  have b : ¬ k < m := fun h => hm k h (by rw [e]; exact c1)
  have : k = m := by omega
  rw [← e, ← e2, this]
/-- the first one in C is met within n steps -/
theorem pr_sk_n {C : Nat → Prop} {f : Nat → Nat} {n t x : Nat} (hf : ∀ y, y < n → f y < n) (ht : t < n) (h : pr_sk C f t x) (c : C x) : ∃ k, k < n ∧ pr_it f k t = x ∧ ∀ j, j < k → ¬ C (pr_it f j t) := by
  obtain ⟨k, e, hk⟩ := h
  obtain ⟨j, h0, hj, -, -, hc⟩ := pr_orb hf ht
  obtain ⟨i, hi, ei⟩ := hc k
  refine ⟨k, ?_, e, hk⟩
  have : ¬ i < k := fun h => hk i h (by rw [← ei, e]; exact c)
  omega
theorem pr_nv_sk {C : Nat → Prop} {f : Nat → Nat} {t a : Nat} (h : pr_sk C f t a) (hn : ∀ j, ¬ C (pr_it f j a)) : ∀ j, ¬ C (pr_it f j t) := by
  obtain ⟨k, e, hk⟩ := h
  intro j
  by_cases hj : j < k
  · exact hk j hj
  · have := hn (j - k)
    rw [← e, ← pr_it_add, show k + (j - k) = j from by omega] at this
    exact this
/-- the settled term: steps of f over loops and agains -/
def pr_sg (kd f : Nat → Nat) : Nat → Nat → Nat
  | 0, t => t
  | m + 1, t => if kd t ≤ 2 then t else pr_sg kd f m (f t)
theorem pr_sg_s {kd f : Nat → Nat} {t : Nat} (h : kd t ≤ 2) : ∀ m, pr_sg kd f m t = t := by
  intro m
  cases m with
  | zero => rfl
  | succ m => exact if_pos h
theorem pr_sg_m {kd f : Nat → Nat} : ∀ (m t : Nat), kd (pr_sg kd f m t) ≤ 2 → pr_sg kd f (m + 1) t = pr_sg kd f m t := by
  intro m
  induction m with
  | zero => intro t h; exact pr_sg_s (m := 1) h
  | succ m ih =>
    intro t h
    by_cases c : kd t ≤ 2
    · rw [pr_sg_s c, pr_sg_s c]
    · have e : ∀ x, pr_sg kd f (x + 1) t = pr_sg kd f x (f t) := fun x => if_neg c
      rw [e m] at h
      rw [e, e]
      exact ih _ h
theorem pr_sg_f {kd f : Nat → Nat} {m t : Nat} (c : ¬ kd t ≤ 2) (h : kd (pr_sg kd f m t) ≤ 2) : pr_sg kd f m t = pr_sg kd f m (f t) :=
  (pr_sg_m m t h).symm.trans (if_neg c)
theorem pr_sg_lt {kd f : Nat → Nat} {n : Nat} (hf : ∀ y, y < n → f y < n) : ∀ m t, t < n → pr_sg kd f m t < n := by
  intro m
  induction m with
  | zero => intro t h; exact h
  | succ m ih =>
    intro t h
    show (if kd t ≤ 2 then t else pr_sg kd f m (f t)) < n
    split
    · exact h
    · exact ih _ (hf t h)
theorem pr_sg_sk {C : Nat → Prop} {kd f : Nat → Nat} (hC : ∀ t, C t → kd t ≤ 2) : ∀ m t, pr_sk C f t (pr_sg kd f m t) := by
  intro m
  induction m with
  | zero => intro t; exact pr_sk_rf t
  | succ m ih =>
    intro t
    show pr_sk C f t (if kd t ≤ 2 then t else pr_sg kd f m (f t))
    split
    · exact pr_sk_rf t
    · exact pr_sk_st (fun c => absurd (hC t c) (by assumption)) (ih _)
end PRA
