section
section PRA
/-! rows pasted from the kit, then numbers, steps, orbits -/
theorem pk_us {f : Nat → Int32} {k : Nat} {x : Int32} : upd f k x k = x := if_pos rfl
theorem pk_un {f : Nat → Int32} {k j : Nat} {x : Int32} (h : j ≠ k) : upd f k x j = f j := if_neg h
theorem pk_sub {a b : Nat} (h : b ≤ a) : nI a - nI b = nI (a - b) := by
  obtain ⟨c, rfl⟩ : ∃ c, a = c + b := ⟨a - b, by omega⟩
  rw [← nI_add, Int32.add_sub_cancel, Nat.add_sub_cancel]
theorem pk_m1 (n : Nat) : nI (n + 1) + (-1) = nI n := by
  rw [← nI_1, Int32.add_assoc, show (1 : Int32) + (-1) = 0 from rfl, Int32.add_zero]
theorem pk_mul (a b : Nat) : nI a * nI b = nI (a * b) := (Int32.ofNat_mul a b).symm
theorem pk_div {a d : Nat} (ha : a < 2 ^ 31) (h0 : 0 < d) (hd : d < 2 ^ 31) : nI a / nI d = nI (a / d) := by
  apply Int32.toInt_inj.mp
  rw [lg_idiv_nonneg (by rw [nI_toInt ha]; omega) (by rw [nI_toInt hd]; omega), nI_toInt ha, nI_toInt hd, nI_toInt (Nat.lt_of_le_of_lt (Nat.div_le_self a d) ha)]
  first | rfl | exact (Int.natCast_ediv _ _).symm
theorem pk_rem {a d : Nat} (ha : a < 2 ^ 31) (h0 : 0 < d) (hd : d < 2 ^ 31) : nI a - nI a / nI d * nI d = nI (a % d) := by
  rw [pk_div ha h0 hd, pk_mul, pk_sub (Nat.div_mul_le_self a d)]
  exact congrArg nI (by have := Nat.div_add_mod' a d; omega)
theorem pk_ix (x : Int32) {n : Nat} (hn : n < 2 ^ 31) : x < 0 ∨ nI n ≤ x ∨ ∃ j : Nat, j < n ∧ x = nI j := by
  by_cases h : x < 0
  · exact Or.inl h
  · obtain ⟨j, hj, rfl⟩ := nI_of h
    by_cases h2 : j < n
    · exact Or.inr (Or.inr ⟨j, h2, rfl⟩)
    · exact Or.inr (Or.inl (nI_le (by omega) hj))
theorem pk_le {x y : Int32} {A B : Prop} (a b : Nat) (f : a ≤ b → A) (g : b < a → B) (hx : x = nI a := by rfl) (hy : y = nI b := by rfl) (ha : a < 2 ^ 31 := by omega) (hb : b < 2 ^ 31 := by omega) : (x ≤ y → A) ∧ (¬ x ≤ y → B) := by
  subst hx hy
  rw [nI_leI ha hb]
  exact ⟨f, fun z => g (by omega)⟩
theorem pk_lt {x y : Int32} {A B : Prop} (a b : Nat) (f : a < b → A) (g : b ≤ a → B) (hx : x = nI a := by rfl) (hy : y = nI b := by rfl) (ha : a < 2 ^ 31 := by omega) (hb : b < 2 ^ 31 := by omega) : (x < y → A) ∧ (¬ x < y → B) := by
  subst hx hy
  rw [nI_ltI ha hb]
  exact ⟨f, fun z => g (by omega)⟩
theorem pk_eq {x y : Int32} {A B : Prop} (a b : Nat) (f : a = b → A) (g : a ≠ b → B) (hx : x = nI a := by rfl) (hy : y = nI b := by rfl) (ha : a < 2 ^ 31 := by omega) (hb : b < 2 ^ 31 := by omega) : (x = y → A) ∧ (¬ x = y → B) := by
  subst hx hy
  rw [nI_eq ha hb]
  exact ⟨f, g⟩
theorem pk_in {x : Int32} (n N : Nat) (h : n < N) (hx : x = nI n := by rfl) (hN : N < 2 ^ 31 := by omega) : vp_in x N := by
  subst hx
  exact vp_in_nI h hN
theorem pk_cl {x : Int32} (n : Nat) (hx : x = nI n := by rfl) (h : n < 2 ^ 31 := by omega) : x.toNatClampNeg = n := by
  subst hx
  exact nI_clamp h
theorem pk_loop {σ : Type} (W : Nat → Nat → σ → Prop) (I : Nat → σ → Prop) (e i0 : Nat) (s : σ) (hi : i0 ≤ e) (h0 : I i0 s) (hx : ∀ n s, I e s → W (n + 1) e s)
    (hs : ∀ n i s, i < e → I i s → (∀ s', I (i + 1) s' → W n (i + 1) s') → W (n + 1) i s) : ∃ n, W n i0 s :=
  ⟨e + 1, loop_i W I e hx hs (e + 1) i0 s hi (by omega) h0⟩
theorem pk_least (P : Nat → Prop) (h : ∃ k, P k) : ∃ k, P k ∧ ∀ j, j < k → ¬ P j := by
  obtain ⟨k, hk⟩ := h
  induction k using Nat.strongRecOn with
  | ind k ih =>
    by_cases e : ∃ j, j < k ∧ P j
    · obtain ⟨j, hj, pj⟩ := e
      exact ih j hj pj
    · exact ⟨k, hk, fun j hj pj => e ⟨j, hj, pj⟩⟩
theorem lp1 {A1 : Type} (W : Nat → A1 → Prop) (I : A1 → Prop) (μ : A1 → Nat) (hs : ∀ (n : Nat) (a1 : A1), I a1 → (∀ (b1 : A1), I b1 → μ b1 < μ a1 → W n b1) → W (n + 1) a1) (a1 : A1) (h : I a1) : ∃ n, W n a1 :=
  loop_m (σ := A1) (fun n s => W n s) (fun s => I s) (fun s => μ s) (fun n s hI hk => hs n s hI (fun b1 h9 hm => hk b1 h9 hm)) a1 h
theorem lp2 {A1 A2 : Type} (W : Nat → A1 → A2 → Prop) (I : A1 → A2 → Prop) (μ : A1 → A2 → Nat) (hs : ∀ (n : Nat) (a1 : A1) (a2 : A2), I a1 a2 → (∀ (b1 : A1) (b2 : A2), I b1 b2 → μ b1 b2 < μ a1 a2 → W n b1 b2) → W (n + 1) a1 a2) (a1 : A1) (a2 : A2) (h : I a1 a2) : ∃ n, W n a1 a2 :=
  loop_m (σ := A1 × A2) (fun n s => W n s.1 s.2) (fun s => I s.1 s.2) (fun s => μ s.1 s.2) (fun n s hI hk => hs n s.1 s.2 hI (fun b1 b2 h9 hm => hk (b1, b2) h9 hm)) (a1, a2) h
theorem lp3 {A1 A2 A3 : Type} (W : Nat → A1 → A2 → A3 → Prop) (I : A1 → A2 → A3 → Prop) (μ : A1 → A2 → A3 → Nat) (hs : ∀ (n : Nat) (a1 : A1) (a2 : A2) (a3 : A3), I a1 a2 a3 → (∀ (b1 : A1) (b2 : A2) (b3 : A3), I b1 b2 b3 → μ b1 b2 b3 < μ a1 a2 a3 → W n b1 b2 b3) → W (n + 1) a1 a2 a3) (a1 : A1) (a2 : A2) (a3 : A3) (h : I a1 a2 a3) : ∃ n, W n a1 a2 a3 :=
  loop_m (σ := A1 × A2 × A3) (fun n s => W n s.1 s.2.1 s.2.2) (fun s => I s.1 s.2.1 s.2.2) (fun s => μ s.1 s.2.1 s.2.2) (fun n s hI hk => hs n s.1 s.2.1 s.2.2 hI (fun b1 b2 b3 h9 hm => hk (b1, b2, b3) h9 hm)) (a1, a2, a3) h
/-- k steps of f -/
def pr_it (f : Nat → Nat) : Nat → Nat → Nat
  | 0, t => t
  | k + 1, t => pr_it f k (f t)
theorem pr_it_s (f : Nat → Nat) : ∀ k t, pr_it f (k + 1) t = f (pr_it f k t) := by
  intro k
  induction k with
  | zero => intro t; rfl
  | succ k ih => intro t; exact ih (f t)
theorem pr_it_add (f : Nat → Nat) (a b t : Nat) : pr_it f (a + b) t = pr_it f b (pr_it f a t) := by
  induction a generalizing t with
  | zero => rw [Nat.zero_add]; rfl
  | succ a ih => rw [Nat.succ_add]; exact ih (f t)
theorem pr_it_lt {f : Nat → Nat} {n : Nat} (hf : ∀ x, x < n → f x < n) : ∀ k t, t < n → pr_it f k t < n := by
  intro k
  induction k with
  | zero => intro t h; exact h
  | succ k ih => intro t h; exact ih _ (hf t h)
theorem pr_pig : ∀ (n : Nat) (f : Nat → Nat), (∀ i, i ≤ n → f i < n) → ∃ i j, i < j ∧ j ≤ n ∧ f i = f j := by
  intro n
  induction n with
  | zero => intro f h; exact absurd (h 0 (Nat.le_refl 0)) (Nat.not_lt_zero _)
  | succ n ih =>
    intro f h
    by_cases hm : ∃ i, i ≤ n ∧ f i = f (n + 1)
    · obtain ⟨i, hi, e⟩ := hm
      exact ⟨i, n + 1, by omega, by omega, e⟩
    · have hne : ∀ i, i ≤ n → f i ≠ f (n + 1) := fun i hi e => hm ⟨i, hi, e⟩
      have hl := h (n + 1) (by omega)
      obtain ⟨i, j, hij, hj, e⟩ := ih (fun i => if f i = n then f (n + 1) else f i) (by
        intro i hi
        have h1 := h i (by omega)
        have h2 := hne i hi
        show (if f i = n then f (n + 1) else f i) < n
        split <;> omega)
      have hi2 := hne i (by omega)
      have hj2 := hne j (by omega)
      refine ⟨i, j, hij, by omega, ?_⟩
      have e' : (if f i = n then f (n + 1) else f i) = (if f j = n then f (n + 1) else f j) := e
      split at e' <;> split at e' <;> omega
theorem pr_orb {g : Nat → Nat} {n : Nat} (hg : ∀ x, x < n → g x < n) {t : Nat} (ht : t < n) :
    ∃ j, 0 < j ∧ j ≤ n ∧ (∀ a b, a < b → b < j → pr_it g a t ≠ pr_it g b t) ∧ (∃ i, i < j ∧ pr_it g j t = pr_it g i t) ∧ ∀ k, ∃ i, i < j ∧ pr_it g k t = pr_it g i t := by
  obtain ⟨a, b, hab, hb, e⟩ := pr_pig n (fun i => pr_it g i t) (fun i _ => pr_it_lt hg i t ht)
  obtain ⟨j, ⟨i, hi, ej⟩, hmin⟩ := pk_least (fun j => ∃ i, i < j ∧ pr_it g j t = pr_it g i t) ⟨b, a, hab, e.symm⟩
  refine ⟨j, by omega, ?_, ?_, ⟨i, hi, ej⟩, ?_⟩
  · by_cases h : j ≤ n
    · exact h
    · exact absurd ⟨a, hab, e.symm⟩ (hmin b (by omega))
  · intro x y hxy hy exy
    exact hmin y hy ⟨x, hxy, exy.symm⟩
  · intro k
    induction k using Nat.strongRecOn with
    | ind k ih =>
      by_cases h : k < j
      · exact ⟨k, h, rfl⟩
      · obtain ⟨i2, h2, e2⟩ := ih (i + (k - j)) (by omega)
        refine ⟨i2, h2, ?_⟩
        rw [← e2, pr_it_add, ← ej, ← pr_it_add]
        congr 1
        omega
/-- from t by steps of f, over what isn't in C, to x -/
def pr_sk (C : Nat → Prop) (f : Nat → Nat) (t x : Nat) : Prop := ∃ k, pr_it f k t = x ∧ ∀ j, j < k → ¬ C (pr_it f j t)
theorem pr_sk_rf {C : Nat → Prop} {f : Nat → Nat} (t : Nat) : pr_sk C f t t := ⟨0, rfl, fun _ h => absurd h (Nat.not_lt_zero _)⟩
theorem pr_sk_st {C : Nat → Prop} {f : Nat → Nat} {t x : Nat} (h : ¬ C t) (hx : pr_sk C f (f t) x) : pr_sk C f t x := by
  obtain ⟨k, e, hk⟩ := hx
  refine ⟨k + 1, e, ?_⟩
  intro j hj
  cases j with
  | zero => exact h
  | succ j => exact hk j (by omega)
theorem pr_sk_tr {C : Nat → Prop} {f : Nat → Nat} {t x y : Nat} (h1 : pr_sk C f t x) (h2 : pr_sk C f x y) : pr_sk C f t y := by
  obtain ⟨k, e, hk⟩ := h1
  obtain ⟨m, e2, hm⟩ := h2
  refine ⟨k + m, by rw [pr_it_add, e, e2], ?_⟩
  intro j hj
  by_cases h : j < k
  · exact hk j h
  · have := hm (j - k) (by omega)
    rw [← e, ← pr_it_add, show k + (j - k) = j from by omega] at this
    exact this
theorem pr_sk_dt {C : Nat → Prop} {f : Nat → Nat} {t x y : Nat} (h1 : pr_sk C f t x) (c1 : C x) (h2 : pr_sk C f t y) (c2 : C y) : x = y := by
  obtain ⟨k, e, hk⟩ := h1
  obtain ⟨m, e2, hm⟩ := h2
  have a : ¬ m < k := fun h => hk m h (by rw [e2]; exact c2)
  have b : ¬ k < m := fun h => hm k h (by rw [e]; exact c1)
  have : k = m := by omega
  rw [← e, ← e2, this]
/-- the first one in C is met within n steps -/
theorem pr_sk_n {C : Nat → Prop} {f : Nat → Nat} {n t x : Nat} (hf : ∀ y, y < n → f y < n) (ht : t < n) (h : pr_sk C f t x) (c : C x) : ∃ k, k < n ∧ pr_it f k t = x ∧ ∀ j, j < k → ¬ C (pr_it f j t) := by
  obtain ⟨k, e, hk⟩ := h
  obtain ⟨j, h0, hj, -, -, hc⟩ := pr_orb hf ht
  obtain ⟨i, hi, ei⟩ := hc k
  refine ⟨k, ?_, e, hk⟩
  have : ¬ i < k := fun h => hk i h (by rw [← ei, e]; exact c)
  omega
theorem pr_nv_sk {C : Nat → Prop} {f : Nat → Nat} {t a : Nat} (h : pr_sk C f t a) (hn : ∀ j, ¬ C (pr_it f j a)) : ∀ j, ¬ C (pr_it f j t) := by
  obtain ⟨k, e, hk⟩ := h
  intro j
  by_cases hj : j < k
  · exact hk j hj
  · have := hn (j - k)
    rw [← e, ← pr_it_add, show k + (j - k) = j from by omega] at this
    exact this
/-- the settled term: steps of f over loops and agains -/
def pr_sg (kd f : Nat → Nat) : Nat → Nat → Nat
  | 0, t => t
  | m + 1, t => if kd t ≤ 2 then t else pr_sg kd f m (f t)
theorem pr_sg_s {kd f : Nat → Nat} {t : Nat} (h : kd t ≤ 2) : ∀ m, pr_sg kd f m t = t := by
  intro m
  cases m with
  | zero => rfl
  | succ m => exact if_pos h
theorem pr_sg_m {kd f : Nat → Nat} : ∀ (m t : Nat), kd (pr_sg kd f m t) ≤ 2 → pr_sg kd f (m + 1) t = pr_sg kd f m t := by
  intro m
  induction m with
  | zero => intro t h; exact pr_sg_s (m := 1) h
  | succ m ih =>
    intro t h
    by_cases c : kd t ≤ 2
    · rw [pr_sg_s c, pr_sg_s c]
    · have e : ∀ x, pr_sg kd f (x + 1) t = pr_sg kd f x (f t) := fun x => if_neg c
      rw [e m] at h
      rw [e, e]
      exact ih _ h
theorem pr_sg_f {kd f : Nat → Nat} {m t : Nat} (c : ¬ kd t ≤ 2) (h : kd (pr_sg kd f m t) ≤ 2) : pr_sg kd f m t = pr_sg kd f m (f t) :=
  (pr_sg_m m t h).symm.trans (if_neg c)
theorem pr_sg_lt {kd f : Nat → Nat} {n : Nat} (hf : ∀ y, y < n → f y < n) : ∀ m t, t < n → pr_sg kd f m t < n := by
  intro m
  induction m with
  | zero => intro t h; exact h
  | succ m ih =>
    intro t h
    show (if kd t ≤ 2 then t else pr_sg kd f m (f t)) < n
    split
    · exact h
    · exact ih _ (hf t h)
theorem pr_sg_sk {C : Nat → Prop} {kd f : Nat → Nat} (hC : ∀ t, C t → kd t ≤ 2) : ∀ m t, pr_sk C f t (pr_sg kd f m t) := by
  intro m
  induction m with
  | zero => intro t; exact pr_sk_rf t
  | succ m ih =>
    intro t
    show pr_sk C f t (if kd t ≤ 2 then t else pr_sg kd f m (f t))
    split
    · exact pr_sk_rf t
    · exact pr_sk_st (fun c => absurd (hC t c) (by assumption)) (ih _)
end PRA
end
section
section PRB
/-! the protocol as a graph: count, kinds, senders, receivers, first, second, labels -/
abbrev pg_T : Type := Nat × (Nat → Nat) × (Nat → Nat) × (Nat → Nat) × (Nat → Nat) × (Nat → Nat) × (Nat → Int32)
def pg_n (g : pg_T) : Nat := g.1
def pg_k (g : pg_T) : Nat → Nat := g.2.1
def pg_f (g : pg_T) : Nat → Nat := g.2.2.1
def pg_t (g : pg_T) : Nat → Nat := g.2.2.2.1
def pg_1 (g : pg_T) : Nat → Nat := g.2.2.2.2.1
def pg_2 (g : pg_T) : Nat → Nat := g.2.2.2.2.2.1
def pg_l (g : pg_T) : Nat → Int32 := g.2.2.2.2.2.2
def pg_s (g : pg_T) (t : Nat) : Nat := pr_sg (pg_k g) (pg_1 g) 42 t
/-- one step of the walk behind a message -/
def pg_w (g : pg_T) (t : Nat) : Nat := pg_s g (pg_1 g t)
def pg_c (g : pg_T) (r t : Nat) : Prop := pg_k g t = 2 ∨ pg_k g t = 1 ∧ (pg_f g t = r ∨ pg_t g t = r)
def pg_ok (g : pg_T) : Prop :=
  0 < pg_n g ∧ pg_n g ≤ 20 ∧ (∀ i, i < pg_n g → pg_k g i ≤ 4 ∧ pg_1 g i < pg_n g ∧ pg_2 g i < pg_n g ∧ (pg_k g i = 1 → pg_f g i < 3 ∧ pg_t g i < 3 ∧ pg_f g i ≠ pg_t g i) ∧ (pg_k g i = 2 → pg_f g i < 3) ∧ (pg_k g i = 0 → pg_1 g i = i) ∧ (pg_k g i ≠ 2 → pg_2 g i = pg_1 g i) ∧ pg_k g (pg_s g i) ≤ 2) ∧ (pg_k g 0 = 0 ∨ pg_k g 0 = 4)
theorem pg_c2 {g : pg_T} {r t : Nat} (h : pg_c g r t) : pg_k g t ≤ 2 := by
  rcases h with h | ⟨h, -⟩ <;> omega
theorem pg_1lt {g : pg_T} (ok : pg_ok g) {t : Nat} (h : t < pg_n g) : pg_1 g t < pg_n g := (ok.2.2.1 t h).2.1
theorem pg_2lt {g : pg_T} (ok : pg_ok g) {t : Nat} (h : t < pg_n g) : pg_2 g t < pg_n g := (ok.2.2.1 t h).2.2.1
theorem pg_slt {g : pg_T} (ok : pg_ok g) {t : Nat} (h : t < pg_n g) : pg_s g t < pg_n g := pr_sg_lt (fun _ => pg_1lt ok) 42 t h
theorem pg_s2 {g : pg_T} (ok : pg_ok g) {t : Nat} (h : t < pg_n g) : pg_k g (pg_s g t) ≤ 2 := (ok.2.2.1 t h).2.2.2.2.2.2.2
theorem pg_ss {g : pg_T} {t : Nat} (h : pg_k g t ≤ 2) : pg_s g t = t := pr_sg_s h 42
theorem pg_sf {g : pg_T} (ok : pg_ok g) {t : Nat} (h : t < pg_n g) (c : ¬ pg_k g t ≤ 2) : pg_s g t = pg_s g (pg_1 g t) := pr_sg_f c (pg_s2 ok h)
theorem pg_ssk {g : pg_T} (r t : Nat) : pr_sk (pg_c g r) (pg_1 g) t (pg_s g t) := pr_sg_sk (fun _ c => pg_c2 c) 42 t
theorem pg_wlt {g : pg_T} (ok : pg_ok g) {t : Nat} (h : t < pg_n g) : pg_w g t < pg_n g := pg_slt ok (pg_1lt ok h)
theorem pg_w2 {g : pg_T} (ok : pg_ok g) {t : Nat} (h : t < pg_n g) : pg_k g (pg_w g t) ≤ 2 := pg_s2 ok (pg_1lt ok h)
theorem pg_wsk {g : pg_T} {r t : Nat} (h : ¬ pg_c g r t) : pr_sk (pg_c g r) (pg_1 g) t (pg_w g t) := pr_sk_st h (pg_ssk r _)
theorem pg_w0 {g : pg_T} (ok : pg_ok g) {t : Nat} (h : t < pg_n g) (z : pg_k g t = 0) : pg_w g t = t := by
  show pg_s g (pg_1 g t) = t
  rw [(ok.2.2.1 t h).2.2.2.2.2.1 z]
  exact pg_ss (by omega)
theorem pg_itlt {g : pg_T} (ok : pg_ok g) {a : Nat} (h : a < pg_n g) (i : Nat) : pr_it (pg_w g) i a < pg_n g := pr_it_lt (fun _ => pg_wlt ok) i a h
theorem pg_it2 {g : pg_T} (ok : pg_ok g) {a : Nat} (h : a < pg_n g) (h2 : pg_k g a ≤ 2) (i : Nat) : pg_k g (pr_it (pg_w g) i a) ≤ 2 := by
  cases i with
  | zero => exact h2
  | succ i => rw [pr_it_s]; exact pg_w2 ok (pg_itlt ok h i)
theorem pg_it0 {g : pg_T} (ok : pg_ok g) {a : Nat} (h : a < pg_n g) (i : Nat) (z : pg_k g (pr_it (pg_w g) i a) = 0) : ∀ m, pr_it (pg_w g) (i + m) a = pr_it (pg_w g) i a := by
  intro m
  induction m with
  | zero => rfl
  | succ m ih =>
    rw [← Nat.add_assoc, pr_it_s, ih]
    exact pg_w0 ok (pg_itlt ok h i) z
/-- where the walk from a meets a term of the role -/
theorem pg_meet {g : pg_T} (ok : pg_ok g) {a : Nat} (h : a < pg_n g) (h2 : pg_k g a ≤ 2) (r : Nat) (hx : ∃ k, pg_c g r (pr_it (pg_w g) k a)) :
    ∃ k, pg_c g r (pr_it (pg_w g) k a) ∧ (∀ i, i < k → pg_k g (pr_it (pg_w g) i a) = 1 ∧ ¬ pg_c g r (pr_it (pg_w g) i a)) ∧ k + 1 < pg_n g
      ∧ (∀ i j, i < j → j ≤ k → pr_it (pg_w g) i a ≠ pr_it (pg_w g) j a) ∧ pr_sk (pg_c g r) (pg_1 g) a (pr_it (pg_w g) k a) := by
  obtain ⟨k, hk, hmin⟩ := pk_least _ hx
  have h1 : ∀ i, i < k → pg_k g (pr_it (pg_w g) i a) = 1 ∧ ¬ pg_c g r (pr_it (pg_w g) i a) := by
    intro i hi
    refine ⟨?_, hmin i hi⟩
    have a1 := pg_it2 ok h h2 i
    have a2 : pg_k g (pr_it (pg_w g) i a) ≠ 2 := fun e => hmin i hi (Or.inl e)
    have a3 : pg_k g (pr_it (pg_w g) i a) ≠ 0 := by
      intro z
      have e := pg_it0 ok h i z (k - i)
      rw [show i + (k - i) = k from by omega] at e
      rw [e] at hk
      exact hmin i hi hk
    omega
  obtain ⟨j, h0, hj, hd, -, hc⟩ := pr_orb (fun _ => pg_wlt ok) h
  have hkj : k < j := by
    obtain ⟨i, hi, ei⟩ := hc k
    have : ¬ i < k := fun z => hmin i z (by rw [← ei]; exact hk)
    omega
  have hdis : ∀ i j, i < j → j ≤ k → pr_it (pg_w g) i a ≠ pr_it (pg_w g) j a := fun i b hib hb => hd i b hib (by omega)
  refine ⟨k, hk, h1, ?_, hdis, ?_⟩
  · by_cases hlt : k + 1 < pg_n g
    · exact hlt
    · exfalso
      have hnz : ∀ i, i ≤ k → pr_it (pg_w g) i a ≠ 0 := by
        intro i hi e
        have h3 : 1 ≤ pg_k g (pr_it (pg_w g) i a) ∧ pg_k g (pr_it (pg_w g) i a) ≤ 2 := by
          by_cases c : i < k
          · have := (h1 i c).1; omega
          · have : i = k := by omega
            subst this
            rcases hk with z | ⟨z, -⟩ <;> omega
        rw [e] at h3
        have h4 := ok.2.2.2
        omega
      obtain ⟨x, y, hxy, hy, e⟩ := pr_pig (pg_n g - 1) (fun i => pr_it (pg_w g) i a - 1) (by
        intro i hi
        have a1 := pg_itlt ok h i
        have a2 := hnz i (by omega)
        show pr_it (pg_w g) i a - 1 < pg_n g - 1
        omega)
      have e' : pr_it (pg_w g) x a - 1 = pr_it (pg_w g) y a - 1 := e
      have a1 := hnz x (by omega)
      have a2 := hnz y (by omega)
      exact hdis x y hxy (by omega) (by omega)
  · have : ∀ m, m ≤ k → pr_sk (pg_c g r) (pg_1 g) a (pr_it (pg_w g) m a) := by
      intro m
      induction m with
      | zero => intro _; exact pr_sk_rf a
      | succ m ih =>
        intro hm
        rw [pr_it_s]
        exact pr_sk_tr (ih (by omega)) (pg_wsk (h1 m (by omega)).2)
    exact this k (Nat.le_refl k)
/-- no term of the role on the walk: none on the way by single steps -/
theorem pg_never {g : pg_T} (ok : pg_ok g) {a : Nat} (h : a < pg_n g) (h2 : pg_k g a ≤ 2) (r : Nat) (hn : ∀ k, ¬ pg_c g r (pr_it (pg_w g) k a)) : ∀ j, ¬ pg_c g r (pr_it (pg_1 g) j a) := by
  have key : ∀ j, pr_it (pg_1 g) j a < pg_n g ∧ ∃ k, pg_s g (pr_it (pg_1 g) j a) = pr_it (pg_w g) k a := by
    intro j
    induction j with
    | zero => exact ⟨h, 0, pg_ss h2⟩
    | succ j ih =>
      obtain ⟨hl, k, e⟩ := ih
      rw [pr_it_s]
      refine ⟨pg_1lt ok hl, ?_⟩
      by_cases c : pg_k g (pr_it (pg_1 g) j a) ≤ 2
      · refine ⟨k + 1, ?_⟩
        rw [pr_it_s, ← e, pg_ss c]
        rfl
      · exact ⟨k, by rw [← pg_sf ok hl c, e]⟩
  intro j c
  obtain ⟨hl, k, e⟩ := key j
  rw [pg_ss (pg_c2 c)] at e
  exact hn k (by rw [← e]; exact c)
def pr_les (r : Nat) : Nat := if r = 0 then 1 else 0
def pr_gre (r : Nat) : Nat := if r = 2 then 1 else 2
/-- the branch -/
def pg_b (g : pg_T) (x c : Nat) : Nat := if c = 1 then pg_2 g x else pg_1 g x
theorem pg_blt {g : pg_T} (ok : pg_ok g) {x : Nat} (h : x < pg_n g) (c : Nat) : pg_b g x c < pg_n g := by
  unfold pg_b
  split
  · exact pg_2lt ok h
  · exact pg_1lt ok h
abbrev pr_T : Type := Nat × Nat × Int32
/-- the role r, at place t with its pick pk, has the messages L of the path still before it, and the path's end stands at a -/
def pr_pth (g : pg_T) (r a : Nat) : List pr_T → Nat → Option Nat → Prop
  | [], t, pk => pk = none ∧ pr_sk (pg_c g r) (pg_1 g) t a
  | y :: L, t, none => ∃ x, pr_sk (pg_c g r) (pg_1 g) t x ∧ pg_c g r x ∧
      ((pg_k g x = 1 ∧ y = (pg_f g x, pg_t g x, pg_l g x) ∧ pr_pth g r a L (pg_1 g x) none)
      ∨ (pg_k g x = 2 ∧ pg_f g x ≠ r ∧ ∃ c, c < 2 ∧ y = (pg_f g x, r, nI c) ∧ pr_pth g r a L (pg_b g x c) none))
  | y :: L, t, some c => ∃ x, pr_sk (pg_c g r) (pg_1 g) t x ∧ pg_c g r x ∧ pg_k g x = 2 ∧ pg_f g x = r ∧ c < 2 ∧ y = (r, pr_gre r, nI c) ∧ pr_pth g r a L (pg_b g x c) none
theorem pr_pth_app {g : pg_T} {r a a' : Nat} {E : List pr_T} (hE : ∀ t, pr_sk (pg_c g r) (pg_1 g) t a → pr_pth g r a' E t none) : ∀ (L : List pr_T) (t : Nat) (pk : Option Nat), pr_pth g r a L t pk → pr_pth g r a' (L ++ E) t pk := by
  intro L
  induction L with
  | nil =>
    intro t pk h
    obtain ⟨rfl, h⟩ := h
    exact hE t h
  | cons y L ih =>
    intro t pk h
    cases pk with
    | none =>
      obtain ⟨x, hs, hc, h⟩ := h
      refine ⟨x, hs, hc, ?_⟩
      rcases h with ⟨k1, e, h⟩ | ⟨k2, hr, c, hc2, e, h⟩
      · exact Or.inl ⟨k1, e, ih _ _ h⟩
      · exact Or.inr ⟨k2, hr, c, hc2, e, ih _ _ h⟩
    | some c =>
      obtain ⟨x, hs, hc, k2, hr, hc2, e, h⟩ := h
      exact ⟨x, hs, hc, k2, hr, hc2, e, ih _ _ h⟩
theorem pr_pth_msg {g : pg_T} {r a : Nat} (ka : pg_k g a = 1) {L : List pr_T} {t : Nat} {pk : Option Nat} (h : pr_pth g r a L t pk) :
    pr_pth g r (pg_w g a) (L ++ (if pg_f g a = r ∨ pg_t g a = r then [(pg_f g a, pg_t g a, pg_l g a)] else [])) t pk := by
  refine pr_pth_app ?_ L t pk h
  intro t hs
  split
  · rename_i hc
    exact ⟨a, hs, Or.inr ⟨ka, hc⟩, Or.inl ⟨ka, rfl, rfl, pg_ssk r _⟩⟩
  · rename_i hc
    refine ⟨rfl, pr_sk_tr hs (pg_wsk ?_)⟩
    intro z
    rcases z with z | ⟨-, z⟩
    · omega
    · exact hc z
theorem pr_pth_own {g : pg_T} {r a c : Nat} (ka : pg_k g a = 2) (hr : pg_f g a = r) (hc : c < 2) {t : Nat} (hs : pr_sk (pg_c g r) (pg_1 g) t a) :
    pr_pth g r (pg_s g (pg_b g a c)) [(r, pr_gre r, nI c)] t (some c) :=
  ⟨a, hs, Or.inl ka, ka, hr, hc, rfl, rfl, pg_ssk r _⟩
theorem pr_pth_oth {g : pg_T} {r a c : Nat} (ka : pg_k g a = 2) (hr : pg_f g a ≠ r) (hc : c < 2) {L : List pr_T} {t : Nat} {pk : Option Nat} (h : pr_pth g r a L t pk) :
    pr_pth g r (pg_s g (pg_b g a c)) (L ++ [(pg_f g a, r, nI c)]) t pk := by
  refine pr_pth_app ?_ L t pk h
  intro t hs
  exact ⟨a, hs, Or.inl ka, Or.inr ⟨ka, hr, c, hc, rfl, rfl, pg_ssk r _⟩⟩
/-- w goes on, without a pick and without an end, to a -/
def pg_dr (g : pg_T) (w a : Nat) : Prop := pr_sk (fun t => pg_k g t = 0 ∨ pg_k g t = 2) (pg_1 g) w a
theorem pg_dr_s (g : pg_T) (t : Nat) : pg_dr g t (pg_s g t) := pr_sg_sk (fun _ c => by rcases c with c | c <;> omega) 42 t
theorem pg_dr_m {g : pg_T} {w a : Nat} (h : pg_dr g w a) (ka : pg_k g a = 1) : pg_dr g w (pg_w g a) :=
  pr_sk_tr h (pr_sk_st (fun c => by rcases c with c | c <;> omega) (pg_dr_s g _))
end PRB
end
section
section PRC
/-! the rows of the path: sender, receiver, label, value, sent, received -/
abbrev ro_T : Type := Nat × Nat × Int32 × Int32 × Bool × Bool
def ro_p (x : ro_T) : Nat := x.1
def ro_q (x : ro_T) : Nat := x.2.1
def ro_l (x : ro_T) : Int32 := x.2.2.1
def ro_v (x : ro_T) : Int32 := x.2.2.2.1
def ro_s (x : ro_T) : Bool := x.2.2.2.2.1
def ro_d (x : ro_T) : Bool := x.2.2.2.2.2
def ro_t (x : ro_T) : pr_T := (ro_p x, ro_q x, ro_l x)
/-- not done by r -/
def ro_u (r : Nat) (x : ro_T) : Bool := (ro_p x == r && !ro_s x) || (ro_q x == r && !ro_d x)
def ro_c (r : Nat) (x : ro_T) : Bool := ro_p x == r || ro_q x == r
/-- on its way from p to q -/
def ro_w (p q : Nat) (x : ro_T) : Bool := ro_p x == p && ro_q x == q && ro_s x && !ro_d x
def ro_k (x : ro_T) : Bool := !(ro_s x && ro_d x)
def ro_f (x : ro_T) : Bool := ro_s x && ro_d x
def ro_ok (x : ro_T) : Prop := ro_p x < 3 ∧ ro_q x < 3 ∧ ro_p x ≠ ro_q x ∧ (ro_d x = true → ro_s x = true)
def ro_or (r : Nat) (a b : ro_T) : Prop := ro_u r a = true → ro_c r b = true → ro_u r b = true
def ro_O (R : List ro_T) : Prop := ∀ r, r < 3 → R.Pairwise (ro_or r)
def ro_A (R : List ro_T) : Prop := ∀ x, x ∈ R → ro_ok x
def ro_snd (x : ro_T) (v : Int32) : ro_T := (ro_p x, ro_q x, ro_l x, v, true, ro_d x)
def ro_rcv (x : ro_T) : ro_T := (ro_p x, ro_q x, ro_l x, ro_v x, ro_s x, true)
def ro_nU (R : List ro_T) : Nat := R.countP (fun x => !ro_s x)
def ro_nO (R : List ro_T) : Nat := R.countP ro_s
def ro_n (r : Nat) (R : List ro_T) : Nat := if R.any (ro_u r) then 1 else 0
def ro_N (R : List ro_T) : Nat := ro_n 0 R + ro_n 1 R + ro_n 2 R
/-- few rows: behind each place at most 20 unsent ones for each sent one and each role with something to do -/
def ro_B (R : List ro_T) : Prop := ∀ A S, R = A ++ S → ro_nU S ≤ 20 * (ro_nO S + ro_N S)
theorem ro_uf {r : Nat} {x : ro_T} (h : ro_f x = true) : ro_u r x = false := by
  unfold ro_f at h
  unfold ro_u
  simp only [Bool.and_eq_true] at h
  simp [h.1, h.2]
theorem ro_k_u {r : Nat} {x : ro_T} (h : ro_u r x = true) : ro_k x = true := by
  cases hk : ro_k x
  · unfold ro_k at hk
    have : ro_f x = true := by unfold ro_f; simpa using hk
    rw [ro_uf this] at h
    exact h
  · rfl
theorem ro_k_w {p q : Nat} {x : ro_T} (h : ro_w p q x = true) : ro_k x = true := by
  unfold ro_w at h
  unfold ro_k
  simp only [Bool.and_eq_true, Bool.not_eq_true'] at h
  simp [h.2]
theorem ro_ffl {P : ro_T → Bool} (hP : ∀ x, P x = true → ro_k x = true) (R : List ro_T) : (R.filter ro_k).filter P = R.filter P := by
  rw [List.filter_filter]
  congr 1
  funext x
  cases h : P x
  · simp
  · simp [hP x h]
theorem ro_fu (r : Nat) (R : List ro_T) : (R.filter ro_k).filter (ro_u r) = R.filter (ro_u r) := ro_ffl (fun _ h => ro_k_u h) R
theorem ro_fw (p q : Nat) (R : List ro_T) : (R.filter ro_k).filter (ro_w p q) = R.filter (ro_w p q) := ro_ffl (fun _ h => ro_k_w h) R
theorem ro_fO {R : List ro_T} (h : ro_O R) : ro_O (R.filter ro_k) := fun r hr => (h r hr).filter _
theorem ro_fA {R : List ro_T} (h : ro_A R) : ro_A (R.filter ro_k) := fun x hx => h x (List.mem_filter.mp hx).1
/-- nothing unsent stands before something done -/
theorem ro_bef {A C : List ro_T} {e : ro_T} (o : ro_O (A ++ e :: C)) (ok : ro_A (A ++ e :: C)) (he : ro_f e = true) : ∀ a, a ∈ A → ro_s a = true := by
  intro a ha
  cases hs : ro_s a
  · exfalso
    obtain ⟨a1, a2, a3, a4⟩ := ok a (by simp [ha])
    obtain ⟨e1, e2, e3, e4⟩ := ok e (by simp)
    have hd : ro_d a = false := by
      cases h : ro_d a
      · rfl
      · rw [a4 h] at hs; exact hs
    have key : ∀ z, z < 3 → ro_c z a = true → ro_c z e = true → False := by
      intro z hz c1 c2
      have hp := (List.pairwise_append.mp (o z hz)).2.2 a ha e (by simp)
      have u1 : ro_u z a = true := by
        unfold ro_c at c1
        unfold ro_u
        simpa [hs, hd] using c1
      have := hp u1 c2
      rw [ro_uf he] at this
      exact absurd this (by decide)
    have : ro_p a = ro_p e ∨ ro_p a = ro_q e ∨ ro_q a = ro_p e ∨ ro_q a = ro_q e := by omega
    rcases this with h | h | h | h
    · exact key (ro_p a) a1 (by simp [ro_c]) (by simp [ro_c, h])
    · exact key (ro_p a) a1 (by simp [ro_c]) (by simp [ro_c, h])
    · exact key (ro_q a) a2 (by simp [ro_c]) (by simp [ro_c, h])
    · exact key (ro_q a) a2 (by simp [ro_c]) (by simp [ro_c, h])
  · rfl
theorem ro_nU0 {A : List ro_T} (h : ∀ a, a ∈ A → ro_s a = true) : ro_nU A = 0 := by
  unfold ro_nU
  rw [List.countP_eq_zero]
  intro a ha
  simp [h a ha]
theorem ro_nUa (A B : List ro_T) : ro_nU (A ++ B) = ro_nU A + ro_nU B := List.countP_append
theorem ro_nOa (A B : List ro_T) : ro_nO (A ++ B) = ro_nO A + ro_nO B := List.countP_append
theorem ro_nUc (x : ro_T) (B : List ro_T) : ro_nU (x :: B) = ro_nU B + (if ro_s x then 0 else 1) := by
  unfold ro_nU
  rw [List.countP_cons]
  cases ro_s x <;> rfl
theorem ro_nOc (x : ro_T) (B : List ro_T) : ro_nO (x :: B) = ro_nO B + (if ro_s x then 1 else 0) := by
  unfold ro_nO
  rw [List.countP_cons]
theorem ro_n_le (r : Nat) (R : List ro_T) : ro_n r R ≤ 1 := by
  unfold ro_n
  split <;> omega
theorem ro_n_1 {r : Nat} {R : List ro_T} {x : ro_T} (h : x ∈ R) (u : ro_u r x = true) : ro_n r R = 1 := by
  unfold ro_n
  rw [if_pos (List.any_eq_true.mpr ⟨x, h, u⟩)]
theorem ro_n_0 {r : Nat} {R : List ro_T} (h : ∀ x, x ∈ R → ro_u r x = false) : ro_n r R = 0 := by
  unfold ro_n
  rw [if_neg]
  intro z
  obtain ⟨x, hx, u⟩ := List.any_eq_true.mp z
  rw [h x hx] at u
  exact absurd u (by decide)
theorem ro_n_mo {r : Nat} {R S : List ro_T} (h : ∀ x, x ∈ R → ro_u r x = true → ∃ y, y ∈ S ∧ ro_u r y = true) : ro_n r R ≤ ro_n r S := by
  by_cases c : ∃ x, x ∈ R ∧ ro_u r x = true
  · obtain ⟨x, hx, u⟩ := c
    obtain ⟨y, hy, v⟩ := h x hx u
    rw [ro_n_1 hy v]
    exact ro_n_le r R
  · rw [ro_n_0 (R := R)]
    · exact Nat.zero_le _
    · intro x hx
      cases u : ro_u r x
      · rfl
      · exact absurd ⟨x, hx, u⟩ c
theorem ro_N_mo {R S : List ro_T} (h : ∀ r x, x ∈ R → ro_u r x = true → ∃ y, y ∈ S ∧ ro_u r y = true) : ro_N R ≤ ro_N S := by
  have h0 := ro_n_mo (h 0)
  have h1 := ro_n_mo (h 1)
  have h2 := ro_n_mo (h 2)
  unfold ro_N
  omega
theorem ro_N_3 (R : List ro_T) : ro_N R ≤ 3 := by
  have h0 := ro_n_le 0 R
  have h1 := ro_n_le 1 R
  have h2 := ro_n_le 2 R
  unfold ro_N
  omega
/-- forgetting what is done -/
theorem ro_fB {R : List ro_T} (o : ro_O R) (ok : ro_A R) (b : ro_B R) : ro_B (R.filter ro_k) := by
  intro A S e
  obtain ⟨A0, S0, e0, eA, eS⟩ := List.filter_eq_append_iff.mp e
  -- the last done one in S0
  have key : ∀ (S0 B0 : List ro_T), R = B0 ++ S0 → ro_nU (S0.filter ro_k) ≤ 20 * (ro_nO (S0.filter ro_k) + ro_N (S0.filter ro_k)) ∧ ro_nU (S0.filter ro_k) = ro_nU S0 := by
    intro S0
    induction S0 with
    | nil => intro B0 _; exact ⟨by simp [ro_nU], rfl⟩
    | cons x T ih =>
      intro B0 eB
      obtain ⟨i1, i2⟩ := ih (B0 ++ [x]) (by rw [eB]; simp)
      cases hk : ro_k x
      · have hf : ro_f x = true := by unfold ro_k at hk; unfold ro_f; simpa using hk
        have hs : ro_s x = true := by unfold ro_f at hf; simp only [Bool.and_eq_true] at hf; exact hf.1
        rw [List.filter_cons_of_neg (by simp [hk])]
        refine ⟨i1, ?_⟩
        rw [i2, ro_nUc, hs]
        rfl
      · rw [List.filter_cons_of_pos hk]
        have e2 : ro_nU (x :: T.filter ro_k) = ro_nU (x :: T) := by rw [ro_nUc, ro_nUc, i2]
        refine ⟨?_, e2⟩
        by_cases hd : ∃ y, y ∈ T ∧ ro_f y = true
        · obtain ⟨y, hy, fy⟩ := hd
          obtain ⟨D, T1, eT⟩ := List.append_of_mem hy
          have hs := ro_bef (A := B0 ++ x :: D) (C := T1) (e := y) (by rw [show (B0 ++ x :: D) ++ y :: T1 = R from by rw [eB, eT]; simp]; exact o) (by rw [show (B0 ++ x :: D) ++ y :: T1 = R from by rw [eB, eT]; simp]; exact ok) fy x (by simp)
          have h1 : ro_nU (x :: T.filter ro_k) = ro_nU (T.filter ro_k) := by rw [ro_nUc, hs]; rfl
          have h2 : ro_nO (x :: T.filter ro_k) = ro_nO (T.filter ro_k) + 1 := by rw [ro_nOc, hs]; rfl
          have h3 : ro_N (T.filter ro_k) ≤ ro_N (x :: T.filter ro_k) := ro_N_mo (fun r y hy u => ⟨y, List.mem_cons_of_mem _ hy, u⟩)
          omega
        · have hT : T.filter ro_k = T := by
            rw [List.filter_eq_self]
            intro y hy
            cases z : ro_k y
            · exact absurd ⟨y, hy, by unfold ro_k at z; unfold ro_f; simpa using z⟩ hd
            · rfl
          rw [hT]
          exact b B0 (x :: T) eB
  have := (key S0 A0 e0).1
  rw [eS] at this
  exact this
theorem ro_B_cut {A C R' : List ro_T} {x : ro_T} (e : R' = A ++ x :: C) (hC : ro_B C) (h : ∀ A2, (∃ A1, A = A1 ++ A2) → ro_nU (A2 ++ x :: C) ≤ 20 * (ro_nO (A2 ++ x :: C) + ro_N (A2 ++ x :: C))) : ro_B R' := by
  intro B S eS
  rw [e] at eS
  rcases List.append_eq_append_iff.mp eS with ⟨D, e1, e2⟩ | ⟨D, e1, e2⟩
  · cases D with
    | nil =>
      have : S = [] ++ x :: C := by simpa using e2.symm
      rw [this]
      exact h [] ⟨A, by simp⟩
    | cons y D =>
      have e3 : x = y ∧ C = D ++ S := by simpa using e2
      exact hC D S e3.2
  · rw [e2]
    exact h D ⟨B, e1⟩
theorem ro_B_suf {A C : List ro_T} (h : ro_B (A ++ C)) : ro_B C := fun B S e => h (A ++ B) S (by rw [e, List.append_assoc])
theorem ro_B_suf1 {A C : List ro_T} {x : ro_T} (h : ro_B (A ++ x :: C)) : ro_B C := ro_B_suf (A := A ++ [x]) (by simpa using h)
theorem ro_N_set {A C : List ro_T} {x y : ro_T} (h : ∀ z, ro_u z x = true → ro_u z y = true) : ro_N (A ++ x :: C) ≤ ro_N (A ++ y :: C) := by
  apply ro_N_mo
  intro r z hz u
  rcases List.mem_append.mp hz with h1 | h1
  · exact ⟨z, List.mem_append_left _ h1, u⟩
  · rcases List.mem_cons.mp h1 with h2 | h2
    · rw [h2] at u
      exact ⟨y, by simp, h r u⟩
    · exact ⟨z, by simp [h2], u⟩
end PRC
end
section
section PRD
/-! what a step does to the rows -/
theorem ro_fil0 {P : ro_T → Bool} {A : List ro_T} (h : ∀ a, a ∈ A → P a = false) : A.filter P = [] := by
  rw [List.filter_eq_nil_iff]
  intro a ha
  simp [h a ha]
theorem ro_own {r : Nat} {A C : List ro_T} {x : ro_T} (hA : ∀ a, a ∈ A → ro_u r a = false) (hx : ro_u r x = true) : (A ++ x :: C).filter (ro_u r) = x :: C.filter (ro_u r) := by
  rw [List.filter_append, ro_fil0 hA, List.filter_cons_of_pos hx, List.nil_append]
theorem ro_own' {r : Nat} {A C : List ro_T} {x : ro_T} (hA : ∀ a, a ∈ A → ro_u r a = false) (hx : ro_u r x = false) : (A ++ x :: C).filter (ro_u r) = C.filter (ro_u r) := by
  rw [List.filter_append, ro_fil0 hA, List.filter_cons_of_neg (by simp [hx]), List.nil_append]
theorem ro_oth {z : Nat} {A C : List ro_T} {x y : ro_T} (h : ro_u z y = ro_u z x) (ht : ro_t y = ro_t x) : ((A ++ y :: C).filter (ro_u z)).map ro_t = ((A ++ x :: C).filter (ro_u z)).map ro_t := by
  cases hx : ro_u z x
  · rw [hx] at h
    rw [List.filter_append, List.filter_append, List.filter_cons_of_neg (by simp [h]), List.filter_cons_of_neg (by simp [hx])]
  · rw [hx] at h
    rw [List.filter_append, List.filter_append, List.filter_cons_of_pos hx, List.filter_cons_of_pos h, List.map_append, List.map_append, List.map_cons, List.map_cons, ht]
theorem ro_O_set {r : Nat} {A C : List ro_T} {x y : ro_T} (o : ro_O (A ++ x :: C)) (hA : ∀ a, a ∈ A → ro_u r a = false) (h1 : ro_u r y = false) (h2 : ∀ z, z ≠ r → ro_u z y = ro_u z x) (h3 : ∀ z, ro_c z y = ro_c z x) : ro_O (A ++ y :: C) := by
  intro z hz
  have hp := o z hz
  rw [List.pairwise_append, List.pairwise_cons] at hp ⊢
  obtain ⟨p1, ⟨p2, p3⟩, p4⟩ := hp
  refine ⟨p1, ⟨?_, p3⟩, ?_⟩
  · intro c hc u1 c1
    by_cases e : z = r
    · rw [e, h1] at u1; exact absurd u1 (by decide)
    · rw [h2 z e] at u1
      exact p2 c hc u1 c1
  · intro a ha b hb u1 c1
    rcases List.mem_cons.mp hb with e | e
    · subst e
      by_cases e2 : z = r
      · rw [e2, hA a ha] at u1; exact absurd u1 (by decide)
      · rw [h2 z e2]
        exact p4 a ha x (by simp) u1 (by rw [← h3]; exact c1)
    · exact p4 a ha b (by simp [e]) u1 c1
theorem ro_A_set {A C : List ro_T} {x y : ro_T} (h : ro_A (A ++ x :: C)) (hy : ro_ok y) : ro_A (A ++ y :: C) := by
  intro z hz
  rcases List.mem_append.mp hz with h1 | h1
  · exact h z (by simp [h1])
  · rcases List.mem_cons.mp h1 with h2 | h2
    · rw [h2]; exact hy
    · exact h z (by simp [h2])
/-- what a sending finds -/
theorem ro_snd0 {r : Nat} {x : ro_T} (ok : ro_ok x) (hp : ro_p x = r) (hu : ro_u r x = true) : ro_s x = false ∧ ro_d x = false := by
  obtain ⟨-, -, a3, a4⟩ := ok
  have hq : (ro_q x == r) = false := by
    rw [beq_eq_false_iff_ne]
    omega
  have hs : ro_s x = false := by
    unfold ro_u at hu
    simpa [hp, hq] using hu
  refine ⟨hs, ?_⟩
  cases h : ro_d x
  · rfl
  · rw [a4 h] at hs; exact hs
theorem ro_snd1 {r : Nat} {x : ro_T} {v : Int32} (ok : ro_ok x) (hp : ro_p x = r) : ro_u r (ro_snd x v) = false := by
  obtain ⟨-, -, a3, a4⟩ := ok
  have hq : (ro_q x == r) = false := by
    rw [beq_eq_false_iff_ne]
    omega
  show ((ro_p x == r && !true) || (ro_q x == r && !ro_d x)) = false
  simp [hq]
theorem ro_snd2 {r : Nat} {x : ro_T} {v : Int32} (hp : ro_p x = r) : ∀ z, z ≠ r → ro_u z (ro_snd x v) = ro_u z x := by
  intro z hz
  show ((ro_p x == z && !true) || (ro_q x == z && !ro_d x)) = ((ro_p x == z && !ro_s x) || (ro_q x == z && !ro_d x))
  have : (ro_p x == z) = false := by
    rw [beq_eq_false_iff_ne]
    omega
  rw [this]
  rfl
theorem ro_rcv0 {r : Nat} {x : ro_T} (ok : ro_ok x) (hq : ro_q x = r) (hu : ro_u r x = true) : ro_d x = false := by
  obtain ⟨-, -, a3, a4⟩ := ok
  have hp : (ro_p x == r) = false := by
    rw [beq_eq_false_iff_ne]
    omega
  unfold ro_u at hu
  simpa [hp, hq] using hu
theorem ro_rcv1 {r : Nat} {x : ro_T} (ok : ro_ok x) (hq : ro_q x = r) : ro_u r (ro_rcv x) = false := by
  obtain ⟨-, -, a3, a4⟩ := ok
  have hp : (ro_p x == r) = false := by
    rw [beq_eq_false_iff_ne]
    omega
  show ((ro_p x == r && !ro_s x) || (ro_q x == r && !true)) = false
  simp [hp]
theorem ro_rcv2 {r : Nat} {x : ro_T} (hq : ro_q x = r) : ∀ z, z ≠ r → ro_u z (ro_rcv x) = ro_u z x := by
  intro z hz
  show ((ro_p x == z && !ro_s x) || (ro_q x == z && !true)) = ((ro_p x == z && !ro_s x) || (ro_q x == z && !ro_d x))
  have : (ro_q x == z) = false := by
    rw [beq_eq_false_iff_ne]
    omega
  rw [this]
  rfl
theorem ro_snd_B {r : Nat} {A C : List ro_T} {x : ro_T} {v : Int32} (hr : r < 3) (b : ro_B (A ++ x :: C)) (ok : ro_ok x) (hp : ro_p x = r) (hu : ro_u r x = true) : ro_B (A ++ ro_snd x v :: C) := by
  refine ro_B_cut rfl (ro_B_suf1 b) ?_
  rintro A2 ⟨A1, eA⟩
  have h0 := b A1 (A2 ++ x :: C) (by rw [eA, List.append_assoc])
  rw [ro_nUa, ro_nUc, ro_nOa, ro_nOc, (ro_snd0 ok hp hu).1] at h0
  rw [ro_nUa, ro_nUc, ro_nOa, ro_nOc, show ro_s (ro_snd x v) = true from rfl]
  have hz : ∀ z, z ≠ r → ro_n z (A2 ++ x :: C) ≤ ro_n z (A2 ++ ro_snd x v :: C) := by
    intro z hz
    apply ro_n_mo
    intro y hy u
    rcases List.mem_append.mp hy with h1 | h1
    · exact ⟨y, List.mem_append_left _ h1, u⟩
    · rcases List.mem_cons.mp h1 with h2 | h2
      · rw [h2, ← ro_snd2 (v := v) hp z hz] at u
        exact ⟨_, by simp, u⟩
      · exact ⟨y, by simp [h2], u⟩
  have z0 := hz 0
  have z1 := hz 1
  have z2 := hz 2
  have y0 := ro_n_le 0 (A2 ++ x :: C)
  have y1 := ro_n_le 1 (A2 ++ x :: C)
  have y2 := ro_n_le 2 (A2 ++ x :: C)
  have : ro_N (A2 ++ x :: C) ≤ ro_N (A2 ++ ro_snd x v :: C) + 1 := by
    unfold ro_N
    have : r = 0 ∨ r = 1 ∨ r = 2 := by omega
    rcases this with e | e | e
    · have := z1 (by omega); have := z2 (by omega); omega
    · have := z0 (by omega); have := z2 (by omega); omega
    · have := z0 (by omega); have := z1 (by omega); omega
  simp only [if_true, if_false, Bool.false_eq_true] at h0 ⊢
  omega
theorem ro_rcv_B {A C : List ro_T} {x : ro_T} (b : ro_B (A ++ x :: C)) (o : ro_O (A ++ ro_rcv x :: C)) (k : ro_A (A ++ ro_rcv x :: C)) (hs : ro_s x = true) : ro_B (A ++ ro_rcv x :: C) := by
  have hb := ro_B_suf1 b
  refine ro_B_cut rfl hb ?_
  rintro A2 ⟨A1, eA⟩
  have hA := ro_bef o k (show ro_f (ro_rcv x) = true from by show (ro_s x && true) = true; rw [hs]; rfl)
  have hA2 : ro_nU A2 = 0 := ro_nU0 (fun a ha => hA a (by rw [eA]; simp [ha]))
  have h0 := hb [] C rfl
  rw [ro_nUa, ro_nUc, ro_nOa, ro_nOc, hA2, show ro_s (ro_rcv x) = ro_s x from rfl, hs]
  have h3 : ro_N C ≤ ro_N (A2 ++ ro_rcv x :: C) := ro_N_mo (fun r y hy u => ⟨y, by simp [hy], u⟩)
  simp only [if_true]
  omega
def ro_new (x : ro_T) : Prop := ro_s x = false ∧ ro_d x = false
theorem ro_new_u {x : ro_T} (h : ro_new x) (r : Nat) : ro_u r x = ro_c r x := by
  unfold ro_u ro_c
  rw [h.1, h.2]
  simp
theorem ro_new_w {x : ro_T} (h : ro_new x) (p q : Nat) : ro_w p q x = false := by
  unfold ro_w
  rw [h.1]
  simp
theorem ro_app_w {R E : List ro_T} (h : ∀ e, e ∈ E → ro_new e) (p q : Nat) : (R ++ E).filter (ro_w p q) = R.filter (ro_w p q) := by
  rw [List.filter_append, ro_fil0 (A := E) (fun e he => ro_new_w (h e he) p q), List.append_nil]
theorem ro_app_O {R E : List ro_T} (o : ro_O R) (h : ∀ e, e ∈ E → ro_new e) : ro_O (R ++ E) := by
  intro z hz
  rw [List.pairwise_append]
  refine ⟨o z hz, ?_, ?_⟩
  · apply List.pairwise_of_forall_mem_list
    intro a ha b hb u c
    rw [ro_new_u (h b hb)]
    exact c
  · intro a ha b hb u c
    rw [ro_new_u (h b hb)]
    exact c
theorem ro_app_A {R E : List ro_T} (o : ro_A R) (h : ∀ e, e ∈ E → ro_ok e) : ro_A (R ++ E) := by
  intro x hx
  rcases List.mem_append.mp hx with h1 | h1
  · exact o x h1
  · exact h x h1
theorem ro_nU_le (R : List ro_T) : ro_nU R ≤ R.length := List.countP_le_length
theorem ro_app_B {R E : List ro_T} {e : ro_T} {r : Nat} (b : ro_B R) (hr : r < 3) (h0 : ∀ x, x ∈ R → ro_u r x = false) (hE : (E ++ [e]).length ≤ 20) (he : ro_u r e = true) : ro_B (R ++ (E ++ [e])) := by
  intro A S eS
  have hN : ∀ T, e ∈ T → 1 ≤ ro_N T := by
    intro T hT
    have := ro_n_1 hT he
    unfold ro_N
    have : r = 0 ∨ r = 1 ∨ r = 2 := by omega
    rcases this with z | z | z <;> subst z <;> omega
  rcases List.append_eq_append_iff.mp eS with ⟨D, e1, e2⟩ | ⟨D, e1, e2⟩
  · -- S lies in the new ones
    rcases List.eq_nil_or_concat S with z | ⟨S', y, z⟩
    · subst z; simp [ro_nU]
    · rw [List.concat_eq_append] at z
      subst z
      have : y = e := by
        have := congrArg List.getLast? e2
        simp at this
        exact this.symm
      subst this
      have h1 := hN (S' ++ [y]) (by simp)
      have h2 := ro_nU_le (S' ++ [y])
      have h3 : (S' ++ [y]).length ≤ 20 := by
        have := congrArg List.length e2
        rw [List.length_append (as := D)] at this
        omega
      omega
  · rw [e2, ro_nUa, ro_nOa]
    have h1 := b A D e1
    have h2 := ro_nU_le (E ++ [e])
    have hD : ro_n r D = 0 := ro_n_0 (fun x hx => h0 x (by rw [e1]; simp [hx]))
    have hD1 : ro_n r (D ++ (E ++ [e])) = 1 := ro_n_1 (x := e) (by simp) he
    have hm : ∀ z, ro_n z D ≤ ro_n z (D ++ (E ++ [e])) := fun z => ro_n_mo (fun x hx u => ⟨x, by simp [hx], u⟩)
    have : ro_N D + 1 ≤ ro_N (D ++ (E ++ [e])) := by
      unfold ro_N
      have m0 := hm 0
      have m1 := hm 1
      have m2 := hm 2
      have : r = 0 ∨ r = 1 ∨ r = 2 := by omega
      rcases this with z | z | z <;> subst z <;> omega
    omega
/-- the sent ones by their ways -/
theorem ro_sum {R : List ro_T} (ok : ro_A R) : ro_nO R = (R.filter (ro_w 0 1)).length + (R.filter (ro_w 0 2)).length + (R.filter (ro_w 1 0)).length + (R.filter (ro_w 1 2)).length + (R.filter (ro_w 2 0)).length + (R.filter (ro_w 2 1)).length + R.countP ro_f := by
  induction R with
  | nil => rfl
  | cons x T ih =>
    have ih := ih (fun y hy => ok y (by simp [hy]))
    obtain ⟨a1, a2, a3, a4⟩ := ok x (by simp)
    rw [ro_nOc, List.countP_cons]
    cases hs : ro_s x
    · have hw : ∀ p q, ro_w p q x = false := fun p q => by unfold ro_w; simp [hs]
      have hf : ro_f x = false := by unfold ro_f; simp [hs]
      simp only [List.filter_cons, hw, hf, if_false, Bool.false_eq_true]
      omega
    · cases hd : ro_d x
      · have hf : ro_f x = false := by unfold ro_f; simp [hd]
        have hw : ∀ p q, ro_w p q x = (ro_p x == p && ro_q x == q) := fun p q => by unfold ro_w; simp [hs, hd]
        have hp : ro_p x = 0 ∨ ro_p x = 1 ∨ ro_p x = 2 := by omega
        have hq : ro_q x = 0 ∨ ro_q x = 1 ∨ ro_q x = 2 := by omega
        rcases hp with ep | ep | ep <;> rcases hq with eq | eq | eq
        all_goals first
          | exact absurd (ep.trans eq.symm) a3
          | (simp [List.filter_cons, hw, hf, ep, eq]; omega)
      · have hw : ∀ p q, ro_w p q x = false := fun p q => by unfold ro_w; simp [hd]
        have hf : ro_f x = true := by unfold ro_f; simp [hs, hd]
        simp only [List.filter_cons, hw, hf, if_false, if_true, Bool.false_eq_true]
        omega
theorem ro_len (R : List ro_T) : R.length = ro_nU R + ro_nO R := by
  induction R with
  | nil => rfl
  | cons x T ih =>
    rw [ro_nUc, ro_nOc, List.length_cons]
    cases ro_s x <;> simp <;> omega
theorem ro_585 {R : List ro_T} (ok : ro_A R) (b : ro_B R) (hw : ∀ p q, (R.filter (ro_w p q)).length ≤ 4) (hf : R.countP ro_f ≤ 1) : R.length ≤ 585 := by
  have h1 := b [] R rfl
  have h2 := ro_sum ok
  have h3 := ro_N_3 R
  have h4 := ro_len R
  have w1 := hw 0 1
  have w2 := hw 0 2
  have w3 := hw 1 0
  have w4 := hw 1 2
  have w5 := hw 2 0
  have w6 := hw 2 1
  omega
end PRD
end
section
section PRE
/-! the run: rows R, the path's end at a, the walk went on at w after the last pick; each role's place and pick -/
def pr_run (g : pg_T) (R : List ro_T) (a w : Nat) (pl : Nat → Nat) (pk : Nat → Option Nat) : Prop :=
  a < pg_n g ∧ pg_k g a ≤ 2 ∧ w < pg_n g ∧ pg_dr g w a ∧ ro_O R ∧ ro_A R ∧ (∀ r, r < 3 → pl r < pg_n g ∧ pr_pth g r a ((R.filter (ro_u r)).map ro_t) (pl r) (pk r)) ∧ (∀ p q, (R.filter (ro_w p q)).length ≤ 4)
def pr_fu {α : Type} (f : Nat → α) (r : Nat) (y : α) : Nat → α := fun j => if j = r then y else f j
theorem pr_fus {α : Type} (f : Nat → α) (r : Nat) (y : α) : pr_fu f r y r = y := if_pos rfl
theorem pr_fun {α : Type} (f : Nat → α) {r j : Nat} (y : α) (h : j ≠ r) : pr_fu f r y j = f j := if_neg h
theorem pr_run_go {g : pg_T} {R : List ro_T} {a w : Nat} {pl : Nat → Nat} {pk : Nat → Option Nat} (ok : pg_ok g) (h : pr_run g R a w pl pk) (ka : pg_k g a = 1) (v : Int32) :
    pr_run g (R ++ [(pg_f g a, pg_t g a, pg_l g a, v, false, false)]) (pg_w g a) w pl pk := by
  obtain ⟨h1, h2, h3, h4, h5, h6, h7, h8⟩ := h
  have hnew : ∀ e, e ∈ [((pg_f g a, pg_t g a, pg_l g a, v, false, false) : ro_T)] → ro_new e := by
    intro e he
    rw [List.mem_singleton] at he
    subst he
    exact ⟨rfl, rfl⟩
  refine ⟨pg_wlt ok h1, pg_w2 ok h1, h3, pg_dr_m h4 ka, ro_app_O h5 hnew, ro_app_A h6 ?_, ?_, ?_⟩
  · intro e he
    rw [List.mem_singleton] at he
    subst he
    have := (ok.2.2.1 a h1).2.2.2.1 ka
    exact ⟨this.1, this.2.1, this.2.2, fun z => z⟩
  · intro r hr
    obtain ⟨p1, p2⟩ := h7 r hr
    refine ⟨p1, ?_⟩
    have := pr_pth_msg ka p2
    rw [List.filter_append, List.map_append]
    have e : ([((pg_f g a, pg_t g a, pg_l g a, v, false, false) : ro_T)].filter (ro_u r)).map ro_t = (if pg_f g a = r ∨ pg_t g a = r then [(pg_f g a, pg_t g a, pg_l g a)] else []) := by
      have hu : ro_u r (pg_f g a, pg_t g a, pg_l g a, v, false, false) = (pg_f g a == r || pg_t g a == r) := ro_new_u ⟨rfl, rfl⟩ r
      by_cases c : pg_f g a = r ∨ pg_t g a = r
      · rw [if_pos c, List.filter_cons_of_pos (by rw [hu]; simpa using c)]
        rfl
      · rw [if_neg c, List.filter_cons_of_neg (by rw [hu]; simpa using c)]
        rfl
    rw [e]
    exact this
  · intro p q
    rw [ro_app_w hnew]
    exact h8 p q
theorem pr_run_fg {g : pg_T} {R : List ro_T} {a w : Nat} {pl : Nat → Nat} {pk : Nat → Option Nat} (h : pr_run g R a w pl pk) : pr_run g (R.filter ro_k) a w pl pk := by
  obtain ⟨h1, h2, h3, h4, h5, h6, h7, h8⟩ := h
  refine ⟨h1, h2, h3, h4, ro_fO h5, ro_fA h6, ?_, ?_⟩
  · intro r hr
    rw [ro_fu]
    exact h7 r hr
  · intro p q
    rw [ro_fw]
    exact h8 p q
theorem ro_mid {P : ro_T → Bool} {A C : List ro_T} {x y : ro_T} (hx : P x = false) (hy : P y = false) : (A ++ y :: C).filter P = (A ++ x :: C).filter P := by
  rw [List.filter_append, List.filter_append, List.filter_cons_of_neg (by simp [hy]), List.filter_cons_of_neg (by simp [hx])]
theorem ro_snd_w {r : Nat} {A C : List ro_T} {x : ro_T} {v : Int32} (o : ro_O (A ++ x :: C)) (k : ro_A (A ++ x :: C)) (hr : r < 3) (hp : ro_p x = r) (hu : ro_u r x = true) :
    (A ++ ro_snd x v :: C).filter (ro_w r (ro_q x)) = (A ++ x :: C).filter (ro_w r (ro_q x)) ++ [ro_snd x v] := by
  have kx := k x (by simp)
  obtain ⟨hs, hd⟩ := ro_snd0 kx hp hu
  have hC : C.filter (ro_w r (ro_q x)) = [] := by
    apply ro_fil0
    intro c hc
    cases hw : ro_w r (ro_q x) c
    · rfl
    · exfalso
      unfold ro_w at hw
      simp only [Bool.and_eq_true, beq_iff_eq, Bool.not_eq_true'] at hw
      obtain ⟨⟨⟨w1, w2⟩, w3⟩, w4⟩ := hw
      have hp2 := (List.pairwise_cons.mp (List.pairwise_append.mp (o r hr)).2.1).1 c hc hu (by unfold ro_c; simp [w1])
      have := ro_snd0 (k c (by simp [hc])) w1 hp2
      rw [w3] at this
      exact absurd this.1 (by decide)
  have h1 : ro_w r (ro_q x) x = false := by unfold ro_w; simp [hs]
  have h2 : ro_w r (ro_q x) (ro_snd x v) = true := by
    show (ro_p x == r && ro_q x == ro_q x && true && !ro_d x) = true
    simp [hp, hd]
  rw [List.filter_append, List.filter_append, List.filter_cons_of_pos h2, List.filter_cons_of_neg (by simp [h1]), hC, List.append_nil]
theorem ro_snd_wo {r p q : Nat} {A C : List ro_T} {x : ro_T} {v : Int32} (kx : ro_ok x) (hp : ro_p x = r) (hu : ro_u r x = true) (hne : ¬ (p = r ∧ q = ro_q x)) :
    (A ++ ro_snd x v :: C).filter (ro_w p q) = (A ++ x :: C).filter (ro_w p q) := by
  obtain ⟨hs, hd⟩ := ro_snd0 kx hp hu
  apply ro_mid
  · unfold ro_w; simp [hs]
  · show (ro_p x == p && ro_q x == q && true && !ro_d x) = false
    by_cases e1 : ro_p x = p
    · have : ro_q x ≠ q := fun e2 => hne ⟨by omega, e2.symm⟩
      simp [this]
    · simp [e1]
theorem pr_les_ok {p : Nat} (h : p < 3) : pr_les p < 3 ∧ p ≠ pr_les p := by
  have : p = 0 ∨ p = 1 ∨ p = 2 := by omega
  rcases this with e | e | e <;> subst e <;> decide
theorem pr_gre_ok {p : Nat} (h : p < 3) : pr_gre p < 3 ∧ p ≠ pr_gre p := by
  have : p = 0 ∨ p = 1 ∨ p = 2 := by omega
  rcases this with e | e | e <;> subst e <;> decide
theorem pr_run_pick {g : pg_T} {R : List ro_T} {a w c p : Nat} {pl : Nat → Nat} {pk : Nat → Option Nat} (ok : pg_ok g) (h : pr_run g R a w pl pk) (ka : pg_k g a = 2) (ep : pg_f g a = p) (hc : c < 2) (hR : ∀ x, x ∈ R → ro_u p x = false) (hcap : (R.filter (ro_w p (pr_les p))).length < 4) (v v0 v2 : Int32) :
    pr_run g (R ++ ro_snd (p, pr_les p, nI c, v0, false, false) v :: [(p, pr_gre p, nI c, v2, false, false)]) (pg_s g (pg_b g a c)) (pg_b g a c) pl (pr_fu pk p (some c)) := by
  obtain ⟨h1, h2, h3, h4, h5, h6, h7, h8⟩ := h
  have hf : p < 3 := by rw [← ep]; exact (ok.2.2.1 a h1).2.2.2.2.1 ka
  have hpp : p = 0 ∨ p = 1 ∨ p = 2 := by omega
  have hnew : ∀ e, e ∈ [((p, pr_les p, nI c, v0, false, false) : ro_T), (p, pr_gre p, nI c, v2, false, false)] → ro_new e := by
    intro e he
    rw [List.mem_cons, List.mem_singleton] at he
    rcases he with he | he <;> subst he <;> exact ⟨rfl, rfl⟩
  have hoe : ∀ e, e ∈ [((p, pr_les p, nI c, v0, false, false) : ro_T), (p, pr_gre p, nI c, v2, false, false)] → ro_ok e := by
    intro e he
    rw [List.mem_cons, List.mem_singleton] at he
    rcases he with he | he <;> subst he
    · exact ⟨hf, (pr_les_ok hf).1, (pr_les_ok hf).2, fun z => z⟩
    · exact ⟨hf, (pr_gre_ok hf).1, (pr_gre_ok hf).2, fun z => z⟩
  have kx : ro_ok (p, pr_les p, nI c, v0, false, false) := hoe _ (by simp)
  have hu : ro_u p (p, pr_les p, nI c, v0, false, false) = true := by rw [ro_new_u ⟨rfl, rfl⟩]; simp [ro_c, ro_p]
  have o1 : ro_O (R ++ (p, pr_les p, nI c, v0, false, false) :: [(p, pr_gre p, nI c, v2, false, false)]) := ro_app_O h5 hnew
  have a1 : ro_A (R ++ (p, pr_les p, nI c, v0, false, false) :: [(p, pr_gre p, nI c, v2, false, false)]) := ro_app_A h6 hoe
  refine ⟨pg_slt ok (pg_blt ok h1 c), pg_s2 ok (pg_blt ok h1 c), pg_blt ok h1 c, pg_dr_s g _, ro_O_set o1 hR (ro_snd1 kx rfl) (ro_snd2 rfl) (fun _ => rfl), ro_A_set a1 ⟨kx.1, kx.2.1, kx.2.2.1, fun _ => rfl⟩, ?_, ?_⟩
  · intro r hr
    obtain ⟨p1, p2⟩ := h7 r hr
    refine ⟨p1, ?_⟩
    by_cases e : r = p
    · subst e
      rw [pr_fus, ro_own' hR (ro_snd1 kx rfl)]
      rw [ro_fil0 hR] at p2
      have := pr_pth_own ka ep hc p2.2
      rw [List.filter_cons_of_pos (by rw [ro_new_u ⟨rfl, rfl⟩]; simp [ro_c, ro_p])]
      exact this
    · rw [pr_fun _ _ e, ro_oth (x := (p, pr_les p, nI c, v0, false, false)) (ro_snd2 (r := p) rfl r e) rfl, List.filter_append, List.map_append]
      have := pr_pth_oth ka (by omega) hc p2
      rw [ep] at this
      have e2 : ([((p, pr_les p, nI c, v0, false, false) : ro_T), (p, pr_gre p, nI c, v2, false, false)].filter (ro_u r)).map ro_t = [(p, r, nI c)] := by
        have i2 : r = 0 ∨ r = 1 ∨ r = 2 := by omega
        rcases hpp with z | z | z <;> rcases i2 with y | y | y <;> subst z <;> subst y <;> first | exact absurd rfl e | rfl
      rw [e2]
      exact this
  · intro x y
    by_cases e : x = p ∧ y = pr_les p
    · obtain ⟨rfl, rfl⟩ := e
      have := ro_snd_w (v := v) o1 a1 hf rfl hu
      have this : (R ++ ro_snd (x, pr_les x, nI c, v0, false, false) v :: [(x, pr_gre x, nI c, v2, false, false)]).filter (ro_w x (pr_les x)) = _ := this
      rw [this, ro_app_w hnew, List.length_append]
      show _ + 1 ≤ 4
      exact hcap
    · rw [ro_snd_wo kx rfl hu e, ro_app_w hnew]
      exact h8 x y
theorem pr_run_snd {g : pg_T} {A C : List ro_T} {x : ro_T} {a w r t : Nat} {pl : Nat → Nat} {pk : Nat → Option Nat} {pk1 : Option Nat} (h : pr_run g (A ++ x :: C) a w pl pk) (hr : r < 3) (hA : ∀ y, y ∈ A → ro_u r y = false) (hu : ro_u r x = true) (hp : ro_p x = r)
    (hcap : ((A ++ x :: C).filter (ro_w r (ro_q x))).length < 4) (ht : t < pg_n g) (hpt : pr_pth g r a ((C.filter (ro_u r)).map ro_t) t pk1) (v : Int32) : pr_run g (A ++ ro_snd x v :: C) a w (pr_fu pl r t) (pr_fu pk r pk1) := by
  obtain ⟨h1, h2, h3, h4, h5, h6, h7, h8⟩ := h
  have kx := h6 x (by simp)
  refine ⟨h1, h2, h3, h4, ro_O_set h5 hA (ro_snd1 kx hp) (ro_snd2 hp) (fun _ => rfl), ro_A_set h6 ⟨kx.1, kx.2.1, kx.2.2.1, fun _ => rfl⟩, ?_, ?_⟩
  · intro z hz
    by_cases e : z = r
    · subst e
      rw [pr_fus, pr_fus, ro_own' hA (ro_snd1 kx hp)]
      exact ⟨ht, hpt⟩
    · rw [pr_fun _ _ e, pr_fun _ _ e, ro_oth (ro_snd2 hp z e) rfl]
      exact h7 z hz
  · intro p q
    by_cases e : p = r ∧ q = ro_q x
    · obtain ⟨rfl, rfl⟩ := e
      rw [ro_snd_w h5 h6 hr hp hu, List.length_append]
      show _ + 1 ≤ 4
      omega
    · rw [ro_snd_wo kx hp hu e]
      exact h8 p q
/-- the first one that r has not done, received by r: sent just if something is on that way -/
theorem ro_rcv_w {r : Nat} {A C : List ro_T} {x : ro_T} (o : ro_O (A ++ x :: C)) (k : ro_A (A ++ x :: C)) (hA : ∀ y, y ∈ A → ro_u r y = false) (hq : ro_q x = r) (hu : ro_u r x = true) :
    (ro_s x = true → (A ++ x :: C).filter (ro_w (ro_p x) r) = x :: (A ++ ro_rcv x :: C).filter (ro_w (ro_p x) r)) ∧ (ro_s x = false → (A ++ x :: C).filter (ro_w (ro_p x) r) = []) := by
  have kx := k x (by simp)
  have hd := ro_rcv0 kx hq hu
  have hA0 : A.filter (ro_w (ro_p x) r) = [] := by
    apply ro_fil0
    intro y hy
    have := hA y hy
    cases hw : ro_w (ro_p x) r y
    · rfl
    · unfold ro_w at hw
      simp only [Bool.and_eq_true, beq_iff_eq, Bool.not_eq_true'] at hw
      unfold ro_u at this
      simp [hw.1.1.2, hw.2] at this
  refine ⟨fun hs => ?_, fun hs => ?_⟩
  · have h1 : ro_w (ro_p x) r x = true := by unfold ro_w; simp [hs, hd, hq]
    have h2 : ro_w (ro_p x) r (ro_rcv x) = false := by
      show (ro_p x == ro_p x && ro_q x == r && ro_s x && !true) = false
      simp
    rw [List.filter_append, List.filter_append, hA0, List.filter_cons_of_pos h1, List.filter_cons_of_neg (by simp [h2])]
    rfl
  · have h1 : ro_w (ro_p x) r x = false := by unfold ro_w; simp [hs]
    rw [List.filter_append, hA0, List.filter_cons_of_neg (by simp [h1]), List.nil_append]
    apply ro_fil0
    intro c hc
    cases hw : ro_w (ro_p x) r c
    · rfl
    · exfalso
      unfold ro_w at hw
      simp only [Bool.and_eq_true, beq_iff_eq, Bool.not_eq_true'] at hw
      obtain ⟨⟨⟨w1, w2⟩, w3⟩, w4⟩ := hw
      have hup : ro_u (ro_p x) x = true := by unfold ro_u; simp [hs]
      have hp2 := (List.pairwise_cons.mp (List.pairwise_append.mp (o (ro_p x) kx.1)).2.1).1 c hc hup (by unfold ro_c; simp [w1])
      have := ro_snd0 (k c (by simp [hc])) w1 hp2
      rw [w3] at this
      exact absurd this.1 (by decide)
theorem ro_rcv_wo {r p q : Nat} {A C : List ro_T} {x : ro_T} (hq : ro_q x = r) (hne : ¬ (p = ro_p x ∧ q = r)) :
    (A ++ ro_rcv x :: C).filter (ro_w p q) = (A ++ x :: C).filter (ro_w p q) := by
  apply ro_mid
  · unfold ro_w
    by_cases e1 : ro_p x = p
    · have : ro_q x ≠ q := fun e2 => hne ⟨e1.symm, by omega⟩
      simp [this]
    · simp [e1]
  · show (ro_p x == p && ro_q x == q && ro_s x && !true) = false
    simp
theorem pr_run_rcv {g : pg_T} {A C : List ro_T} {x : ro_T} {a w r t : Nat} {pl : Nat → Nat} {pk : Nat → Option Nat} {pk1 : Option Nat} (h : pr_run g (A ++ x :: C) a w pl pk) (hr : r < 3) (hA : ∀ y, y ∈ A → ro_u r y = false) (hu : ro_u r x = true) (hq : ro_q x = r) (hs : ro_s x = true)
    (ht : t < pg_n g) (hpt : pr_pth g r a ((C.filter (ro_u r)).map ro_t) t pk1) : pr_run g (A ++ ro_rcv x :: C) a w (pr_fu pl r t) (pr_fu pk r pk1) := by
  obtain ⟨h1, h2, h3, h4, h5, h6, h7, h8⟩ := h
  have kx := h6 x (by simp)
  refine ⟨h1, h2, h3, h4, ro_O_set h5 hA (ro_rcv1 kx hq) (ro_rcv2 hq) (fun _ => rfl), ro_A_set h6 ⟨kx.1, kx.2.1, kx.2.2.1, fun _ => hs⟩, ?_, ?_⟩
  · intro z hz
    by_cases e : z = r
    · subst e
      rw [pr_fus, pr_fus, ro_own' hA (ro_rcv1 kx hq)]
      exact ⟨ht, hpt⟩
    · rw [pr_fun _ _ e, pr_fun _ _ e, ro_oth (ro_rcv2 hq z e) rfl]
      exact h7 z hz
  · intro p q
    by_cases e : p = ro_p x ∧ q = r
    · obtain ⟨rfl, rfl⟩ := e
      have e1 := (ro_rcv_w h5 h6 hA hq hu).1 hs
      have e2 := h8 (ro_p x) q
      rw [e1, List.length_cons] at e2
      omega
    · rw [ro_rcv_wo hq e]
      exact h8 p q
/-- nothing left for r: nothing is on its way to r -/
theorem ro_none_w {r p : Nat} {R : List ro_T} (h : ∀ x, x ∈ R → ro_u r x = false) : R.filter (ro_w p r) = [] := by
  apply ro_fil0
  intro y hy
  have := h y hy
  cases hw : ro_w p r y
  · rfl
  · unfold ro_w at hw
    simp only [Bool.and_eq_true, beq_iff_eq, Bool.not_eq_true'] at hw
    unfold ro_u at this
    simp [hw.1.1.2, hw.2] at this
end PRE
end
section
section PRF
/-! the draft: kinds, senders, receivers, numbers, first, second, around -/
abbrev dd_T : Type := (Nat → Nat) × (Nat → Nat) × (Nat → Nat) × (Nat → Nat) × (Nat → Nat) × (Nat → Nat) × (Nat → Option Nat)
def dd_k (d : dd_T) : Nat → Nat := d.1
def dd_f (d : dd_T) : Nat → Nat := d.2.1
def dd_t (d : dd_T) : Nat → Nat := d.2.2.1
def dd_n (d : dd_T) : Nat → Nat := d.2.2.2.1
def dd_1 (d : dd_T) : Nat → Nat := d.2.2.2.2.1
def dd_2 (d : dd_T) : Nat → Nat := d.2.2.2.2.2.1
def dd_p (d : dd_T) : Nat → Option Nat := d.2.2.2.2.2.2
/-- one term of the draft -/
def dd_at (d : dd_T) (m i : Nat) : Prop :=
  dd_k d i ≤ 4 ∧ (dd_k d i = 1 → dd_f d i < 3 ∧ dd_t d i < 3 ∧ dd_f d i ≠ dd_t d i) ∧ (dd_k d i = 2 → dd_f d i < 3) ∧ (1 ≤ dd_k d i → dd_k d i ≤ 3 → dd_1 d i < i ∧ dd_2 d i < i)
  ∧ (dd_k d i = 0 ∨ dd_k d i = 4 → dd_1 d i = i) ∧ (dd_k d i ≠ 2 → dd_2 d i = dd_1 d i)
  ∧ (∀ p, dd_p d i = some p → i < p ∧ p < m ∧ 1 ≤ dd_k d p ∧ dd_k d p ≤ 3 ∧ (dd_k d p = 3 → dd_1 d p = i))
def dd_ok (d : dd_T) (m e : Nat) (st : Nat → Nat) : Prop :=
  m ≤ 20 ∧ e ≤ m ∧ (0 < m → 0 < e) ∧ (0 < e → st (e - 1) + 1 = m) ∧ (∀ i, i < e → st i < m ∧ dd_p d (st i) = none) ∧ (∀ i j, i < j → j < e → st i ≠ st j) ∧ (∀ i, i < m → dd_at d m i)
def dd_a (st : Nat → Nat) (m e q : Nat) : Nat := if 0 < q then st (e - q) else m
def dd_b (st : Nat → Nat) (m e q : Nat) : Nat := if 1 < q then st (e - q + 1) else dd_a st m e q
def dd_put (d : dd_T) (m k f t n a b : Nat) : dd_T :=
  (pr_fu (dd_k d) m k, pr_fu (dd_f d) m f, pr_fu (dd_t d) m t, pr_fu (dd_n d) m n, pr_fu (dd_1 d) m a, pr_fu (dd_2 d) m b, pr_fu (pr_fu (pr_fu (dd_p d) a (some m)) b (some m)) m none)
def dd_kq (k f t q : Nat) : Prop := k ≤ 4 ∧ (q = 0 → k = 0 ∨ k = 4) ∧ (q = 1 → k = 1 ∨ k = 3) ∧ (q = 2 → k = 2) ∧ q ≤ 2 ∧ (k = 1 → f < 3 ∧ t < 3 ∧ f ≠ t) ∧ (k = 2 → f < 3)
theorem dd_push {d : dd_T} {m e : Nat} {st : Nat → Nat} (ok : dd_ok d m e st) (hm : m < 20) {q k f t n : Nat} (hq : q ≤ e) (hk : dd_kq k f t q) :
    dd_ok (dd_put d m k f t n (dd_a st m e q) (dd_b st m e q)) (m + 1) (e - q + 1) (pr_fu st (e - q) m) := by
  obtain ⟨o1, o2, o3, o4, o5, o6, o7⟩ := ok
  obtain ⟨k1, k2, k3, k4, k5, k6, k7⟩ := hk
  have ha : dd_a st m e q ≤ m ∧ (0 < q → dd_a st m e q < m ∧ dd_p d (dd_a st m e q) = none) ∧ (q = 0 → dd_a st m e q = m) ∧ (0 < q → dd_a st m e q = st (e - q)) := by
    unfold dd_a
    by_cases c : 0 < q
    · rw [if_pos c]
      have := o5 (e - q) (by omega)
      exact ⟨by omega, fun _ => this, by omega, fun _ => rfl⟩
    · rw [if_neg c]
      exact ⟨by omega, by omega, fun _ => rfl, by omega⟩
  have hb : dd_b st m e q ≤ m ∧ (0 < q → dd_b st m e q < m ∧ dd_p d (dd_b st m e q) = none) ∧ (q = 0 → dd_b st m e q = m) ∧ (q ≠ 2 → dd_b st m e q = dd_a st m e q) ∧ (q = 2 → dd_b st m e q = st (e - q + 1)) := by
    unfold dd_b
    by_cases c : 1 < q
    · rw [if_pos c]
      have := o5 (e - q + 1) (by omega)
      exact ⟨by omega, fun _ => this, by omega, by omega, fun _ => rfl⟩
    · rw [if_neg c]
      exact ⟨ha.1, ha.2.1, ha.2.2.1, fun _ => rfl, by omega⟩
  generalize ea : dd_a st m e q = a at ha hb ⊢
  generalize eb : dd_b st m e q = b at hb ⊢
  have hp : ∀ i, i < m → dd_p (dd_put d m k f t n a b) i = if i = a ∨ i = b then some m else dd_p d i := by
    intro i hi
    show pr_fu (pr_fu (pr_fu (dd_p d) a (some m)) b (some m)) m none i = _
    rw [pr_fun _ _ (by omega)]
    by_cases c : i = b
    · rw [c, pr_fus, if_pos (Or.inr rfl)]
    · rw [pr_fun _ _ c]
      by_cases c2 : i = a
      · rw [c2, pr_fus, if_pos (Or.inl rfl)]
      · rw [pr_fun _ _ c2, if_neg (by omega)]
  have hpm : dd_p (dd_put d m k f t n a b) m = none := pr_fus _ _ _
  have hkm : dd_k (dd_put d m k f t n a b) m = k := pr_fus _ _ _
  have hki : ∀ i, i < m → dd_k (dd_put d m k f t n a b) i = dd_k d i := fun i hi => pr_fun _ _ (by omega)
  have h1m : dd_1 (dd_put d m k f t n a b) m = a := pr_fus _ _ _
  have h1i : ∀ i, i < m → dd_1 (dd_put d m k f t n a b) i = dd_1 d i := fun i hi => pr_fun _ _ (by omega)
  have h2m : dd_2 (dd_put d m k f t n a b) m = b := pr_fus _ _ _
  have h2i : ∀ i, i < m → dd_2 (dd_put d m k f t n a b) i = dd_2 d i := fun i hi => pr_fun _ _ (by omega)
  have hfm : dd_f (dd_put d m k f t n a b) m = f := pr_fus _ _ _
  have hfi : ∀ i, i < m → dd_f (dd_put d m k f t n a b) i = dd_f d i := fun i hi => pr_fun _ _ (by omega)
  have htm : dd_t (dd_put d m k f t n a b) m = t := pr_fus _ _ _
  have hti : ∀ i, i < m → dd_t (dd_put d m k f t n a b) i = dd_t d i := fun i hi => pr_fun _ _ (by omega)
  refine ⟨by omega, by omega, by omega, ?_, ?_, ?_, ?_⟩
  · intro _
    rw [show e - q + 1 - 1 = e - q from by omega, pr_fus]
  · intro i hi
    by_cases c : i = e - q
    · rw [c, pr_fus]
      exact ⟨by omega, hpm⟩
    · rw [pr_fun _ _ c]
      obtain ⟨s1, s2⟩ := o5 i (by omega)
      refine ⟨by omega, ?_⟩
      rw [hp _ s1, if_neg, s2]
      intro z
      by_cases q0 : q = 0
      · have := ha.2.2.1 q0; have := hb.2.2.1 q0; omega
      · have e1 := ha.2.2.2 (by omega)
        have n1 := o6 i (e - q) (by omega) (by omega)
        by_cases q2 : q = 2
        · have e2 := hb.2.2.2.2 q2
          have n2 := o6 i (e - q + 1) (by omega) (by omega)
          omega
        · have e2 := hb.2.2.2.1 q2
          omega
  · intro i j hij hj
    by_cases c : j = e - q
    · rw [c, pr_fus, pr_fun _ _ (by omega)]
      have := (o5 i (by omega)).1
      omega
    · rw [pr_fun _ _ c, pr_fun _ _ (by omega)]
      exact o6 i j hij (by omega)
  · intro i hi
    unfold dd_at
    by_cases c : i = m
    · subst c
      rw [hkm, h1m, h2m, hfm, htm, hpm]
      refine ⟨k1, k6, k7, ?_, ?_, ?_, ?_⟩
      · intro z1 z2
        have : 0 < q := by
          by_cases q0 : q = 0
          · have := k2 q0; omega
          · omega
        exact ⟨(ha.2.1 this).1, (hb.2.1 this).1⟩
      · intro z
        have : q = 0 := by
          by_cases q1 : q = 1
          · have := k3 q1; omega
          · by_cases q2 : q = 2
            · have := k4 q2; omega
            · omega
        exact ha.2.2.1 this
      · intro z
        exact hb.2.2.2.1 (fun q2 => z (k4 q2))
      · intro p z
        exact absurd z (by simp)
    · have hi2 : i < m := by omega
      rw [hki i hi2, h1i i hi2, h2i i hi2, hfi i hi2, hti i hi2, hp i hi2]
      obtain ⟨t1, t2, t3, t4, t5, t6, t7⟩ := o7 i hi2
      refine ⟨t1, t2, t3, t4, t5, t6, ?_⟩
      intro p z
      by_cases c2 : i = a ∨ i = b
      · rw [if_pos c2] at z
        have : m = p := by simpa using z
        subst this
        rw [hkm, h1m]
        have q0 : q ≠ 0 := fun q0 => by
          have := ha.2.2.1 q0; have := hb.2.2.1 q0; omega
        have kk : 1 ≤ k ∧ k ≤ 3 := by
          by_cases q1 : q = 1
          · have := k3 q1; omega
          · have := k4 (by omega); omega
        refine ⟨by omega, by omega, kk.1, kk.2, ?_⟩
        intro k33
        have q2 : q ≠ 2 := fun q2 => by have := k4 q2; omega
        have := hb.2.2.2.1 q2
        omega
      · rw [if_neg c2] at z
        obtain ⟨s1, s2, s3, s4, s5⟩ := t7 p z
        rw [hki p s2, h1i p s2]
        exact ⟨s1, by omega, s3, s4, s5⟩
/-- up from o to the nearest loop with number tt; the flag: an action was passed -/
def dd_up (k x : Nat → Nat) (p : Nat → Option Nat) (tt : Nat) : Nat → Option Nat → Bool → Option (Nat × Bool)
  | 0, _, _ => none
  | _ + 1, none, _ => none
  | m + 1, some t, b => if k t = 3 ∧ x t = tt then some (t, b) else dd_up k x p tt m (p t) (b || decide (k t < 3))
/-- parents lie above -/
def dd_in (k : Nat → Nat) (p : Nat → Option Nat) (m : Nat) : Prop := ∀ i, i < m → ∀ t, p i = some t → i < t ∧ t < m ∧ 1 ≤ k t ∧ k t ≤ 3
theorem dd_up_m {k x : Nat → Nat} {p : Nat → Option Nat} {tt m : Nat} (hi : dd_in k p m) : ∀ (n1 n2 : Nat) (o : Option Nat) (b : Bool), (∀ t, o = some t → t < m ∧ m - t ≤ n1 ∧ m - t ≤ n2) → dd_up k x p tt n1 o b = dd_up k x p tt n2 o b := by
  intro n1
  induction n1 with
  | zero =>
    intro n2 o b h
    cases o with
    | none => cases n2 <;> rfl
    | some t => have := h t rfl; omega
  | succ n1 ih =>
    intro n2 o b h
    cases o with
    | none => cases n2 <;> rfl
    | some t =>
      have ht := h t rfl
      cases n2 with
      | zero => omega
      | succ n2 =>
        show (if k t = 3 ∧ x t = tt then some (t, b) else dd_up k x p tt n1 (p t) (b || decide (k t < 3))) = (if k t = 3 ∧ x t = tt then some (t, b) else dd_up k x p tt n2 (p t) (b || decide (k t < 3)))
        split
        · rfl
        · apply ih
          intro s hs
          have := hi t ht.1 s hs
          omega
/-- what is found is a loop with that number -/
theorem dd_up_l {k x : Nat → Nat} {p : Nat → Option Nat} {tt m : Nat} (hi : dd_in k p m) : ∀ (n : Nat) (o : Option Nat) (b : Bool) (l : Nat) (c : Bool), (∀ t, o = some t → t < m) → dd_up k x p tt n o b = some (l, c) → l < m ∧ k l = 3 := by
  intro n
  induction n with
  | zero => intro o b l c _ h; exact absurd h (by simp [dd_up])
  | succ n ih =>
    intro o b l c ho h
    cases o with
    | none => exact absurd h (by simp [dd_up])
    | some t =>
      have h' : (if k t = 3 ∧ x t = tt then some (t, b) else dd_up k x p tt n (p t) (b || decide (k t < 3))) = some (l, c) := h
      split at h'
      · rename_i hc
        have : t = l ∧ b = c := by simpa using h'
        rw [← this.1]
        exact ⟨ho t rfl, hc.1⟩
      · exact ih _ _ _ _ (fun s hs => (hi t (ho t rfl) s hs).2.1) h'
theorem pr_sg_mo {kd f : Nat → Nat} {t a b : Nat} (h : kd (pr_sg kd f a t) ≤ 2) (hab : a ≤ b) : pr_sg kd f b t = pr_sg kd f a t := by
  induction b with
  | zero => rw [show a = 0 from by omega]
  | succ b ih =>
    by_cases e : a = b + 1
    · rw [e]
    · have i := ih (by omega)
      rw [pr_sg_m b t (by rw [i]; exact h), i]
/-- below c: loops down to an action -/
def dd_Q (kd f : Nat → Nat) (c : Nat) : Prop := 1 ≤ kd (pr_sg kd f (c + 1) c) ∧ kd (pr_sg kd f (c + 1) c) ≤ 2
theorem dd_Q_a {kd f : Nat → Nat} {c : Nat} (h : 1 ≤ kd c) (h2 : kd c ≤ 2) : dd_Q kd f c := by
  unfold dd_Q
  rw [pr_sg_s h2]
  exact ⟨h, h2⟩
theorem dd_Q_l {kd f : Nat → Nat} {c l : Nat} (h : dd_Q kd f c) (hl : kd l = 3) (hf : f l = c) (hlt : c < l) : dd_Q kd f l := by
  have e : pr_sg kd f (l + 1) l = pr_sg kd f (c + 1) c := by
    have : pr_sg kd f (l + 1) l = pr_sg kd f l (f l) := if_neg (by omega)
    rw [this, hf]
    exact pr_sg_mo h.2 (by omega)
  unfold dd_Q
  rw [e]
  exact h
theorem dd_up_Q {k x f : Nat → Nat} {p : Nat → Option Nat} {tt m : Nat} (hi : dd_in k p m) (h3 : ∀ c t, c < m → p c = some t → k t = 3 → f t = c) : ∀ (n c : Nat) (b : Bool) (l : Nat), c < m → (b = true → dd_Q k f c) → dd_up k x p tt n (p c) b = some (l, true) → dd_Q k f l := by
  intro n
  induction n with
  | zero => intro c b l _ _ h; exact absurd h (by simp [dd_up])
  | succ n ih =>
    intro c b l hc hb h
    cases ho : p c with
    | none => rw [ho] at h; exact absurd h (by simp [dd_up])
    | some t =>
      rw [ho] at h
      obtain ⟨i1, i2, i3, i4⟩ := hi c hc t ho
      have h' : (if k t = 3 ∧ x t = tt then some (t, b) else dd_up k x p tt n (p t) (b || decide (k t < 3))) = some (l, true) := h
      split at h'
      · rename_i hk
        have : t = l ∧ b = true := by simpa using h'
        rw [← this.1]
        exact dd_Q_l (hb this.2) hk.1 (h3 c t hc ho hk.1) i1
      · refine ih t _ l i2 ?_ h'
        intro hb'
        by_cases k3 : k t = 3
        · have : b = true := by simpa [k3] using hb'
          exact dd_Q_l (hb this) k3 (h3 c t hc ho k3) i1
        · exact dd_Q_a (by omega) (by omega)
/-- every term settles -/
theorem dd_settle {kd f : Nat → Nat} {m : Nat} (hm : m ≤ 20) (h4 : ∀ i, i < m → kd i ≤ 4) (hl : ∀ i, i < m → kd i = 3 → f i < i) (ha : ∀ i, i < m → kd i = 4 → f i < m ∧ dd_Q kd f (f i)) : ∀ i, i < m → kd (pr_sg kd f 42 i) ≤ 2 := by
  have key : ∀ i, i < m → ∃ u, u ≤ i + 22 ∧ kd (pr_sg kd f u i) ≤ 2 := by
    intro i
    induction i using Nat.strongRecOn with
    | ind i ih =>
      intro hi
      by_cases c : kd i ≤ 2
      · exact ⟨0, by omega, c⟩
      · have e : ∀ u, pr_sg kd f (u + 1) i = pr_sg kd f u (f i) := fun u => if_neg c
        by_cases c3 : kd i = 3
        · have hf := hl i hi c3
          obtain ⟨u, hu, h⟩ := ih (f i) hf (by omega)
          exact ⟨u + 1, by omega, by rw [e]; exact h⟩
        · have := h4 i hi
          obtain ⟨hf, hQ⟩ := ha i hi (by omega)
          exact ⟨f i + 1 + 1, by omega, by rw [e]; exact hQ.2⟩
  intro i hi
  obtain ⟨u, hu, h⟩ := key i hi
  rw [pr_sg_mo h (by omega)]
  exact h
/-- the graph that a draft becomes: l i is the loop of the again i -/
def dd_gr (d : dd_T) (m : Nat) (l : Nat → Nat) : pg_T :=
  (m, dd_k d, dd_f d, dd_t d, (fun i => if dd_k d i = 4 then l i else dd_1 d i), (fun i => if dd_k d i = 4 then l i else dd_2 d i), (fun i => nI (dd_n d i)))
theorem dd_dd_in {d : dd_T} {m e : Nat} {st : Nat → Nat} (ok : dd_ok d m e st) : dd_in (dd_k d) (dd_p d) m := by
  intro i hi t ht
  obtain ⟨s1, s2, s3, s4, s5⟩ := (ok.2.2.2.2.2.2 i hi).2.2.2.2.2.2 t ht
  exact ⟨s1, s2, s3, s4⟩
theorem dd_gok {d : dd_T} {m e : Nat} {st : Nat → Nat} (ok : dd_ok d m e st) (hm : 0 < m) {l : Nat → Nat} (hl : ∀ i, i < m → dd_k d i = 4 → dd_up (dd_k d) (dd_n d) (dd_p d) (dd_n d i) 20 (dd_p d i) false = some (l i, true)) : pg_ok (dd_gr d m l) := by
  have hin := dd_dd_in ok
  obtain ⟨o1, o2, o3, o4, o5, o6, o7⟩ := ok
  have f1 : ∀ i, pg_1 (dd_gr d m l) i = if dd_k d i = 4 then l i else dd_1 d i := fun _ => rfl
  have f2 : ∀ i, pg_2 (dd_gr d m l) i = if dd_k d i = 4 then l i else dd_2 d i := fun _ => rfl
  have kk : ∀ i, pg_k (dd_gr d m l) i = dd_k d i := fun _ => rfl
  have hll : ∀ i, i < m → dd_k d i = 4 → l i < m ∧ dd_k d (l i) = 3 := by
    intro i hi h4
    exact dd_up_l hin _ _ _ _ _ (fun t ht => (hin i hi t ht).2.1) (hl i hi h4)
  have h1 : ∀ i, i < m → pg_1 (dd_gr d m l) i < m := by
    intro i hi
    rw [f1]
    split
    · exact (hll i hi (by assumption)).1
    · obtain ⟨t1, t2, t3, t4, t5, t6, t7⟩ := o7 i hi
      by_cases c : dd_k d i = 0
      · rw [t5 (Or.inl c)]; exact hi
      · have := t4 (by omega) (by omega)
        omega
  have h2 : ∀ i, i < m → pg_2 (dd_gr d m l) i < m := by
    intro i hi
    rw [f2]
    split
    · exact (hll i hi (by assumption)).1
    · obtain ⟨t1, t2, t3, t4, t5, t6, t7⟩ := o7 i hi
      by_cases c : dd_k d i = 0
      · rw [t6 (by omega), t5 (Or.inl c)]; exact hi
      · have := t4 (by omega) (by omega)
        omega
  refine ⟨hm, o1, ?_, ?_⟩
  · intro i hi
    obtain ⟨t1, t2, t3, t4, t5, t6, t7⟩ := o7 i hi
    refine ⟨t1, h1 i hi, h2 i hi, t2, t3, ?_, ?_, ?_⟩
    · intro z
      rw [f1, if_neg (by rw [kk] at z; omega)]
      exact t5 (Or.inl z)
    · intro z
      rw [f1, f2]
      split
      · rfl
      · exact t6 z
    · refine dd_settle (m := m) o1 (fun j hj => (o7 j hj).1) ?_ ?_ i hi
      · intro j hj k3
        rw [f1, if_neg (by omega)]
        exact ((o7 j hj).2.2.2.1 (by omega) (by omega)).1
      · intro j hj k4
        rw [f1, if_pos k4]
        refine ⟨(hll j hj k4).1, ?_⟩
        refine dd_up_Q (x := dd_n d) (tt := dd_n d j) hin ?_ 20 j false (l j) hj (fun z => absurd z (by decide)) (hl j hj k4)
        intro c t hc ht k3
        rw [f1, if_neg (by omega)]
        exact ((o7 c hc).2.2.2.2.2.2 t ht).2.2.2.2 k3
  · obtain ⟨t1, t2, t3, t4, t5, t6, t7⟩ := o7 0 hm
    rw [kk]
    by_cases c : dd_k d 0 = 0
    · exact Or.inl c
    · by_cases c4 : dd_k d 0 = 4
      · exact Or.inr c4
      · have := t4 (by omega) (by omega)
        omega
end PRF
end
section
section PRG
/-! bits (rows pasted from the kit), counts, what can be reached -/
def bt (x : Int32) (i : Nat) : Bool := x.toBitVec.getLsbD i
theorem b_ext {x y : Int32} (h : ∀ i, i < 32 → bt x i = bt y i) : x = y := Int32.toBitVec_inj.mp (BitVec.eq_of_getLsbD_eq (fun i hi => h i hi))
theorem b_or (x y : Int32) (i : Nat) : bt (x ||| y) i = (bt x i || bt y i) := by unfold bt; rw [Int32.toBitVec_or, BitVec.getLsbD_or]
theorem b_and (x y : Int32) (i : Nat) : bt (x &&& y) i = (bt x i && bt y i) := by unfold bt; rw [Int32.toBitVec_and, BitVec.getLsbD_and]
theorem b_big {x : Int32} {i : Nat} (h : 32 ≤ i) : bt x i = false := BitVec.getLsbD_of_ge _ _ h
theorem b_0 (i : Nat) : bt 0 i = false := BitVec.getLsbD_zero
theorem s_l : ∀ n, n < 32 → ((nI n &&& 31).toBitVec.smod 32).toNat = n := by decide +kernel
theorem s_u : ∀ n, n < 32 → (((nI n).toUInt32 &&& Int32.toUInt32 31).toBitVec % 32).toNat = n := by decide +kernel
theorem b_shl (n : Nat) (hn : n < 32) (x : Int32) {i : Nat} (hi : i < 32) : bt (x <<< (nI n &&& 31)) i = (decide (n ≤ i) && bt x (i - n)) := by
  unfold bt
  rw [Int32.toBitVec_shiftLeft]
  show (x.toBitVec <<< ((nI n &&& 31).toBitVec.smod 32).toNat).getLsbD i = _
  rw [s_l n hn, BitVec.getLsbD_shiftLeft]
  rcases Nat.lt_or_ge i n with h | h
  · simp [h, Nat.not_le.mpr h]
  · simp [hi, h, Nat.not_lt.mpr h]
theorem b_sshr (n : Nat) (hn : n < 32) (x : Int32) {i : Nat} (hi : i < 32) : bt (x >>> (nI n &&& 31)) i = if n + i < 32 then bt x (n + i) else bt x 31 := by
  unfold bt
  rw [Int32.toBitVec_shiftRight]
  show (x.toBitVec.sshiftRight ((nI n &&& 31).toBitVec.smod 32).toNat).getLsbD i = _
  rw [s_l n hn, BitVec.getLsbD_sshiftRight, BitVec.msb_eq_getLsbD_last]
  simp [hi]
theorem pr_b1 : ∀ i, i < 32 → bt 1 i = decide (i = 0) := by decide
theorem pr_bit1 (y : Int32) : (y &&& 1 = 1) ↔ bt y 0 = true := by
  constructor
  · intro h
    have := congrArg (fun z => bt z 0) h
    simp only [b_and] at this
    rw [pr_b1 0 (by decide)] at this
    simpa using this
  · intro h
    apply b_ext
    intro i hi
    rw [b_and, pr_b1 i hi]
    by_cases c : i = 0
    · subst c; simp [h]
    · simp [c]
theorem pr_sh1 {n i : Nat} (hn : n < 32) (hi : i < 32) : bt ((1 : Int32) <<< (nI n &&& 31)) i = decide (i = n) := by
  rw [b_shl n hn 1 hi]
  by_cases c : n ≤ i
  · rw [pr_b1 (i - n) (by omega)]
    by_cases e : i = n
    · subst e; simp
    · have : ¬ i - n = 0 := by omega
      simp [c, e, this]
  · have : ¬ i = n := by omega
    simp [c, this]
theorem pr_get {x : Int32} {n : Nat} (hn : n < 32) : (x >>> (nI n &&& 31) &&& 1 = 1) ↔ bt x n = true := by
  rw [pr_bit1, b_sshr n hn x (by decide : 0 < 32)]
  simp [hn]
/-- how many i below m have P -/
def pr_cn (P : Nat → Bool) : Nat → Nat
  | 0 => 0
  | m + 1 => pr_cn P m + (if P m then 1 else 0)
theorem pr_cn_le (P : Nat → Bool) : ∀ m, pr_cn P m ≤ m := by
  intro m
  induction m with
  | zero => exact Nat.le_refl 0
  | succ m ih =>
    show pr_cn P m + (if P m then 1 else 0) ≤ m + 1
    split <;> omega
theorem pr_cn_mo {P Q : Nat → Bool} : ∀ m, (∀ i, i < m → P i = true → Q i = true) → pr_cn P m ≤ pr_cn Q m := by
  intro m
  induction m with
  | zero => intro _; exact Nat.le_refl 0
  | succ m ih =>
    intro h
    have := ih (fun i hi => h i (by omega))
    have hm := h m (by omega)
    show pr_cn P m + (if P m then 1 else 0) ≤ pr_cn Q m + (if Q m then 1 else 0)
    cases hp : P m
    · simp; omega
    · rw [hm hp]; simp; omega
theorem pr_cn_eq {P Q : Nat → Bool} : ∀ m, (∀ i, i < m → P i = true → Q i = true) → pr_cn Q m ≤ pr_cn P m → ∀ i, i < m → Q i = true → P i = true := by
  intro m
  induction m with
  | zero => intro _ _ i hi; omega
  | succ m ih =>
    intro h hle i hi hq
    have h1 := pr_cn_mo m (fun i hi => h i (by omega))
    have hm := h m (by omega)
    have hle' : pr_cn Q m + (if Q m then 1 else 0) ≤ pr_cn P m + (if P m then 1 else 0) := hle
    have hc : pr_cn Q m ≤ pr_cn P m ∧ (Q m = true → P m = true) := by
      cases hp : P m
      · cases hqm : Q m
        · rw [hp, hqm] at hle'; simp at hle'; exact ⟨hle', fun z => z⟩
        · rw [hp, hqm] at hle'; simp at hle'; omega
      · rw [hp, hm hp] at hle'; simp at hle'; exact ⟨hle', fun _ => rfl⟩
    by_cases c : i = m
    · subst c; exact hc.2 hq
    · exact ih (fun i hi => h i (by omega)) hc.1 i (by omega) hq
def pr_rc (f1 f2 : Nat → Nat) : Nat → Nat → Nat → Prop
  | 0, a, b => a = b
  | k + 1, a, b => pr_rc f1 f2 k (f1 a) b ∨ pr_rc f1 f2 k (f2 a) b
def pg_re (g : pg_T) (a b : Nat) : Prop := ∃ k, pr_rc (pg_1 g) (pg_2 g) k a b
theorem pg_re_rf (g : pg_T) (a : Nat) : pg_re g a a := ⟨0, rfl⟩
theorem pr_rc_t {f1 f2 : Nat → Nat} : ∀ k a b, pr_rc f1 f2 k a b → pr_rc f1 f2 (k + 1) a (f1 b) ∧ pr_rc f1 f2 (k + 1) a (f2 b) := by
  intro k
  induction k with
  | zero =>
    intro a b h
    have h : a = b := h
    subst h
    exact ⟨Or.inl rfl, Or.inr rfl⟩
  | succ k ih =>
    intro a b h
    rcases h with h | h
    · exact ⟨Or.inl (ih _ _ h).1, Or.inl (ih _ _ h).2⟩
    · exact ⟨Or.inr (ih _ _ h).1, Or.inr (ih _ _ h).2⟩
theorem pg_re_1 {g : pg_T} {a b : Nat} (h : pg_re g a b) : pg_re g a (pg_1 g b) := by
  obtain ⟨k, h⟩ := h
  exact ⟨k + 1, (pr_rc_t k a b h).1⟩
theorem pg_re_2 {g : pg_T} {a b : Nat} (h : pg_re g a b) : pg_re g a (pg_2 g b) := by
  obtain ⟨k, h⟩ := h
  exact ⟨k + 1, (pr_rc_t k a b h).2⟩
theorem pg_re_s {g : pg_T} {a b : Nat} (h : pg_re g a b) : pg_re g a (pg_s g b) := by
  have : ∀ m b, pg_re g a b → pg_re g a (pr_sg (pg_k g) (pg_1 g) m b) := by
    intro m
    induction m with
    | zero => intro b h; exact h
    | succ m ih =>
      intro b h
      show pg_re g a (if pg_k g b ≤ 2 then b else pr_sg (pg_k g) (pg_1 g) m (pg_1 g b))
      split
      · exact h
      · exact ih _ (pg_re_1 h)
  exact this 42 b h
theorem pg_re_cl {g : pg_T} {C : Nat → Prop} (hC : ∀ x, C x → C (pg_1 g x) ∧ C (pg_2 g x)) {a b : Nat} (h : pg_re g a b) (ha : C a) : C b := by
  obtain ⟨k, h⟩ := h
  have : ∀ k a, C a → pr_rc (pg_1 g) (pg_2 g) k a b → C b := by
    intro k
    induction k with
    | zero => intro a ha h; have h : a = b := h; rw [← h]; exact ha
    | succ k ih =>
      intro a ha h
      rcases h with h | h
      · exact ih _ (hC a ha).1 h
      · exact ih _ (hC a ha).2 h
  exact this k a ha h
/-- an end can be reached -/
def pg_fin (g : pg_T) (a : Nat) : Prop := ∃ b, pg_re g a b ∧ pg_k g b = 0
theorem pg_fin_st {g : pg_T} (ok : pg_ok g) {x : Nat} (hx : x < pg_n g) (h0 : pg_k g x ≠ 0) (h2 : pg_k g x ≠ 2) : pg_fin g x ↔ pg_fin g (pg_1 g x) := by
  have e := (ok.2.2.1 x hx).2.2.2.2.2.2.1 h2
  constructor
  · rintro ⟨b, ⟨k, h⟩, hb⟩
    cases k with
    | zero => have h : x = b := h; rw [← h] at hb; exact absurd hb h0
    | succ k =>
      rcases h with h | h
      · exact ⟨b, ⟨k, h⟩, hb⟩
      · rw [e] at h; exact ⟨b, ⟨k, h⟩, hb⟩
  · rintro ⟨b, ⟨k, h⟩, hb⟩
    exact ⟨b, ⟨k + 1, Or.inl h⟩, hb⟩
theorem pg_fin_dr {g : pg_T} (ok : pg_ok g) {w a : Nat} (hw : w < pg_n g) (h : pg_dr g w a) : pg_fin g w ↔ pg_fin g a := by
  obtain ⟨k, e, hk⟩ := h
  subst e
  have : ∀ k w, w < pg_n g → (∀ j, j < k → ¬ (pg_k g (pr_it (pg_1 g) j w) = 0 ∨ pg_k g (pr_it (pg_1 g) j w) = 2)) → (pg_fin g w ↔ pg_fin g (pr_it (pg_1 g) k w)) := by
    intro k
    induction k with
    | zero => intro w _ _; exact Iff.rfl
    | succ k ih =>
      intro w hw h
      have z := h 0 (by omega)
      have z' : ¬ (pg_k g w = 0 ∨ pg_k g w = 2) := z
      rw [pg_fin_st ok hw (fun y => z' (Or.inl y)) (fun y => z' (Or.inr y))]
      exact ih _ (pg_1lt ok hw) (fun j hj => h (j + 1) (by omega))
  exact this k w hw hk
/-- a set that holds a, whose settled followers it holds, and no end: none can be reached -/
theorem pg_fin_y {g : pg_T} (ok : pg_ok g) {M : Nat → Prop} {a : Nat} (ha : a < pg_n g) (h2 : pg_k g a ≤ 2) (hM : M a) (hc : ∀ t, t < pg_n g → M t → pg_k g t > 0 → M (pg_s g (pg_1 g t)) ∧ M (pg_s g (pg_2 g t))) : ∀ b, pg_re g a b → b < pg_n g ∧ M (pg_s g b) := by
  intro b h
  refine pg_re_cl (C := fun x => x < pg_n g ∧ M (pg_s g x)) ?_ h ⟨ha, by rw [pg_ss h2]; exact hM⟩
  rintro x ⟨hx, hm⟩
  refine ⟨⟨pg_1lt ok hx, ?_⟩, ⟨pg_2lt ok hx, ?_⟩⟩
  · by_cases c : pg_k g x ≤ 2
    · rw [pg_ss c] at hm
      by_cases z : pg_k g x = 0
      · rw [(ok.2.2.1 x hx).2.2.2.2.2.1 z, pg_ss c]; exact hm
      · exact (hc x hx hm (by omega)).1
    · rw [← pg_sf ok hx c]; exact hm
  · by_cases c : pg_k g x ≤ 2
    · rw [pg_ss c] at hm
      by_cases z : pg_k g x = 0
      · rw [(ok.2.2.1 x hx).2.2.2.2.2.2.1 (by omega), (ok.2.2.1 x hx).2.2.2.2.2.1 z, pg_ss c]; exact hm
      · exact (hc x hx hm (by omega)).2
    · rw [(ok.2.2.1 x hx).2.2.2.2.2.2.1 (by omega), ← pg_sf ok hx c]; exact hm
end PRG
end
section
section PRH
/-! the rings of slots -/
def pr_ring (ol wt sl sv : Nat → Int32) (R : List ro_T) : Prop :=
  ∀ p q, p < 3 → q < 3 → ∃ o, o < 4 ∧ ol (p * 3 + q) = nI o ∧ wt (p * 3 + q) = nI (R.filter (ro_w p q)).length ∧ ∀ (i : Nat) (x : ro_T), (R.filter (ro_w p q))[i]? = some x → sl ((p * 3 + q) * 4 + (o + i) % 4) = ro_l x ∧ sv ((p * 3 + q) * 4 + (o + i) % 4) = ro_v x
theorem pr_ring_eq {ol wt sl sv : Nat → Int32} {R R' : List ro_T} (h : pr_ring ol wt sl sv R) (e : ∀ p q, R'.filter (ro_w p q) = R.filter (ro_w p q)) : pr_ring ol wt sl sv R' := by
  intro p q hp hq
  rw [e]
  exact h p q hp hq
theorem pr_ring_push {ol wt sl sv : Nat → Int32} {R R' : List ro_T} {p q o n : Nat} {x : ro_T} (h : pr_ring ol wt sl sv R) (hp : p < 3) (hq : q < 3) (ho : ol (p * 3 + q) = nI o) (ho4 : o < 4) (hn : (R.filter (ro_w p q)).length = n) (hn4 : n < 4)
    (e : R'.filter (ro_w p q) = R.filter (ro_w p q) ++ [x]) (eo : ∀ p' q', ¬ (p' = p ∧ q' = q) → R'.filter (ro_w p' q') = R.filter (ro_w p' q')) :
    pr_ring ol (upd wt (p * 3 + q) (nI (n + 1))) (upd sl ((p * 3 + q) * 4 + (o + n) % 4) (ro_l x)) (upd sv ((p * 3 + q) * 4 + (o + n) % 4) (ro_v x)) R' := by
  intro p' q' hp' hq'
  obtain ⟨o', h1, h2, h3, h4⟩ := h p' q' hp' hq'
  by_cases c : p' = p ∧ q' = q
  · obtain ⟨rfl, rfl⟩ := c
    have : o' = o := by
      rw [ho] at h2
      exact ((nI_eq (by omega) (by omega)).mp h2).symm
    subst this
    refine ⟨o', h1, h2, ?_, ?_⟩
    · rw [pk_us, e, List.length_append, hn]
      rfl
    · intro i y hy
      rw [e, List.getElem?_append, hn] at hy
      by_cases ci : i < n
      · rw [if_pos ci] at hy
        rw [pk_un (by omega), pk_un (by omega)]
        exact h4 i y hy
      · rw [if_neg ci] at hy
        have hi : i - n = 0 := by
          by_cases z : i - n = 0
          · exact z
          · rw [List.getElem?_eq_none (by simp; omega)] at hy
            exact absurd hy (by simp)
        rw [hi] at hy
        have : x = y := by simpa using hy
        subst this
        have : i = n := by omega
        subst this
        rw [pk_us, pk_us]
        exact ⟨rfl, rfl⟩
  · rw [eo p' q' c]
    have hc : p' * 3 + q' ≠ p * 3 + q := by omega
    refine ⟨o', h1, h2, ?_, ?_⟩
    · rw [pk_un hc]
      exact h3
    · intro i y hy
      have : ∀ z, (p' * 3 + q') * 4 + (o' + i) % 4 ≠ (p * 3 + q) * 4 + z % 4 := by
        intro z
        omega
      rw [pk_un (this _), pk_un (this _)]
      exact h4 i y hy
theorem pr_ring_pop {ol wt sl sv : Nat → Int32} {R R' : List ro_T} {p q o : Nat} {x : ro_T} (h : pr_ring ol wt sl sv R) (hp : p < 3) (hq : q < 3) (ho : ol (p * 3 + q) = nI o) (ho4 : o < 4)
    (e : R.filter (ro_w p q) = x :: R'.filter (ro_w p q)) (eo : ∀ p' q', ¬ (p' = p ∧ q' = q) → R'.filter (ro_w p' q') = R.filter (ro_w p' q')) :
    pr_ring (upd ol (p * 3 + q) (nI ((o + 1) % 4))) (upd wt (p * 3 + q) (nI (R'.filter (ro_w p q)).length)) sl sv R' ∧ sl ((p * 3 + q) * 4 + o) = ro_l x ∧ sv ((p * 3 + q) * 4 + o) = ro_v x := by
  refine ⟨?_, ?_⟩
  · intro p' q' hp' hq'
    obtain ⟨o', h1, h2, h3, h4⟩ := h p' q' hp' hq'
    by_cases c : p' = p ∧ q' = q
    · obtain ⟨rfl, rfl⟩ := c
      have : o' = o := by
        rw [ho] at h2
        exact ((nI_eq (by omega) (by omega)).mp h2).symm
      subst this
      refine ⟨(o' + 1) % 4, by omega, pk_us, pk_us, ?_⟩
      intro i y hy
      have := h4 (i + 1) y (by rw [e, List.getElem?_cons_succ]; exact hy)
      rw [show ((o' + 1) % 4 + i) % 4 = (o' + (i + 1)) % 4 from by omega]
      exact this
    · rw [eo p' q' c]
      have hc : p' * 3 + q' ≠ p * 3 + q := by omega
      refine ⟨o', h1, by rw [pk_un hc]; exact h2, by rw [pk_un hc]; exact h3, h4⟩
  · obtain ⟨o', h1, h2, h3, h4⟩ := h p q hp hq
    have : o' = o := by
      rw [ho] at h2
      exact ((nI_eq (by omega) (by omega)).mp h2).symm
    subst this
    have := h4 0 x (by rw [e]; rfl)
    rw [show (o' + 0) % 4 = o' from by omega] at this
    exact this
end PRH
end
section
section PRI
/-! the reference's arrays hold the rows -/
def pr_bI (b : Bool) : Int32 := if b then 1 else 0
def yr_at (se re to va is ir : Nat → Int32) (j : Nat) (x : ro_T) : Prop :=
  se j = nI (ro_p x) ∧ re j = nI (ro_q x) ∧ to j = ro_l x ∧ va j = ro_v x ∧ is j = pr_bI (ro_s x) ∧ ir j = pr_bI (ro_d x)
def yr_ok (R : List ro_T) (se re to va is ir : Nat → Int32) : Prop := ∀ (j : Nat) (x : ro_T), R[j]? = some x → yr_at se re to va is ir j x
theorem yr_mid {A C : List ro_T} {x y z : ro_T} {j : Nat} (h : (A ++ y :: C)[j]? = some z) : (j = A.length ∧ z = y) ∨ (j ≠ A.length ∧ (A ++ x :: C)[j]? = some z) := by
  rw [List.getElem?_append] at h ⊢
  by_cases c : j < A.length
  · rw [if_pos c] at h
    rw [if_pos c]
    exact Or.inr ⟨by omega, h⟩
  · rw [if_neg c] at h
    rw [if_neg c]
    by_cases e : j = A.length
    · rw [e, Nat.sub_self, List.getElem?_cons_zero] at h
      exact Or.inl ⟨e, by simpa using h.symm⟩
    · obtain ⟨m, hm⟩ : ∃ m, j - A.length = m + 1 := ⟨j - A.length - 1, by omega⟩
      rw [hm, List.getElem?_cons_succ] at h ⊢
      exact Or.inr ⟨e, h⟩
theorem yr_here {A C : List ro_T} {x : ro_T} : (A ++ x :: C)[A.length]? = some x := by
  rw [List.getElem?_append, if_neg (by omega), Nat.sub_self, List.getElem?_cons_zero]
theorem yr_snd {A C : List ro_T} {x : ro_T} {se re to va is ir : Nat → Int32} (h : yr_ok (A ++ x :: C) se re to va is ir) (v : Int32) : yr_ok (A ++ ro_snd x v :: C) se re to (upd va A.length v) (upd is A.length 1) ir := by
  intro j z hz
  rcases yr_mid (x := x) hz with ⟨e, e2⟩ | ⟨e, h2⟩
  · subst e; subst e2
    obtain ⟨h1, h2, h3, h4, h5, h6⟩ := h A.length x yr_here
    exact ⟨h1, h2, h3, pk_us, pk_us, h6⟩
  · obtain ⟨h1, h2, h3, h4, h5, h6⟩ := h j z h2
    exact ⟨h1, h2, h3, by rw [pk_un e]; exact h4, by rw [pk_un e]; exact h5, h6⟩
theorem yr_rcv {A C : List ro_T} {x : ro_T} {se re to va is ir : Nat → Int32} (h : yr_ok (A ++ x :: C) se re to va is ir) : yr_ok (A ++ ro_rcv x :: C) se re to va is (upd ir A.length 1) := by
  intro j z hz
  rcases yr_mid (x := x) hz with ⟨e, e2⟩ | ⟨e, h2⟩
  · subst e; subst e2
    obtain ⟨h1, h2, h3, h4, h5, h6⟩ := h A.length x yr_here
    exact ⟨h1, h2, h3, h4, h5, pk_us⟩
  · obtain ⟨h1, h2, h3, h4, h5, h6⟩ := h j z h2
    exact ⟨h1, h2, h3, h4, h5, by rw [pk_un e]; exact h6⟩
theorem yr_app {R : List ro_T} {se re to va is ir : Nat → Int32} (h : yr_ok R se re to va is ir) (p q : Nat) (l : Int32) : yr_ok (R ++ [(p, q, l, va R.length, false, false)]) (upd se R.length (nI p)) (upd re R.length (nI q)) (upd to R.length l) va (upd is R.length 0) (upd ir R.length 0) := by
  intro j z hz
  rw [List.getElem?_append] at hz
  by_cases c : j < R.length
  · rw [if_pos c] at hz
    obtain ⟨h1, h2, h3, h4, h5, h6⟩ := h j z hz
    have e : j ≠ R.length := by omega
    exact ⟨by rw [pk_un e]; exact h1, by rw [pk_un e]; exact h2, by rw [pk_un e]; exact h3, h4, by rw [pk_un e]; exact h5, by rw [pk_un e]; exact h6⟩
  · rw [if_neg c] at hz
    have e : j = R.length := by
      by_cases z1 : j - R.length = 0
      · omega
      · rw [List.getElem?_eq_none (by simp; omega)] at hz
        exact absurd hz (by simp)
    subst e
    rw [Nat.sub_self] at hz
    have : (p, q, l, va R.length, false, false) = z := by simpa using hz
    subst this
    exact ⟨pk_us, pk_us, pk_us, rfl, pk_us, pk_us⟩
theorem pr_bI1 : pr_bI true = 1 := rfl
theorem pr_bI0 : pr_bI false = 0 := rfl
theorem pr_bI_0 {b : Bool} : pr_bI b = 0 ↔ b = false := by
  cases b
  · exact ⟨fun _ => rfl, fun _ => rfl⟩
  · exact ⟨fun h => absurd h (by decide), fun h => absurd h (by decide)⟩
theorem pr_bI_1 {b : Bool} : pr_bI b = 1 ↔ b = true := by
  cases b
  · exact ⟨fun h => absurd h (by decide), fun h => absurd h (by decide)⟩
  · exact ⟨fun _ => rfl, fun _ => rfl⟩
theorem pr_bIn (b : Bool) : vp_nar .boolean (pr_bI b) = pr_bI b := by
  cases b
  · decide
  · decide
/-- the first one that r has not done, or none -/
theorem ro_split (r : Nat) (R : List ro_T) : (∀ x, x ∈ R → ro_u r x = false) ∨ ∃ A x C, R = A ++ x :: C ∧ (∀ y, y ∈ A → ro_u r y = false) ∧ ro_u r x = true := by
  induction R with
  | nil => exact Or.inl (fun x hx => absurd hx (by simp))
  | cons x T ih =>
    cases hu : ro_u r x
    · rcases ih with h | ⟨A, y, C, e, hA, hy⟩
      · refine Or.inl ?_
        intro y hy
        rcases List.mem_cons.mp hy with e | e
        · rw [e]; exact hu
        · exact h y e
      · refine Or.inr ⟨x :: A, y, C, by rw [e]; rfl, ?_, hy⟩
        intro z hz
        rcases List.mem_cons.mp hz with e | e
        · rw [e]; exact hu
        · exact hA z e
    · exact Or.inr ⟨[], x, T, rfl, fun y hy => absurd hy (by simp), hu⟩
end PRI
end
section
section PRJ
/-! the component: the relation of its state, and its reading methods -/
def pr_oI : Option Nat → Int32
  | none => -1
  | some x => nI x
theorem pr_nm1 {a : Nat} (h : a < 2 ^ 31) : ¬ nI a = -1 := by
  intro e
  have h1 := nI_pos (n := a) h
  rw [e] at h1
  exact h1 (by decide)
theorem pr_ix3 (p q : Nat) : nI p * 3 + nI q = nI (p * 3 + q) := by
  rw [show (3 : Int32) = nI 3 from rfl, pk_mul, nI_add]
def xr_D (d : dd_T) (m e : Nat) (st : Nat → Nat) (f_draftCount f_stackCount : Int32) (a_draftKind a_draftFrom a_draftTo a_draftNumber a_draftFirst a_draftSecond a_draftParent a_stack : Nat → Int32) : Prop :=
  f_draftCount = nI m ∧ f_stackCount = nI e ∧ (∀ i, i < m → a_draftKind i = nI (dd_k d i) ∧ a_draftFrom i = nI (dd_f d i) ∧ a_draftTo i = nI (dd_t d i) ∧ a_draftNumber i = nI (dd_n d i) ∧ a_draftFirst i = nI (dd_1 d i) ∧ a_draftSecond i = nI (dd_2 d i) ∧ a_draftParent i = pr_oI (dd_p d i)) ∧ (∀ i, i < e → a_stack i = nI (st i)) ∧ (∀ i, i < m → dd_n d i < 4)
def xr_P (g : pg_T) (f_termCount f_root : Int32) (a_kind a_from a_to a_number a_first a_second : Nat → Int32) : Prop :=
  f_termCount = nI (pg_n g) ∧ f_root = nI (pg_n g - 1) ∧ (∀ i, i < pg_n g → a_kind i = nI (pg_k g i) ∧ a_from i = nI (pg_f g i) ∧ a_to i = nI (pg_t g i) ∧ a_number i = pg_l g i ∧ a_first i = nI (pg_1 g i) ∧ a_second i = nI (pg_2 g i))
def xr_R (R : List ro_T) (w : Nat) (pl : Nat → Nat) (pk : Nat → Option Nat) (la : Nat → Int32) (f_walkedFrom : Int32) (a_place a_picked a_lastGot a_oldest a_waiting a_slotLabel a_slotValue : Nat → Int32) : Prop :=
  f_walkedFrom = nI w ∧ (∀ r, r < 3 → a_place r = nI (pl r) ∧ a_picked r = pr_oI (pk r) ∧ a_lastGot r = la r) ∧ pr_ring a_oldest a_waiting a_slotLabel a_slotValue R
section
variable {f_draftCount f_stackCount f_termCount f_root f_sentCount f_walkedFrom : Int32} {a_draftKind a_draftFrom a_draftTo a_draftNumber a_draftFirst a_draftSecond a_draftParent a_stack a_kind a_from a_to a_number a_first a_second a_place a_picked a_lastGot a_oldest a_waiting a_slotLabel a_slotValue : Nat → Int32} {g : pg_T}
theorem xr_at {t : Nat} (ok : pg_ok g) (P : xr_P g f_termCount f_root a_kind a_from a_to a_number a_first a_second) (ht : t < pg_n g) :
    vp_in (nI t) 20 ∧ a_kind (nI t).toNatClampNeg = nI (pg_k g t) ∧ a_from (nI t).toNatClampNeg = nI (pg_f g t) ∧ a_to (nI t).toNatClampNeg = nI (pg_t g t) ∧ a_number (nI t).toNatClampNeg = pg_l g t ∧ a_first (nI t).toNatClampNeg = nI (pg_1 g t) ∧ a_second (nI t).toNatClampNeg = nI (pg_2 g t) := by
  have h20 := ok.2.1
  rw [nI_clamp (by omega)]
  exact ⟨vp_in_nI (by omega) (by omega), P.2.2 t ht⟩
theorem xs_isRole {post : Int32 → Prop} {r : Nat} (hr : r < 3) (h : post 1) : wpX_isRole post (nI r) :=
  br_f (nI_pos (by omega)) (br_f (nI_ge (b := 3) hr (by decide)) h)
theorem xs_noRole {post : Int32 → Prop} {x : Int32} (hx : x < 0 ∨ nI 3 ≤ x) (h : post 0) : wpX_isRole post x := by
  by_cases c : x < 0
  · exact br_t c h
  · exact br_f c (br_t (hx.resolve_left c) h)
theorem xs_concerns {post : Int32 → Prop} {r t : Nat} (ok : pg_ok g) (P : xr_P g f_termCount f_root a_kind a_from a_to a_number a_first a_second) (ht : t < pg_n g) (hr : r < 3) (h1 : pg_c g r t → post 1) (h0 : ¬ pg_c g r t → post 0) : wpX_concerns post (f_draftCount, f_stackCount, f_termCount, f_root, f_sentCount, f_walkedFrom, a_draftKind, a_draftFrom, a_draftTo, a_draftNumber, a_draftFirst, a_draftSecond, a_draftParent, a_stack, a_kind, a_from, a_to, a_number, a_first, a_second, a_place, a_picked, a_lastGot, a_oldest, a_waiting, a_slotLabel, a_slotValue) (nI t) (nI r) := by
  obtain ⟨i, ek, ef, et, -⟩ := xr_at ok P ht
  obtain ⟨b1, -, -, b2, -⟩ := ok.2.2.1 t ht
  refine ⟨i, pk_eq (pg_k g t) 2 (fun e => h1 (Or.inl e)) (fun n2 => ⟨i, pk_eq (pg_k g t) 1 (fun e1 => ⟨i, pk_eq (pg_f g t) r (fun e => h1 (Or.inr ⟨e1, Or.inl e⟩)) (fun nf => ⟨i, pk_eq (pg_t g t) r (fun e => h1 (Or.inr ⟨e1, Or.inr e⟩)) (fun nt => h0 ?_) et rfl (by have := b2 e1; omega)⟩) ef rfl (by have := b2 e1; omega)⟩) (fun n1 => h0 ?_) ek⟩) ek⟩
  · rintro (z | ⟨-, z | z⟩)
    · exact n2 z
    · exact nf z
    · exact nt z
  · rintro (z | ⟨z, -⟩)
    · exact n2 z
    · exact n1 z
theorem xs_nt_f {post : Int32 → Prop} {r : Nat} (ok : pg_ok g) (P : xr_P g f_termCount f_root a_kind a_from a_to a_number a_first a_second) (hr : r < 3) : ∀ (j s t : Nat), t < pg_n g → (∀ i, i < j → ¬ pg_c g r (pr_it (pg_1 g) i t)) → pg_c g r (pr_it (pg_1 g) j t) → s + j < 20 → post (nI (pr_it (pg_1 g) j t)) → wX_nextTerm_9 post (nI r) f_draftCount f_stackCount f_termCount f_root f_sentCount f_walkedFrom a_draftKind a_draftFrom a_draftTo a_draftNumber a_draftFirst a_draftSecond a_draftParent a_stack a_kind a_from a_to a_number a_first a_second a_place a_picked a_lastGot a_oldest a_waiting a_slotLabel a_slotValue (j + 1) (nI t) (nI s) := by
  intro j
  induction j with
  | zero =>
    intro s t ht _ hc hs h
    exact br_f (nI_ge (b := 20) (by omega) (by decide)) (xs_concerns ok P ht hr (fun _ => br_f (by decide) h) (fun z => absurd hc z))
  | succ j ih =>
    intro s t ht hn hc hs h
    obtain ⟨i, ek, ef, et, el, e1, e2⟩ := xr_at ok P ht
    refine br_f (nI_ge (b := 20) (by omega) (by decide)) (xs_concerns ok P ht hr (fun z => absurd z (hn 0 (by omega))) (fun _ => br_t rfl ⟨i, nm_r e1 (nm_r (nI_1 s) ?_)⟩))
    exact ih (s + 1) (pg_1 g t) (pg_1lt ok ht) (fun i hi => hn (i + 1) (by omega)) hc (by omega) h
theorem xs_nt_n {post : Int32 → Prop} {r : Nat} (ok : pg_ok g) (P : xr_P g f_termCount f_root a_kind a_from a_to a_number a_first a_second) (hr : r < 3) : ∀ (q s t : Nat), t < pg_n g → (∀ i, ¬ pg_c g r (pr_it (pg_1 g) i t)) → s + q = 20 → post (-1) → wX_nextTerm_9 post (nI r) f_draftCount f_stackCount f_termCount f_root f_sentCount f_walkedFrom a_draftKind a_draftFrom a_draftTo a_draftNumber a_draftFirst a_draftSecond a_draftParent a_stack a_kind a_from a_to a_number a_first a_second a_place a_picked a_lastGot a_oldest a_waiting a_slotLabel a_slotValue (q + 1) (nI t) (nI s) := by
  intro q
  induction q with
  | zero =>
    intro s t ht _ hs h
    have : s = 20 := by omega
    subst this
    exact br_t (nI_le (a := 20) (b := 20) (by omega) (by decide)) h
  | succ q ih =>
    intro s t ht hn hs h
    obtain ⟨i, ek, ef, et, el, e1, e2⟩ := xr_at ok P ht
    refine br_f (nI_ge (b := 20) (by omega) (by decide)) (xs_concerns ok P ht hr (fun z => absurd z (hn 0)) (fun _ => br_t rfl ⟨i, nm_r e1 (nm_r (nI_1 s) ?_)⟩))
    exact ih (s + 1) (pg_1 g t) (pg_1lt ok ht) (fun i => hn (i + 1)) (by omega) h
theorem xs_nextTerm {post : Int32 → Prop} {r t x : Nat} (ok : pg_ok g) (P : xr_P g f_termCount f_root a_kind a_from a_to a_number a_first a_second) (hr : r < 3) (hpl : a_place r = nI t) (ht : t < pg_n g) (hs : pr_sk (pg_c g r) (pg_1 g) t x) (hc : pg_c g r x) (h : post (nI x)) : wpX_nextTerm post (f_draftCount, f_stackCount, f_termCount, f_root, f_sentCount, f_walkedFrom, a_draftKind, a_draftFrom, a_draftTo, a_draftNumber, a_draftFirst, a_draftSecond, a_draftParent, a_stack, a_kind, a_from, a_to, a_number, a_first, a_second, a_place, a_picked, a_lastGot, a_oldest, a_waiting, a_slotLabel, a_slotValue) (nI r) := by
  obtain ⟨k, hk, e, hn⟩ := pr_sk_n (fun _ => pg_1lt ok) ht hs hc
  have h20 := ok.2.1
  subst e
  refine ⟨vp_in_nI hr (by decide), nm_r (show a_place (nI r).toNatClampNeg = nI t from by rw [nI_clamp (by omega)]; exact hpl) ⟨k + 1, ?_⟩⟩
  exact xs_nt_f ok P hr k 0 t ht hn hc (by omega) h
theorem xs_nowhere {post : Int32 → Prop} {r t : Nat} (ok : pg_ok g) (P : xr_P g f_termCount f_root a_kind a_from a_to a_number a_first a_second) (hr : r < 3) (hpl : a_place r = nI t) (ht : t < pg_n g) (hn : ∀ j, ¬ pg_c g r (pr_it (pg_1 g) j t)) (h : post (-1)) : wpX_nextTerm post (f_draftCount, f_stackCount, f_termCount, f_root, f_sentCount, f_walkedFrom, a_draftKind, a_draftFrom, a_draftTo, a_draftNumber, a_draftFirst, a_draftSecond, a_draftParent, a_stack, a_kind, a_from, a_to, a_number, a_first, a_second, a_place, a_picked, a_lastGot, a_oldest, a_waiting, a_slotLabel, a_slotValue) (nI r) := by
  refine ⟨vp_in_nI hr (by decide), nm_r (show a_place (nI r).toNatClampNeg = nI t from by rw [nI_clamp (by omega)]; exact hpl) ⟨20 + 1, ?_⟩⟩
  exact xs_nt_n ok P hr 20 0 t ht hn (by omega) h
/-- the other side of r's next action at term t -/
def pg_o (g : pg_T) (pk : Option Nat) (r t : Nat) : Nat := if pg_f g t = r then (if pg_k g t = 1 then pg_t g t else if pk = none then pr_les r else pr_gre r) else pg_f g t
theorem xs_lesser {post : Int32 → Prop} {r : Nat} (hr : r < 3) (h : post (nI (pr_les r))) : wpX_lesserOther post (nI r) := by
  have : r = 0 ∨ r = 1 ∨ r = 2 := by omega
  rcases this with e | e | e <;> subst e
  · exact br_t rfl h
  · exact br_f (by decide) h
  · exact br_f (by decide) h
theorem xs_greater {post : Int32 → Prop} {r : Nat} (hr : r < 3) (h : post (nI (pr_gre r))) : wpX_greaterOther post (nI r) := by
  have : r = 0 ∨ r = 1 ∨ r = 2 := by omega
  rcases this with e | e | e <;> subst e
  · exact br_f (by decide) h
  · exact br_f (by decide) h
  · exact br_t rfl h
theorem pg_cf {r t : Nat} (ok : pg_ok g) (ht : t < pg_n g) (hc : pg_c g r t) : pg_f g t < 3 ∧ (pg_k g t = 1 → pg_t g t < 3 ∧ pg_f g t ≠ pg_t g t) := by
  obtain ⟨b1, -, -, b2, b3, -⟩ := ok.2.2.1 t ht
  rcases hc with z | ⟨z, -⟩
  · exact ⟨b3 z, fun y => by omega⟩
  · have := b2 z
    exact ⟨this.1, fun _ => this.2⟩
theorem xs_otherSide {post : Int32 → Prop} {r t : Nat} {pk : Option Nat} (ok : pg_ok g) (P : xr_P g f_termCount f_root a_kind a_from a_to a_number a_first a_second) (ht : t < pg_n g) (hr : r < 3) (hc : pg_c g r t) (hp : a_picked r = pr_oI pk) (hpk : ∀ c, pk = some c → c < 2) (h : post (nI (pg_o g pk r t))) : wpX_otherSide post (f_draftCount, f_stackCount, f_termCount, f_root, f_sentCount, f_walkedFrom, a_draftKind, a_draftFrom, a_draftTo, a_draftNumber, a_draftFirst, a_draftSecond, a_draftParent, a_stack, a_kind, a_from, a_to, a_number, a_first, a_second, a_place, a_picked, a_lastGot, a_oldest, a_waiting, a_slotLabel, a_slotValue) (nI t) (nI r) := by
  obtain ⟨i, ek, ef, et, -⟩ := xr_at ok P ht
  obtain ⟨b1, -⟩ := ok.2.2.1 t ht
  have b2 := pg_cf ok ht hc
  unfold pg_o at h
  refine ⟨i, pk_eq (pg_f g t) r (fun e => ⟨i, pk_eq (pg_k g t) 1 (fun e1 => ⟨i, ?_⟩) (fun n1 => ⟨vp_in_nI hr (by decide), ?_⟩) ek⟩) (fun nf => ⟨i, ?_⟩) ef⟩
  · rw [if_pos e, if_pos e1] at h
    rw [et]; exact h
  · rw [if_pos e, if_neg n1] at h
    rw [nI_clamp (by omega), hp]
    cases pk with
    | none => exact br_t rfl (xs_lesser hr h)
    | some c => exact br_f (pr_nm1 (by have := hpk c rfl; omega)) (xs_greater hr h)
  · rw [if_neg nf] at h
    rw [ef]; exact h
def pg_si (g : pg_T) (pk : Option Nat) (W : Nat → Nat → Nat) (r t : Nat) : Nat := if pg_f g t = r then (if 4 ≤ W r (pg_o g pk r t) then 2 else 1) else (if W (pg_o g pk r t) r = 0 then 4 else 3)
theorem pg_o3 {r t : Nat} {pk : Option Nat} (ok : pg_ok g) (ht : t < pg_n g) (hr : r < 3) (hc : pg_c g r t) : pg_o g pk r t < 3 := by
  have b2 := pg_cf ok ht hc
  unfold pg_o
  split
  · split
    · exact (b2.2 (by assumption)).1
    · split
      · unfold pr_les; split <;> omega
      · unfold pr_gre; split <;> omega
  · exact b2.1
theorem xs_situation {post : Int32 → Prop} {r t : Nat} {pk : Option Nat} {W : Nat → Nat → Nat} (ok : pg_ok g) (P : xr_P g f_termCount f_root a_kind a_from a_to a_number a_first a_second) (ht : t < pg_n g) (hr : r < 3) (hc : pg_c g r t) (hp : a_picked r = pr_oI pk) (hpk : ∀ c, pk = some c → c < 2)
    (hw : ∀ p q, p < 3 → q < 3 → a_waiting (p * 3 + q) = nI (W p q) ∧ W p q ≤ 4) (h : post (nI (pg_si g pk W r t))) : wpX_situation post (f_draftCount, f_stackCount, f_termCount, f_root, f_sentCount, f_walkedFrom, a_draftKind, a_draftFrom, a_draftTo, a_draftNumber, a_draftFirst, a_draftSecond, a_draftParent, a_stack, a_kind, a_from, a_to, a_number, a_first, a_second, a_place, a_picked, a_lastGot, a_oldest, a_waiting, a_slotLabel, a_slotValue) (nI t) (nI r) := by
  obtain ⟨i, ek, ef, et, -⟩ := xr_at ok P ht
  have b2 := pg_cf ok ht hc
  have ho := pg_o3 (pk := pk) ok ht hr hc
  unfold pg_si at h
  unfold wpX_situation
  refine xs_otherSide ok P ht hr hc hp hpk ⟨i, ?_⟩
  generalize pg_o g pk r t = o at h ho ⊢
  rw [pr_ix3, pr_ix3, nI_clamp (n := r * 3 + o) (by omega), nI_clamp (n := o * 3 + r) (by omega)]
  have w1 := hw r o hr ho
  have w2 := hw o r ho hr
  refine pk_eq (pg_f g t) r (fun e => ⟨vp_in_nI (by omega) (by decide), ?_⟩) (fun ne => ⟨vp_in_nI (by omega) (by decide), ?_⟩) ef
  · rw [if_pos e] at h
    refine pk_le 4 (W r o) (fun z => ?_) (fun z => ?_) rfl w1.1
    · rw [if_pos z] at h; exact h
    · rw [if_neg (by omega)] at h; exact h
  · rw [if_neg ne] at h
    refine pk_le (W o r) 0 (fun z => ?_) (fun z => ?_) w2.1 rfl
    · rw [if_pos (by omega)] at h; exact h
    · rw [if_neg (by omega)] at h; exact h
theorem xs_following {post : Int32 → Prop} {t c : Nat} (ok : pg_ok g) (P : xr_P g f_termCount f_root a_kind a_from a_to a_number a_first a_second) (ht : t < pg_n g) (h2 : pg_k g t = 2) (hc : c < 2) (h : post (nI (pg_b g t c))) : wpX_following post (f_draftCount, f_stackCount, f_termCount, f_root, f_sentCount, f_walkedFrom, a_draftKind, a_draftFrom, a_draftTo, a_draftNumber, a_draftFirst, a_draftSecond, a_draftParent, a_stack, a_kind, a_from, a_to, a_number, a_first, a_second, a_place, a_picked, a_lastGot, a_oldest, a_waiting, a_slotLabel, a_slotValue) (nI t) (nI c) := by
  obtain ⟨i, ek, ef, et, el, e1, e2⟩ := xr_at ok P ht
  unfold pg_b at h
  refine ⟨i, br_t (by rw [ek, h2]; rfl) (pk_eq c 1 (fun z => ⟨i, ?_⟩) (fun z => ⟨i, ?_⟩))⟩
  · rw [if_pos z] at h; rw [e2]; exact h
  · rw [if_neg z] at h; rw [e1]; exact h
theorem xs_followm {post : Int32 → Prop} {t : Nat} {l : Int32} (ok : pg_ok g) (P : xr_P g f_termCount f_root a_kind a_from a_to a_number a_first a_second) (ht : t < pg_n g) (h2 : pg_k g t = 1) (h : post (nI (pg_1 g t))) : wpX_following post (f_draftCount, f_stackCount, f_termCount, f_root, f_sentCount, f_walkedFrom, a_draftKind, a_draftFrom, a_draftTo, a_draftNumber, a_draftFirst, a_draftSecond, a_draftParent, a_stack, a_kind, a_from, a_to, a_number, a_first, a_second, a_place, a_picked, a_lastGot, a_oldest, a_waiting, a_slotLabel, a_slotValue) (nI t) l := by
  obtain ⟨i, ek, ef, et, el, e1, e2⟩ := xr_at ok P ht
  refine ⟨i, br_f (by rw [ek, h2]; decide) ⟨i, ?_⟩⟩
  rw [e1]; exact h
end
end PRJ
end
section
section PRK
/-! the component: sending, receiving, beginning -/
section
variable {f_draftCount f_stackCount f_termCount f_root f_sentCount f_walkedFrom : Int32} {a_draftKind a_draftFrom a_draftTo a_draftNumber a_draftFirst a_draftSecond a_draftParent a_stack a_kind a_from a_to a_number a_first a_second a_place a_picked a_lastGot a_oldest a_waiting a_slotLabel a_slotValue : Nat → Int32} {g : pg_T}
theorem xs_putOnWay {post : SX → Prop} {p q o n : Nat} {l v : Int32} (hp : p < 3) (hq : q < 3) (ho : a_oldest (p * 3 + q) = nI o) (ho4 : o < 4) (hn : a_waiting (p * 3 + q) = nI n) (hn4 : n < 4)
    (h : post (f_draftCount, f_stackCount, f_termCount, f_root, f_sentCount + 1, f_walkedFrom, a_draftKind, a_draftFrom, a_draftTo, a_draftNumber, a_draftFirst, a_draftSecond, a_draftParent, a_stack, a_kind, a_from, a_to, a_number, a_first, a_second, a_place, a_picked, a_lastGot, a_oldest, upd a_waiting (p * 3 + q) (nI (n + 1)), upd a_slotLabel ((p * 3 + q) * 4 + (o + n) % 4) l, upd a_slotValue ((p * 3 + q) * 4 + (o + n) % 4) v)) : wpX_putOnWay post (f_draftCount, f_stackCount, f_termCount, f_root, f_sentCount, f_walkedFrom, a_draftKind, a_draftFrom, a_draftTo, a_draftNumber, a_draftFirst, a_draftSecond, a_draftParent, a_stack, a_kind, a_from, a_to, a_number, a_first, a_second, a_place, a_picked, a_lastGot, a_oldest, a_waiting, a_slotLabel, a_slotValue) (nI p) (nI q) l v := by
  have hc : p * 3 + q < 9 := by omega
  have i9 : vp_in (nI (p * 3 + q)) 9 := vp_in_nI hc (by decide)
  refine nm_r (pr_ix3 p q) ?_
  rw [nI_clamp (n := p * 3 + q) (by omega), ho, hn]
  refine ⟨i9, i9, by decide, nm_r (e' := nI ((p * 3 + q) * 4 + (o + n) % 4)) ?_ ?_⟩
  · rw [nI_add, show (4 : Int32) = nI 4 from rfl, pk_rem (by omega) (by decide) (by decide), pk_mul, nI_add]
  · rw [nI_clamp (n := (p * 3 + q) * 4 + (o + n) % 4) (by omega)]
    refine ⟨vp_in_nI (by omega) (by decide), nm_e ⟨vp_in_nI (by omega) (by decide), nm_e ⟨i9, i9, nm_r (e' := upd a_waiting (p * 3 + q) (nI (n + 1))) ?_ (nm_e h)⟩⟩⟩
    rw [nI_1]
theorem xs_takeOffWay {post : Int32 → SX → Prop} {p r o n : Nat} (hp : p < 3) (hr : r < 3) (ho : a_oldest (p * 3 + r) = nI o) (ho4 : o < 4) (hn : a_waiting (p * 3 + r) = nI (n + 1)) (hn4 : n < 4)
    (h : post (a_slotLabel ((p * 3 + r) * 4 + o)) (f_draftCount, f_stackCount, f_termCount, f_root, f_sentCount, f_walkedFrom, a_draftKind, a_draftFrom, a_draftTo, a_draftNumber, a_draftFirst, a_draftSecond, a_draftParent, a_stack, a_kind, a_from, a_to, a_number, a_first, a_second, a_place, a_picked, upd a_lastGot r (a_slotValue ((p * 3 + r) * 4 + o)), upd a_oldest (p * 3 + r) (nI ((o + 1) % 4)), upd a_waiting (p * 3 + r) (nI n), a_slotLabel, a_slotValue)) : wpX_takeOffWay post (f_draftCount, f_stackCount, f_termCount, f_root, f_sentCount, f_walkedFrom, a_draftKind, a_draftFrom, a_draftTo, a_draftNumber, a_draftFirst, a_draftSecond, a_draftParent, a_stack, a_kind, a_from, a_to, a_number, a_first, a_second, a_place, a_picked, a_lastGot, a_oldest, a_waiting, a_slotLabel, a_slotValue) (nI p) (nI r) := by
  have hc : p * 3 + r < 9 := by omega
  have i9 : vp_in (nI (p * 3 + r)) 9 := vp_in_nI hc (by decide)
  refine nm_r (pr_ix3 p r) ?_
  rw [nI_clamp (n := p * 3 + r) (by omega), ho, hn]
  refine ⟨i9, nm_r (e' := nI ((p * 3 + r) * 4 + o)) (by rw [show (4 : Int32) = nI 4 from rfl, pk_mul, nI_add]) ?_⟩
  rw [nI_clamp (n := (p * 3 + r) * 4 + o) (by omega), nI_clamp (n := r) (by omega)]
  have i36 : vp_in (nI ((p * 3 + r) * 4 + o)) 36 := vp_in_nI (by omega) (by decide)
  refine ⟨i9, by decide, i9, nm_r (e' := upd a_oldest (p * 3 + r) (nI ((o + 1) % 4))) ?_ ⟨i9, i9, nm_r (e' := upd a_waiting (p * 3 + r) (nI n)) ?_ ⟨i36, vp_in_nI hr (by decide), nm_e ⟨i36, h⟩⟩⟩⟩
  · rw [nI_1, show (4 : Int32) = nI 4 from rfl, pk_rem (by omega) (by decide) (by decide)]
  · rw [nI_pred]
theorem xs_goOn {post : SX → Prop} {r t y : Nat} {l : Int32} (hr : r < 3) (hf : ∀ P : Int32 → Prop, P (nI y) → wpX_following P (f_draftCount, f_stackCount, f_termCount, f_root, f_sentCount, f_walkedFrom, a_draftKind, a_draftFrom, a_draftTo, a_draftNumber, a_draftFirst, a_draftSecond, a_draftParent, a_stack, a_kind, a_from, a_to, a_number, a_first, a_second, a_place, a_picked, a_lastGot, a_oldest, a_waiting, a_slotLabel, a_slotValue) (nI t) l) (h : post (f_draftCount, f_stackCount, f_termCount, f_root, f_sentCount, f_walkedFrom, a_draftKind, a_draftFrom, a_draftTo, a_draftNumber, a_draftFirst, a_draftSecond, a_draftParent, a_stack, a_kind, a_from, a_to, a_number, a_first, a_second, upd a_place r (nI y), upd a_picked r (-1), a_lastGot, a_oldest, a_waiting, a_slotLabel, a_slotValue)) : wpX_goOn post (f_draftCount, f_stackCount, f_termCount, f_root, f_sentCount, f_walkedFrom, a_draftKind, a_draftFrom, a_draftTo, a_draftNumber, a_draftFirst, a_draftSecond, a_draftParent, a_stack, a_kind, a_from, a_to, a_number, a_first, a_second, a_place, a_picked, a_lastGot, a_oldest, a_waiting, a_slotLabel, a_slotValue) (nI r) (nI t) l := by
  unfold wpX_goOn
  refine hf _ ?_
  rw [nI_clamp (n := r) (by omega)]
  exact ⟨vp_in_nI hr (by decide), nm_e ⟨vp_in_nI hr (by decide), nm_e h⟩⟩
/-- a sending that is no picking: label l, receiver q, the place y afterwards -/
theorem xs_send94 {post : Int32 → SX → Prop} {r t q o n y : Nat} {p1 v l : Int32} (hr : r < 3) (hq : q < 3) (hos : ∀ P : Int32 → Prop, P (nI q) → wpX_otherSide P (f_draftCount, f_stackCount, f_termCount, f_root, f_sentCount, f_walkedFrom, a_draftKind, a_draftFrom, a_draftTo, a_draftNumber, a_draftFirst, a_draftSecond, a_draftParent, a_stack, a_kind, a_from, a_to, a_number, a_first, a_second, a_place, a_picked, a_lastGot, a_oldest, a_waiting, a_slotLabel, a_slotValue) (nI t) (nI r))
    (hf : ∀ (P : Int32 → Prop) (f_sentCount : Int32) (a_waiting a_slotLabel a_slotValue : Nat → Int32), P (nI y) → wpX_following P (f_draftCount, f_stackCount, f_termCount, f_root, f_sentCount, f_walkedFrom, a_draftKind, a_draftFrom, a_draftTo, a_draftNumber, a_draftFirst, a_draftSecond, a_draftParent, a_stack, a_kind, a_from, a_to, a_number, a_first, a_second, a_place, a_picked, a_lastGot, a_oldest, a_waiting, a_slotLabel, a_slotValue) (nI t) l)
    (ho : a_oldest (r * 3 + q) = nI o) (ho4 : o < 4) (hn : a_waiting (r * 3 + q) = nI n) (hn4 : n < 4)
    (h : post l (f_draftCount, f_stackCount, f_termCount, f_root, f_sentCount + 1, f_walkedFrom, a_draftKind, a_draftFrom, a_draftTo, a_draftNumber, a_draftFirst, a_draftSecond, a_draftParent, a_stack, a_kind, a_from, a_to, a_number, a_first, a_second, upd a_place r (nI y), upd a_picked r (-1), a_lastGot, a_oldest, upd a_waiting (r * 3 + q) (nI (n + 1)), upd a_slotLabel ((r * 3 + q) * 4 + (o + n) % 4) l, upd a_slotValue ((r * 3 + q) * 4 + (o + n) % 4) v)) :
    wX_send_94 post (nI r) p1 v (nI t) 0 l f_draftCount f_stackCount f_termCount f_root f_sentCount f_walkedFrom a_draftKind a_draftFrom a_draftTo a_draftNumber a_draftFirst a_draftSecond a_draftParent a_stack a_kind a_from a_to a_number a_first a_second a_place a_picked a_lastGot a_oldest a_waiting a_slotLabel a_slotValue := by
  unfold wX_send_94
  refine hos _ (xs_putOnWay hr hq ho ho4 hn hn4 (br_t rfl ?_))
  exact xs_goOn hr (fun P hP => hf P _ _ _ _ hP) h
/-- a picking of c -/
theorem xs_sendPick {post : Int32 → SX → Prop} {r t c q o n y : Nat} {v : Int32} (hr : r < 3) (hq : q < 3) (hos : ∀ P : Int32 → Prop, P (nI q) → wpX_otherSide P (f_draftCount, f_stackCount, f_termCount, f_root, f_sentCount, f_walkedFrom, a_draftKind, a_draftFrom, a_draftTo, a_draftNumber, a_draftFirst, a_draftSecond, a_draftParent, a_stack, a_kind, a_from, a_to, a_number, a_first, a_second, a_place, a_picked, a_lastGot, a_oldest, a_waiting, a_slotLabel, a_slotValue) (nI t) (nI r))
    (hf : ∀ (P : Int32 → Prop) (f_sentCount : Int32) (a_waiting a_slotLabel a_slotValue a_picked : Nat → Int32), P (nI y) → wpX_following P (f_draftCount, f_stackCount, f_termCount, f_root, f_sentCount, f_walkedFrom, a_draftKind, a_draftFrom, a_draftTo, a_draftNumber, a_draftFirst, a_draftSecond, a_draftParent, a_stack, a_kind, a_from, a_to, a_number, a_first, a_second, a_place, a_picked, a_lastGot, a_oldest, a_waiting, a_slotLabel, a_slotValue) (nI t) (nI c))
    (ho : a_oldest (r * 3 + q) = nI o) (ho4 : o < 4) (hn : a_waiting (r * 3 + q) = nI n) (hn4 : n < 4)
    (h : post (nI c) (f_draftCount, f_stackCount, f_termCount, f_root, f_sentCount + 1, nI y, a_draftKind, a_draftFrom, a_draftTo, a_draftNumber, a_draftFirst, a_draftSecond, a_draftParent, a_stack, a_kind, a_from, a_to, a_number, a_first, a_second, a_place, upd a_picked r (nI c), a_lastGot, a_oldest, upd a_waiting (r * 3 + q) (nI (n + 1)), upd a_slotLabel ((r * 3 + q) * 4 + (o + n) % 4) (nI c), upd a_slotValue ((r * 3 + q) * 4 + (o + n) % 4) v)) :
    wX_send_94 post (nI r) (nI c) v (nI t) 1 (nI c) f_draftCount f_stackCount f_termCount f_root f_sentCount f_walkedFrom a_draftKind a_draftFrom a_draftTo a_draftNumber a_draftFirst a_draftSecond a_draftParent a_stack a_kind a_from a_to a_number a_first a_second a_place a_picked a_lastGot a_oldest a_waiting a_slotLabel a_slotValue := by
  unfold wX_send_94
  refine hos _ (xs_putOnWay hr hq ho ho4 hn hn4 (br_f (by decide) ⟨vp_in_nI hr (by decide), ?_⟩))
  refine nm_r (e' := upd a_picked r (nI c)) (by rw [nI_clamp (n := r) (by omega)]) ?_
  exact hf _ _ _ _ _ _ h
theorem pr_updlt {f : Nat → Int32} {x : Int32} (i : Nat) : upd (fun j => if j < i then x else f j) i x = fun j => if j < i + 1 then x else f j := by
  funext j
  show (if j = i then x else if j < i then x else f j) = if j < i + 1 then x else f j
  by_cases c : j = i
  · rw [if_pos c, if_pos (by omega)]
  · rw [if_neg c]
    by_cases c2 : j < i
    · rw [if_pos c2, if_pos (by omega)]
    · rw [if_neg c2, if_neg (by omega)]
theorem xs_br39 {post : SX → Prop} (h : post (f_draftCount, f_stackCount, f_termCount, f_root, 0, f_root, a_draftKind, a_draftFrom, a_draftTo, a_draftNumber, a_draftFirst, a_draftSecond, a_draftParent, a_stack, a_kind, a_from, a_to, a_number, a_first, a_second, a_place, a_picked, a_lastGot, fun j => if j < 9 then 0 else a_oldest j, fun j => if j < 9 then 0 else a_waiting j, a_slotLabel, a_slotValue)) : ∃ n, wX_beginRun_39 post f_draftCount f_stackCount f_termCount f_root f_sentCount f_walkedFrom n 0 a_draftKind a_draftFrom a_draftTo a_draftNumber a_draftFirst a_draftSecond a_draftParent a_stack a_kind a_from a_to a_number a_first a_second a_place a_picked a_lastGot a_oldest a_waiting a_slotLabel a_slotValue := by
  refine loop_0 (fun n i (s : (Nat → Int32) × (Nat → Int32)) => wX_beginRun_39 post f_draftCount f_stackCount f_termCount f_root f_sentCount f_walkedFrom n (nI i) a_draftKind a_draftFrom a_draftTo a_draftNumber a_draftFirst a_draftSecond a_draftParent a_stack a_kind a_from a_to a_number a_first a_second a_place a_picked a_lastGot (s.1) (s.2) a_slotLabel a_slotValue)
    (fun i s => s = ((fun j => if j < i then 0 else a_oldest j), (fun j => if j < i then 0 else a_waiting j))) 9 (a_oldest, a_waiting) ?_ ?_ ?_
  · simp
  · intro n s e
    subst e
    exact br_t (nI_le (a := 9) (b := 9) (by omega) (by decide)) h
  · intro n i s hi e hk
    subst e
    have i9 : vp_in (nI i) 9 := vp_in_nI hi (by decide)
    refine br_f (nI_ge (b := 9) hi (by decide)) ⟨i9, nm_e ⟨i9, nm_e (nm_r (nI_1 i) (hk (_, _) ?_))⟩⟩
    rw [nI_clamp (n := i) (by omega)]
    exact Prod.ext (pr_updlt i) (pr_updlt i)
theorem xs_beginRun {post : SX → Prop} (h : post (f_draftCount, f_stackCount, f_termCount, f_root, 0, f_root, a_draftKind, a_draftFrom, a_draftTo, a_draftNumber, a_draftFirst, a_draftSecond, a_draftParent, a_stack, a_kind, a_from, a_to, a_number, a_first, a_second, fun j => if j < 3 then f_root else a_place j, fun j => if j < 3 then -1 else a_picked j, fun j => if j < 3 then 0 else a_lastGot j, fun j => if j < 9 then 0 else a_oldest j, fun j => if j < 9 then 0 else a_waiting j, a_slotLabel, a_slotValue)) : wpX_beginRun post (f_draftCount, f_stackCount, f_termCount, f_root, f_sentCount, f_walkedFrom, a_draftKind, a_draftFrom, a_draftTo, a_draftNumber, a_draftFirst, a_draftSecond, a_draftParent, a_stack, a_kind, a_from, a_to, a_number, a_first, a_second, a_place, a_picked, a_lastGot, a_oldest, a_waiting, a_slotLabel, a_slotValue) := by
  refine loop_0 (fun n i (s : (Nat → Int32) × (Nat → Int32) × (Nat → Int32)) => wX_beginRun_2 post f_draftCount f_stackCount f_termCount f_root f_sentCount f_walkedFrom n (nI i) a_draftKind a_draftFrom a_draftTo a_draftNumber a_draftFirst a_draftSecond a_draftParent a_stack a_kind a_from a_to a_number a_first a_second (s.1) (s.2.1) (s.2.2) a_oldest a_waiting a_slotLabel a_slotValue)
    (fun i s => s = ((fun j => if j < i then f_root else a_place j), (fun j => if j < i then -1 else a_picked j), (fun j => if j < i then 0 else a_lastGot j))) 3 (a_place, a_picked, a_lastGot) ?_ ?_ ?_
  · simp
  · intro n s e
    subst e
    exact br_t (nI_le (a := 3) (b := 3) (by omega) (by decide)) (xs_br39 h)
  · intro n i s hi e hk
    subst e
    have i3 : vp_in (nI i) 3 := vp_in_nI hi (by decide)
    refine br_f (nI_ge (b := 3) hi (by decide)) ⟨i3, nm_e ⟨i3, nm_e ⟨i3, nm_e (nm_r (nI_1 i) (hk (_, _, _) ?_))⟩⟩⟩
    rw [nI_clamp (n := i) (by omega)]
    exact Prod.ext (pr_updlt i) (Prod.ext (pr_updlt i) (pr_updlt i))
end
end PRK
end
section
section PRL
/-! the component: the draft -/
section
variable {f_draftCount f_stackCount f_termCount f_root f_sentCount f_walkedFrom : Int32} {a_draftKind a_draftFrom a_draftTo a_draftNumber a_draftFirst a_draftSecond a_draftParent a_stack a_kind a_from a_to a_number a_first a_second a_place a_picked a_lastGot a_oldest a_waiting a_slotLabel a_slotValue : Nat → Int32} {d : dd_T} {m e : Nat} {st : Nat → Nat}
theorem dd_ale (ok : dd_ok d m e st) {q : Nat} (hq : q ≤ e) : dd_a st m e q ≤ m := by
  unfold dd_a
  split
  · have := (ok.2.2.2.2.1 (e - q) (by omega)).1
    omega
  · exact Nat.le_refl m
theorem dd_ble (ok : dd_ok d m e st) {q : Nat} (hq : q ≤ e) : dd_b st m e q ≤ m := by
  unfold dd_b
  split
  · have := (ok.2.2.2.2.1 (e - q + 1) (by omega)).1
    omega
  · exact dd_ale ok hq
theorem xr_D_put {q k f t n : Nat} (D : xr_D d m e st f_draftCount f_stackCount a_draftKind a_draftFrom a_draftTo a_draftNumber a_draftFirst a_draftSecond a_draftParent a_stack) (hq : q ≤ e) (hn4 : n < 4) (a b : Nat) :
    xr_D (dd_put d m k f t n a b) (m + 1) (e - q + 1) (pr_fu st (e - q) m) (nI (m + 1)) (nI (e - q + 1)) (upd a_draftKind m (nI k)) (upd a_draftFrom m (nI f)) (upd a_draftTo m (nI t)) (upd a_draftNumber m (nI n)) (upd a_draftFirst m (nI a)) (upd a_draftSecond m (nI b)) (upd (upd (upd a_draftParent a (nI m)) b (nI m)) m (-1)) (upd a_stack (e - q) (nI m)) := by
  obtain ⟨-, -, h1, h2, h3⟩ := D
  refine ⟨rfl, rfl, ?_, ?_, ?_⟩
  · intro i hi
    by_cases c : i = m
    · subst c
      refine ⟨?_, ?_, ?_, ?_, ?_, ?_, ?_⟩
      · rw [pk_us]; exact congrArg nI (pr_fus _ _ _).symm
      · rw [pk_us]; exact congrArg nI (pr_fus _ _ _).symm
      · rw [pk_us]; exact congrArg nI (pr_fus _ _ _).symm
      · rw [pk_us]; exact congrArg nI (pr_fus _ _ _).symm
      · rw [pk_us]; exact congrArg nI (pr_fus _ _ _).symm
      · rw [pk_us]; exact congrArg nI (pr_fus _ _ _).symm
      · rw [pk_us]; exact congrArg pr_oI (pr_fus _ _ (none : Option Nat)).symm
    · obtain ⟨g1, g2, g3, g4, g5, g6, g7⟩ := h1 i (by omega)
      refine ⟨?_, ?_, ?_, ?_, ?_, ?_, ?_⟩
      · rw [pk_un c, g1]; exact congrArg nI (pr_fun _ _ c).symm
      · rw [pk_un c, g2]; exact congrArg nI (pr_fun _ _ c).symm
      · rw [pk_un c, g3]; exact congrArg nI (pr_fun _ _ c).symm
      · rw [pk_un c, g4]; exact congrArg nI (pr_fun _ _ c).symm
      · rw [pk_un c, g5]; exact congrArg nI (pr_fun _ _ c).symm
      · rw [pk_un c, g6]; exact congrArg nI (pr_fun _ _ c).symm
      · rw [pk_un c]
        show _ = pr_oI (pr_fu (pr_fu (pr_fu (dd_p d) a (some m)) b (some m)) m none i)
        rw [pr_fun _ _ c]
        by_cases cb : i = b
        · rw [cb, pk_us, pr_fus]; rfl
        · rw [pk_un cb, pr_fun _ _ cb]
          by_cases ca : i = a
          · rw [ca, pk_us, pr_fus]; rfl
          · rw [pk_un ca, pr_fun _ _ ca, g7]
  · intro i hi
    by_cases c : i = e - q
    · rw [c, pk_us, pr_fus]
    · rw [pk_un c, pr_fun _ _ c]
      exact h2 i (by omega)
  · intro i hi
    by_cases c : i = m
    · subst c
      show pr_fu (dd_n d) i n i < 4
      rw [pr_fus]; exact hn4
    · show pr_fu (dd_n d) m n i < 4
      rw [pr_fun _ _ c]; exact h3 i (by omega)
theorem xs_pushTerm {post : Int32 → SX → Prop} {q k f t n : Nat} (ok : dd_ok d m e st) (D : xr_D d m e st f_draftCount f_stackCount a_draftKind a_draftFrom a_draftTo a_draftNumber a_draftFirst a_draftSecond a_draftParent a_stack) (hq2 : q ≤ 2)
    (h20 : ¬ m < 20 → post (-2) (f_draftCount, f_stackCount, f_termCount, f_root, f_sentCount, f_walkedFrom, a_draftKind, a_draftFrom, a_draftTo, a_draftNumber, a_draftFirst, a_draftSecond, a_draftParent, a_stack, a_kind, a_from, a_to, a_number, a_first, a_second, a_place, a_picked, a_lastGot, a_oldest, a_waiting, a_slotLabel, a_slotValue)) (hfew : m < 20 → e < q → post (-3) (f_draftCount, f_stackCount, f_termCount, f_root, f_sentCount, f_walkedFrom, a_draftKind, a_draftFrom, a_draftTo, a_draftNumber, a_draftFirst, a_draftSecond, a_draftParent, a_stack, a_kind, a_from, a_to, a_number, a_first, a_second, a_place, a_picked, a_lastGot, a_oldest, a_waiting, a_slotLabel, a_slotValue))
    (h : m < 20 → q ≤ e → post (nI (e - q + 1)) (nI (m + 1), nI (e - q + 1), f_termCount, f_root, f_sentCount, f_walkedFrom, upd a_draftKind m (nI k), upd a_draftFrom m (nI f), upd a_draftTo m (nI t), upd a_draftNumber m (nI n), upd a_draftFirst m (nI (dd_a st m e q)), upd a_draftSecond m (nI (dd_b st m e q)), upd (upd (upd a_draftParent (dd_a st m e q) (nI m)) (dd_b st m e q) (nI m)) m (-1), upd a_stack (e - q) (nI m), a_kind, a_from, a_to, a_number, a_first, a_second, a_place, a_picked, a_lastGot, a_oldest, a_waiting, a_slotLabel, a_slotValue)) :
    wpX_pushTerm post (f_draftCount, f_stackCount, f_termCount, f_root, f_sentCount, f_walkedFrom, a_draftKind, a_draftFrom, a_draftTo, a_draftNumber, a_draftFirst, a_draftSecond, a_draftParent, a_stack, a_kind, a_from, a_to, a_number, a_first, a_second, a_place, a_picked, a_lastGot, a_oldest, a_waiting, a_slotLabel, a_slotValue) (nI k) (nI f) (nI t) (nI n) (nI q) := by
  obtain ⟨c1, c2, h1, h2, -⟩ := D
  have om := ok.1
  have oe := ok.2.1
  subst c1 c2
  refine pk_lt m 20 (fun hm => pk_le q e (fun hq => ?_) (fun hq => hfew hm hq)) (fun hm => h20 (by omega))
  have h := h hm hq
  have ha := dd_ale ok hq
  have hb := dd_ble ok hq
  have i20 : vp_in (nI m) 20 := vp_in_nI hm (by decide)
  have key : ∀ z0 : Int32, z0 = nI (dd_a st m e q) → wX_pushTerm_109 post (nI q) (nI m) z0 (nI m) (nI (m + 1)) (nI (e - q)) f_termCount f_root f_sentCount f_walkedFrom (upd a_draftKind m (nI k)) (upd a_draftFrom m (nI f)) (upd a_draftTo m (nI t)) (upd a_draftNumber m (nI n)) a_draftFirst a_draftSecond a_draftParent a_stack a_kind a_from a_to a_number a_first a_second a_place a_picked a_lastGot a_oldest a_waiting a_slotLabel a_slotValue := by
    intro z0 ez
    subst ez
    have key2 : ∀ z0 : Int32, z0 = nI (dd_b st m e q) → wX_pushTerm_143 post (nI m) z0 (nI m) (nI (m + 1)) (nI (e - q)) f_termCount f_root f_sentCount f_walkedFrom (upd a_draftKind m (nI k)) (upd a_draftFrom m (nI f)) (upd a_draftTo m (nI t)) (upd a_draftNumber m (nI n)) (upd a_draftFirst m (nI (dd_a st m e q))) a_draftSecond a_draftParent a_stack a_kind a_from a_to a_number a_first a_second a_place a_picked a_lastGot a_oldest a_waiting a_slotLabel a_slotValue := by
      intro z0 ez
      subst ez
      unfold wX_pushTerm_143
      rw [nI_clamp (n := m) (by omega), nI_clamp (n := e - q) (by omega), pk_us, nI_clamp (n := dd_a st m e q) (by omega)]
      refine ⟨i20, nm_e ?_⟩
      rw [pk_us, nI_clamp (n := dd_b st m e q) (by omega)]
      exact ⟨i20, vp_in_nI (by omega) (by decide), nm_e ⟨i20, vp_in_nI (by omega) (by decide), nm_e ⟨i20, nm_e ⟨vp_in_nI (by omega) (by decide), nm_e (nm_r (nI_1 _) h)⟩⟩⟩⟩
    unfold wX_pushTerm_109
    rw [nI_clamp (n := m) (by omega)]
    refine ⟨i20, nm_e (pk_le q 1 (fun c => ⟨i20, key2 _ ?_⟩) (fun c => ?_))⟩
    · rw [pk_us]
      unfold dd_b
      rw [if_neg (by omega)]
    · rw [nI_1, nI_clamp (n := e - q + 1) (by omega)]
      refine ⟨vp_in_nI (by omega) (by decide), key2 _ ?_⟩
      rw [h2 (e - q + 1) (by omega)]
      unfold dd_b
      rw [if_pos c]
  refine nm_r (nI_1 m) (nm_r (pk_sub hq) ?_)
  rw [nI_clamp (n := m) (by omega), nI_clamp (n := e - q) (by omega)]
  refine ⟨i20, nm_e ⟨i20, nm_e ⟨i20, nm_e ⟨i20, nm_e (pk_le q 0 (fun c => key _ ?_) (fun c => ⟨vp_in_nI (by omega) (by decide), key _ ?_⟩))⟩⟩⟩⟩
  · unfold dd_a
    rw [if_neg (by omega)]
  · rw [h2 (e - q) (by omega)]
    unfold dd_a
    rw [if_pos c]
/-- the component's loopOf -/
def dd_lo (o : Option (Nat × Bool)) : Int32 := match o with
  | some (l, true) => nI l
  | _ => -1
theorem xs_lo12 {post : Int32 → Prop} {i : Nat} (ok : dd_ok d m e st) (D : xr_D d m e st f_draftCount f_stackCount a_draftKind a_draftFrom a_draftTo a_draftNumber a_draftFirst a_draftSecond a_draftParent a_stack) (hi : i < m) : ∀ (q s : Nat) (o : Option Nat) (b : Bool), (∀ t, o = some t → t < m ∧ 1 ≤ dd_k d t) → s + q = 20 → post (dd_lo (dd_up (dd_k d) (dd_n d) (dd_p d) (dd_n d i) q o b)) → wX_loopOf_12 post (nI i) f_draftCount f_stackCount f_termCount f_root f_sentCount f_walkedFrom a_draftKind a_draftFrom a_draftTo a_draftNumber a_draftFirst a_draftSecond a_draftParent a_stack a_kind a_from a_to a_number a_first a_second a_place a_picked a_lastGot a_oldest a_waiting a_slotLabel a_slotValue (q + 1) (pr_bI b) (pr_oI o) (nI s) := by
  have om := ok.1
  have hin := dd_dd_in ok
  have hn : ∀ j, j < m → dd_n d j < 2 ^ 31 := fun j hj => by have := D.2.2.2.2 j hj; omega
  intro q
  induction q with
  | zero =>
    intro s o b ho hs h
    have : s = 20 := by omega
    subst this
    exact br_t (nI_le (a := 20) (b := 20) (by omega) (by decide)) h
  | succ q ih =>
    intro s o b ho hs h
    refine br_f (nI_ge (b := 20) (by omega) (by decide)) ?_
    cases o with
    | none => exact br_t rfl h
    | some t =>
      have ht := (ho t rfl).1
      have hk1 := (ho t rfl).2
      have i20 : vp_in (nI t) 20 := vp_in_nI (by omega) (by decide)
      obtain ⟨g1, g2, g3, g4, g5, g6, g7⟩ := D.2.2.1 t ht
      have gi := (D.2.2.1 i hi).2.2.2.1
      have bk := (ok.2.2.2.2.2.2 t ht).1
      refine br_f (pr_nm1 (by omega)) ?_
      have h' : post (dd_lo (if dd_k d t = 3 ∧ dd_n d t = dd_n d i then some (t, b) else dd_up (dd_k d) (dd_n d) (dd_p d) (dd_n d i) q (dd_p d t) (b || decide (dd_k d t < 3)))) := h
      have hp : ∀ s', dd_p d t = some s' → s' < m ∧ 1 ≤ dd_k d s' := fun s' hs' => ⟨(hin t ht s' hs').2.1, (hin t ht s' hs').2.2.1⟩
      have key : ¬ (dd_k d t = 3 ∧ dd_n d t = dd_n d i) → wX_loopOf_59 post (wX_loopOf_12 post (nI i) f_draftCount f_stackCount f_termCount f_root f_sentCount f_walkedFrom a_draftKind a_draftFrom a_draftTo a_draftNumber a_draftFirst a_draftSecond a_draftParent a_stack a_kind a_from a_to a_number a_first a_second a_place a_picked a_lastGot a_oldest a_waiting a_slotLabel a_slotValue (q + 1)) (nI i) (pr_bI b) (nI t) (nI s) f_draftCount f_stackCount f_termCount f_root f_sentCount f_walkedFrom a_draftKind a_draftFrom a_draftTo a_draftNumber a_draftFirst a_draftSecond a_draftParent a_stack a_kind a_from a_to a_number a_first a_second a_place a_picked a_lastGot a_oldest a_waiting a_slotLabel a_slotValue := by
        intro hne
        rw [if_neg hne] at h'
        unfold wX_loopOf_59 wX_loopOf_79
        rw [nI_clamp (n := t) (by omega), g1]
        refine ⟨i20, pk_eq (dd_k d t) 1 (fun c => ⟨i20, nm_r g7 (nm_r (nI_1 s) ?_)⟩) (fun c1 => ⟨i20, pk_eq (dd_k d t) 2 (fun c => ⟨i20, nm_r g7 (nm_r (nI_1 s) ?_)⟩) (fun c2 => ⟨i20, nm_r g7 (nm_r (nI_1 s) ?_)⟩)⟩)⟩
        · refine ih (s + 1) (dd_p d t) true hp (by omega) ?_
          rw [show (b || decide (dd_k d t < 3)) = true from by simp [c]] at h'
          exact h'
        · refine ih (s + 1) (dd_p d t) true hp (by omega) ?_
          rw [show (b || decide (dd_k d t < 3)) = true from by simp [c]] at h'
          exact h'
        · refine ih (s + 1) (dd_p d t) b hp (by omega) ?_
          rw [show (b || decide (dd_k d t < 3)) = b from by
            have : ¬ dd_k d t < 3 := by omega
            simp [this]] at h'
          exact h'
      refine ⟨i20, ?_⟩
      rw [show pr_oI (some t) = nI t from rfl, nI_clamp (n := t) (by omega), nI_clamp (n := i) (by omega), g1, g4, gi]
      refine pk_eq (dd_k d t) 3 (fun c => ⟨i20, vp_in_nI (by omega) (by decide), pk_eq (dd_n d t) (dd_n d i) (fun c2 => ?_) (fun c2 => key (fun z => c2 z.2)) rfl rfl (hn t ht) (hn i hi)⟩) (fun c => key (fun z => c z.1))
      rw [if_pos ⟨c, c2⟩] at h'
      cases b with
      | false => exact br_t rfl h'
      | true => exact br_f (by decide) h'
theorem xs_loopOf {post : Int32 → Prop} {i : Nat} (ok : dd_ok d m e st) (D : xr_D d m e st f_draftCount f_stackCount a_draftKind a_draftFrom a_draftTo a_draftNumber a_draftFirst a_draftSecond a_draftParent a_stack) (hi : i < m) (h : post (dd_lo (dd_up (dd_k d) (dd_n d) (dd_p d) (dd_n d i) 20 (dd_p d i) false))) : wpX_loopOf post (f_draftCount, f_stackCount, f_termCount, f_root, f_sentCount, f_walkedFrom, a_draftKind, a_draftFrom, a_draftTo, a_draftNumber, a_draftFirst, a_draftSecond, a_draftParent, a_stack, a_kind, a_from, a_to, a_number, a_first, a_second, a_place, a_picked, a_lastGot, a_oldest, a_waiting, a_slotLabel, a_slotValue) (nI i) := by
  have om := ok.1
  have hin := dd_dd_in ok
  refine ⟨vp_in_nI (by omega) (by decide), nm_r (e' := pr_oI (dd_p d i)) ?_ ⟨20 + 1, ?_⟩⟩
  · rw [nI_clamp (n := i) (by omega)]
    exact (D.2.2.1 i hi).2.2.2.2.2.2
  · exact xs_lo12 ok D hi 20 0 (dd_p d i) false (fun t ht => ⟨(hin i hi t ht).2.1, (hin i hi t ht).2.2.1⟩) (by omega) h
/-- every again has its loop -/
def dd_fit (d : dd_T) (m : Nat) : Prop := ∀ i, i < m → dd_k d i = 4 → ∃ l, dd_up (dd_k d) (dd_n d) (dd_p d) (dd_n d i) 20 (dd_p d i) false = some (l, true)
theorem dd_lo_m1 {ok : dd_ok d m e st} {i : Nat} (hi : i < m) : dd_lo (dd_up (dd_k d) (dd_n d) (dd_p d) (dd_n d i) 20 (dd_p d i) false) = -1 ↔ ¬ ∃ l, dd_up (dd_k d) (dd_n d) (dd_p d) (dd_n d i) 20 (dd_p d i) false = some (l, true) := by
  have om := ok.1
  have hin := dd_dd_in ok
  have hl := dd_up_l (x := dd_n d) (tt := dd_n d i) hin 20 (dd_p d i) false
  cases hu : dd_up (dd_k d) (dd_n d) (dd_p d) (dd_n d i) 20 (dd_p d i) false with
  | none => exact ⟨fun _ => fun ⟨l, h⟩ => absurd h (by simp), fun _ => rfl⟩
  | some y =>
    obtain ⟨l, b⟩ := y
    cases b with
    | false => exact ⟨fun _ => fun ⟨l, h⟩ => absurd h (by simp), fun _ => rfl⟩
    | true =>
      have := (hl l true (fun t ht => (hin i hi t ht).2.1) hu).1
      exact ⟨fun h => absurd h (pr_nm1 (by omega)), fun h => absurd ⟨l, rfl⟩ h⟩
theorem xs_every {post : Int32 → Prop} (ok : dd_ok d m e st) (D : xr_D d m e st f_draftCount f_stackCount a_draftKind a_draftFrom a_draftTo a_draftNumber a_draftFirst a_draftSecond a_draftParent a_stack) (h1 : dd_fit d m → post 1) (h0 : ¬ dd_fit d m → post 0) : wpX_everyAgainHasItsLoop post (f_draftCount, f_stackCount, f_termCount, f_root, f_sentCount, f_walkedFrom, a_draftKind, a_draftFrom, a_draftTo, a_draftNumber, a_draftFirst, a_draftSecond, a_draftParent, a_stack, a_kind, a_from, a_to, a_number, a_first, a_second, a_place, a_picked, a_lastGot, a_oldest, a_waiting, a_slotLabel, a_slotValue) := by
  have om := ok.1
  have hc := D.1
  subst hc
  refine loop_0 (fun n i (_ : Unit) => wX_everyAgainHasItsLoop_2 post (nI m) f_stackCount f_termCount f_root f_sentCount f_walkedFrom a_draftKind a_draftFrom a_draftTo a_draftNumber a_draftFirst a_draftSecond a_draftParent a_stack a_kind a_from a_to a_number a_first a_second a_place a_picked a_lastGot a_oldest a_waiting a_slotLabel a_slotValue n (nI i))
    (fun i _ => ∀ j, j < i → dd_k d j = 4 → ∃ l, dd_up (dd_k d) (dd_n d) (dd_p d) (dd_n d j) 20 (dd_p d j) false = some (l, true)) m () ?_ ?_ ?_
  · intro j hj; omega
  · intro n s hI
    exact br_t (nI_le (by omega) (by omega)) (h1 hI)
  · intro n i s hi hI hk
    have i20 : vp_in (nI i) 20 := vp_in_nI (by omega) (by decide)
    refine br_f (nI_ge hi (by omega)) ⟨i20, ?_⟩
    rw [nI_clamp (n := i) (by omega), (D.2.2.1 i hi).1]
    have bk := (ok.2.2.2.2.2.2 i hi).1
    refine pk_eq (dd_k d i) 4 (fun c => xs_loopOf ok D hi ?_) (fun c => nm_r (nI_1 i) (hk () ?_))
    · by_cases z : ∃ l, dd_up (dd_k d) (dd_n d) (dd_p d) (dd_n d i) 20 (dd_p d i) false = some (l, true)
      · refine br_f (fun y => (dd_lo_m1 (ok := ok) hi).mp y z) (nm_r (nI_1 i) (hk () ?_))
        intro j hj k4
        by_cases cj : j = i
        · subst cj; exact z
        · exact hI j (by omega) k4
      · exact br_t ((dd_lo_m1 (ok := ok) hi).mpr z) (h0 (fun F => z (F i hi c)))
    · intro j hj k4
      by_cases cj : j = i
      · subst cj; exact absurd k4 c
      · exact hI j (by omega) k4
end
end PRL
end
section
section PRM
/-! the component: the protocol, and whether a run can finish -/
section
variable {f_draftCount f_stackCount f_termCount f_root f_sentCount f_walkedFrom : Int32} {a_draftKind a_draftFrom a_draftTo a_draftNumber a_draftFirst a_draftSecond a_draftParent a_stack a_kind a_from a_to a_number a_first a_second a_place a_picked a_lastGot a_oldest a_waiting a_slotLabel a_slotValue : Nat → Int32} {d : dd_T} {m e : Nat} {st : Nat → Nat} {g : pg_T}
def dd_l (d : dd_T) (i : Nat) : Nat := match dd_up (dd_k d) (dd_n d) (dd_p d) (dd_n d i) 20 (dd_p d i) false with
  | some (l, _) => l
  | none => 0
theorem dd_l_fit (fit : dd_fit d m) : ∀ i, i < m → dd_k d i = 4 → dd_up (dd_k d) (dd_n d) (dd_p d) (dd_n d i) 20 (dd_p d i) false = some (dd_l d i, true) := by
  intro i hi h4
  obtain ⟨l, hl⟩ := fit i hi h4
  unfold dd_l
  rw [hl]
theorem xs_takeOver {post : SX → Prop} (ok : dd_ok d m e st) (D : xr_D d m e st f_draftCount f_stackCount a_draftKind a_draftFrom a_draftTo a_draftNumber a_draftFirst a_draftSecond a_draftParent a_stack) (fit : dd_fit d m) (he : e = 1)
    (h : ∀ k1 k2 k3 k4 k5 k6 : Nat → Int32, xr_P (dd_gr d m (dd_l d)) (nI m) (nI (m - 1)) k1 k2 k3 k4 k5 k6 → post (nI m, f_stackCount, nI m, nI (m - 1), f_sentCount, f_walkedFrom, a_draftKind, a_draftFrom, a_draftTo, a_draftNumber, a_draftFirst, a_draftSecond, a_draftParent, a_stack, k1, k2, k3, k4, k5, k6, a_place, a_picked, a_lastGot, a_oldest, a_waiting, a_slotLabel, a_slotValue)) : wpX_takeOverDraft post (f_draftCount, f_stackCount, f_termCount, f_root, f_sentCount, f_walkedFrom, a_draftKind, a_draftFrom, a_draftTo, a_draftNumber, a_draftFirst, a_draftSecond, a_draftParent, a_stack, a_kind, a_from, a_to, a_number, a_first, a_second, a_place, a_picked, a_lastGot, a_oldest, a_waiting, a_slotLabel, a_slotValue) := by
  have om := ok.1
  have hc := D.1
  subst hc
  have hl := dd_l_fit fit
  refine loop_0 (fun n i (s : (Nat → Int32) × (Nat → Int32) × (Nat → Int32) × (Nat → Int32) × (Nat → Int32) × (Nat → Int32)) => wX_takeOverDraft_2 post (nI m) f_stackCount f_termCount f_root f_sentCount f_walkedFrom n (nI i) a_draftKind a_draftFrom a_draftTo a_draftNumber a_draftFirst a_draftSecond a_draftParent a_stack (s.1) (s.2.1) (s.2.2.1) (s.2.2.2.1) (s.2.2.2.2.1) (s.2.2.2.2.2) a_place a_picked a_lastGot a_oldest a_waiting a_slotLabel a_slotValue)
    (fun i s => ∀ j, j < i → s.1 j = nI (dd_k d j) ∧ s.2.1 j = nI (dd_f d j) ∧ s.2.2.1 j = nI (dd_t d j) ∧ s.2.2.2.1 j = nI (dd_n d j) ∧ s.2.2.2.2.1 j = nI (if dd_k d j = 4 then dd_l d j else dd_1 d j) ∧ s.2.2.2.2.2 j = nI (if dd_k d j = 4 then dd_l d j else dd_2 d j)) m (a_kind, a_from, a_to, a_number, a_first, a_second) ?_ ?_ ?_
  · intro j hj; omega
  · intro n s hI
    refine br_t (nI_le (by omega) (by omega)) (nm_r (e' := nI (m - 1)) ?_ (h _ _ _ _ _ _ ⟨rfl, rfl, hI⟩))
    rw [D.2.2.2.1 0 (by omega)]
    have := ok.2.2.2.1 (by omega)
    rw [he] at this
    exact congrArg nI (by have : st (1 - 1) = st 0 := rfl; omega)
  · intro n i s hi hI hk
    have i20 : vp_in (nI i) 20 := vp_in_nI (by omega) (by decide)
    obtain ⟨g1, g2, g3, g4, g5, g6, g7⟩ := D.2.2.1 i hi
    have bk := (ok.2.2.2.2.2.2 i hi).1
    refine br_f (nI_ge hi (by omega)) ?_
    rw [nI_clamp (n := i) (by omega), g1, g2, g3, g4, g5, g6]
    refine ⟨i20, i20, nm_e ⟨i20, i20, nm_e ⟨i20, i20, nm_e ⟨i20, i20, nm_e ⟨i20, i20, nm_e ⟨i20, i20, nm_e ⟨i20, ?_⟩⟩⟩⟩⟩⟩⟩
    refine pk_eq (dd_k d i) 4 (fun c => xs_loopOf ok D hi ?_) (fun c => nm_r (nI_1 i) (hk (_, _, _, _, _, _) ?_))
    · rw [hl i hi c]
      refine ⟨i20, nm_e ⟨i20, i20, nm_e (nm_r (nI_1 i) (hk (_, _, _, _, _, _) ?_))⟩⟩
      intro j hj
      by_cases cj : j = i
      · subst cj
        refine ⟨pk_us, pk_us, pk_us, pk_us, ?_, ?_⟩
        · rw [if_pos c]; exact pk_us
        · rw [if_pos c]
          show upd _ j _ j = _
          rw [pk_us, pk_us]
          rfl
      · obtain ⟨q1, q2, q3, q4, q5, q6⟩ := hI j (by omega)
        refine ⟨(pk_un cj).trans q1, (pk_un cj).trans q2, (pk_un cj).trans q3, (pk_un cj).trans q4, ?_, ?_⟩
        · exact (pk_un cj).trans ((pk_un cj).trans q5)
        · exact (pk_un cj).trans ((pk_un cj).trans q6)
    · intro j hj
      by_cases cj : j = i
      · subst cj
        refine ⟨pk_us, pk_us, pk_us, pk_us, ?_, ?_⟩
        · rw [if_neg c]; exact pk_us
        · rw [if_neg c]; exact pk_us
      · obtain ⟨q1, q2, q3, q4, q5, q6⟩ := hI j (by omega)
        exact ⟨(pk_un cj).trans q1, (pk_un cj).trans q2, (pk_un cj).trans q3, (pk_un cj).trans q4, (pk_un cj).trans q5, (pk_un cj).trans q6⟩
theorem xs_protocol {post : Int32 → SX → Prop} (ok : dd_ok d m e st) (D : xr_D d m e st f_draftCount f_stackCount a_draftKind a_draftFrom a_draftTo a_draftNumber a_draftFirst a_draftSecond a_draftParent a_stack)
    (h3 : ¬ e = 1 → post (-3) (f_draftCount, f_stackCount, f_termCount, f_root, f_sentCount, f_walkedFrom, a_draftKind, a_draftFrom, a_draftTo, a_draftNumber, a_draftFirst, a_draftSecond, a_draftParent, a_stack, a_kind, a_from, a_to, a_number, a_first, a_second, a_place, a_picked, a_lastGot, a_oldest, a_waiting, a_slotLabel, a_slotValue)) (h5 : e = 1 → ¬ dd_fit d m → post (-5) (f_draftCount, f_stackCount, f_termCount, f_root, f_sentCount, f_walkedFrom, a_draftKind, a_draftFrom, a_draftTo, a_draftNumber, a_draftFirst, a_draftSecond, a_draftParent, a_stack, a_kind, a_from, a_to, a_number, a_first, a_second, a_place, a_picked, a_lastGot, a_oldest, a_waiting, a_slotLabel, a_slotValue))
    (h : e = 1 → dd_fit d m → ∀ k1 k2 k3 k4 k5 k6 : Nat → Int32, xr_P (dd_gr d m (dd_l d)) (nI m) (nI (m - 1)) k1 k2 k3 k4 k5 k6 → post (nI m) (0, 0, nI m, nI (m - 1), 0, nI (m - 1), a_draftKind, a_draftFrom, a_draftTo, a_draftNumber, a_draftFirst, a_draftSecond, a_draftParent, a_stack, k1, k2, k3, k4, k5, k6, fun j => if j < 3 then nI (m - 1) else a_place j, fun j => if j < 3 then -1 else a_picked j, fun j => if j < 3 then 0 else a_lastGot j, fun j => if j < 9 then 0 else a_oldest j, fun j => if j < 9 then 0 else a_waiting j, a_slotLabel, a_slotValue)) : wpX_protocol post (f_draftCount, f_stackCount, f_termCount, f_root, f_sentCount, f_walkedFrom, a_draftKind, a_draftFrom, a_draftTo, a_draftNumber, a_draftFirst, a_draftSecond, a_draftParent, a_stack, a_kind, a_from, a_to, a_number, a_first, a_second, a_place, a_picked, a_lastGot, a_oldest, a_waiting, a_slotLabel, a_slotValue) := by
  have om := ok.1
  have oe := ok.2.1
  have hc := D.2.1
  refine pk_eq e 1 (fun he => ?_) h3 hc rfl
  refine xs_every ok D (fun fit => br_f (by decide) ?_) (fun nf => br_t rfl (h5 he nf))
  refine xs_takeOver ok D fit he ?_
  intro k1 k2 k3 k4 k5 k6 hP
  exact xs_beginRun (h he fit k1 k2 k3 k4 k5 k6 hP)
theorem xs_canFinish {post : Int32 → Prop} {w : Nat} (ok : pg_ok g) (P : xr_P g f_termCount f_root a_kind a_from a_to a_number a_first a_second) (hw : w < pg_n g) (ew : f_walkedFrom = nI w) (h1 : pg_fin g w → post 1) (h0 : ¬ pg_fin g w → post 0) : wpX_canFinish post (f_draftCount, f_stackCount, f_termCount, f_root, f_sentCount, f_walkedFrom, a_draftKind, a_draftFrom, a_draftTo, a_draftNumber, a_draftFirst, a_draftSecond, a_draftParent, a_stack, a_kind, a_from, a_to, a_number, a_first, a_second, a_place, a_picked, a_lastGot, a_oldest, a_waiting, a_slotLabel, a_slotValue) := by
  have h20 := ok.2.1
  have hc := P.1
  subst hc ew
  refine nm_e ?_
  refine loop_0 (fun n i (s : Int32) => wX_canFinish_9 post f_draftCount f_stackCount (nI (pg_n g)) f_root f_sentCount (nI w) a_draftKind a_draftFrom a_draftTo a_draftNumber a_draftFirst a_draftSecond a_draftParent a_stack a_kind a_from a_to a_number a_first a_second a_place a_picked a_lastGot a_oldest a_waiting a_slotLabel a_slotValue n s (nI i))
    (fun i s => (∀ t, bt s t = true → t < pg_n g ∧ pg_re g w t) ∧ bt s w = true ∧ (i + 1 ≤ pr_cn (bt s) (pg_n g) ∨ ¬ pg_fin g w)) 20 _ ?_ ?_ ?_
  · refine ⟨?_, ?_, Or.inl ?_⟩
    · intro t ht
      by_cases c : t < 32
      · rw [pr_sh1 (by omega) c] at ht
        have : t = w := by simpa using ht
        subst this
        exact ⟨hw, pg_re_rf g t⟩
      · rw [b_big (by omega)] at ht
        exact absurd ht (by decide)
    · rw [pr_sh1 (by omega) (by omega)]
      simp
    · have hm := pr_cn_mo (P := fun i => decide (i = w)) (Q := bt ((1 : Int32) <<< (nI w &&& 31))) (pg_n g) (by
        intro i hi hp
        rw [pr_sh1 (by omega) (by omega)]
        exact hp)
      have : ∀ k, w < k → 1 ≤ pr_cn (fun i => decide (i = w)) k := by
        intro k
        induction k with
        | zero => intro z; omega
        | succ k ih =>
          intro z
          show 1 ≤ pr_cn (fun i => decide (i = w)) k + (if (decide (k = w)) = true then 1 else 0)
          by_cases c : k = w
          · simp [c]
          · have := ih (by omega)
            omega
      have := this _ hw
      omega
  · rintro n s ⟨-, -, hz⟩
    refine br_t (nI_le (a := 20) (b := 20) (by omega) (by decide)) (h0 ?_)
    rcases hz with hz | hz
    · have := pr_cn_le (bt s) (pg_n g)
      omega
    · exact hz
  · rintro n i s hi ⟨i1, i2, i3⟩ hk
    refine br_f (nI_ge (b := 20) hi (by decide)) ?_
    refine loop_0 (fun n' j (s' : Int32) => wX_canFinish_17 post (wX_canFinish_9 post f_draftCount f_stackCount (nI (pg_n g)) f_root f_sentCount (nI w) a_draftKind a_draftFrom a_draftTo a_draftNumber a_draftFirst a_draftSecond a_draftParent a_stack a_kind a_from a_to a_number a_first a_second a_place a_picked a_lastGot a_oldest a_waiting a_slotLabel a_slotValue n) (nI i) f_draftCount f_stackCount (nI (pg_n g)) f_root f_sentCount (nI w) a_draftKind a_draftFrom a_draftTo a_draftNumber a_draftFirst a_draftSecond a_draftParent a_stack a_kind a_from a_to a_number a_first a_second a_place a_picked a_lastGot a_oldest a_waiting a_slotLabel a_slotValue n' s' (nI j))
      (fun j s' => (∀ t, bt s t = true → bt s' t = true) ∧ (∀ t, bt s' t = true → t < pg_n g ∧ pg_re g w t) ∧ (∀ t, t < j → bt s t = true → pg_k g t ≠ 0 ∧ bt s' (pg_1 g t) = true ∧ bt s' (pg_2 g t) = true)) (pg_n g) s ?_ ?_ ?_
    · exact ⟨fun _ z => z, i1, fun t ht => by omega⟩
    · rintro n' s' ⟨j1, j2, j3⟩
      refine br_t (nI_le (by omega) (by omega)) (nm_r (nI_1 i) (hk s' ⟨j2, j1 w i2, ?_⟩))
      by_cases c : pr_cn (bt s') (pg_n g) ≤ pr_cn (bt s) (pg_n g)
      · refine Or.inr ?_
        have he := pr_cn_eq (pg_n g) (fun t _ => j1 t) c
        rintro ⟨b, hb, kb⟩
        have hC := pg_re_cl (C := fun x => bt s x = true) (by
          intro x hx
          have hn := (i1 x hx).1
          obtain ⟨a1, a2, a3⟩ := j3 x hn hx
          exact ⟨he _ (pg_1lt ok hn) a2, he _ (pg_2lt ok hn) a3⟩) hb i2
        exact (j3 b (i1 b hC).1 hC).1 kb
      · rcases i3 with i3 | i3
        · exact Or.inl (by omega)
        · exact Or.inr i3
    · rintro n' j s' hj ⟨j1, j2, j3⟩ hk'
      obtain ⟨i20, ek, ef, et, el, e1, e2⟩ := xr_at ok P hj
      obtain ⟨b1, b2, b3, -⟩ := ok.2.2.1 j hj
      refine br_f (nI_ge hj (by omega)) ?_
      by_cases c : bt s' j = true
      · refine br_t ((pr_get (by omega)).mpr c) ⟨i20, ?_⟩
        rw [ek, e1, e2]
        refine pk_eq (pg_k g j) 0 (fun z => h1 ⟨j, (j2 j c).2, z⟩) (fun z => ⟨i20, i20, nm_e (nm_r (nI_1 j) (hk' _ ⟨?_, ?_, ?_⟩))⟩)
        · intro t ht
          rw [b_or, j1 t ht]
          rfl
        · intro t ht
          by_cases c32 : t < 32
          · rw [b_or, b_or, pr_sh1 (by omega) c32, pr_sh1 (by omega) c32] at ht
            by_cases ca : bt s' t = true
            · exact j2 t ca
            · by_cases cb : t = pg_1 g j
              · rw [cb]; exact ⟨b2, pg_re_1 (j2 j c).2⟩
              · by_cases cc : t = pg_2 g j
                · rw [cc]; exact ⟨b3, pg_re_2 (j2 j c).2⟩
                · simp [cb, cc] at ht
                  exact absurd ht ca
          · rw [b_big (by omega)] at ht
            exact absurd ht (by decide)
        · intro t ht hb
          by_cases ct : t = j
          · subst ct
            refine ⟨z, ?_, ?_⟩
            · rw [b_or, b_or, pr_sh1 (n := pg_1 g t) (by omega) (by omega)]
              simp
            · rw [b_or, b_or, pr_sh1 (n := pg_2 g t) (by omega) (by omega)]
              simp
          · obtain ⟨a1, a2, a3⟩ := j3 t (by omega) hb
            refine ⟨a1, ?_, ?_⟩
            · rw [b_or, a2]; rfl
            · rw [b_or, a3]; rfl
      · refine br_f (fun z => c ((pr_get (by omega)).mp z)) (nm_r (nI_1 j) (hk' _ ⟨j1, j2, ?_⟩))
        intro t ht hb
        by_cases ct : t = j
        · subst ct; exact absurd (j1 t hb) c
        · exact j3 t (by omega) hb
end
end PRM
end
section
section PRN
/-! the reference: the relation of its state, and its reading methods -/
def yr_D (d : dd_T) (m e : Nat) (st : Nat → Nat) (z_made z_depth : Int32) (y_sorts y_froms y_tos y_labels y_firsts y_seconds y_around y_stack : Nat → Int32) : Prop :=
  z_made = nI m ∧ z_depth = nI e ∧ (∀ i, i < m → y_sorts (20 + i) = nI (dd_k d i) ∧ (dd_k d i ≤ 2 → y_froms (20 + i) = nI (dd_f d i)) ∧ (3 ≤ dd_k d i → y_froms (20 + i) = nI (dd_n d i)) ∧ y_tos (20 + i) = nI (dd_t d i) ∧ (dd_k d i = 1 → y_labels (20 + i) = nI (dd_n d i)) ∧ (1 ≤ dd_k d i → dd_k d i ≤ 3 → y_firsts (20 + i) = nI (dd_1 d i) ∧ y_seconds (20 + i) = nI (dd_2 d i)) ∧ y_around (20 + i) = pr_oI (dd_p d i)) ∧ (∀ i, i < e → y_stack i = nI (st i))
def yr_P (g : pg_T) (gx : Nat → Nat) (gp : Nat → Option Nat) (z_size : Int32) (y_sorts y_froms y_tos y_labels y_firsts y_seconds y_around : Nat → Int32) : Prop :=
  z_size = nI (pg_n g) ∧ (∀ i, i < pg_n g → y_sorts i = nI (pg_k g i) ∧ (pg_k g i ≤ 2 → y_froms i = nI (pg_f g i)) ∧ (3 ≤ pg_k g i → y_froms i = nI (gx i)) ∧ y_tos i = nI (pg_t g i) ∧ (pg_k g i = 1 → y_labels i = pg_l g i) ∧ (1 ≤ pg_k g i → pg_k g i ≤ 3 → y_firsts i = nI (pg_1 g i) ∧ y_seconds i = nI (pg_2 g i)) ∧ (∀ j, j < pg_n g → pg_k g j = 4 → y_around i = pr_oI (gp i)))
def pg_up (g : pg_T) (gx : Nat → Nat) (gp : Nat → Option Nat) : Prop :=
  dd_in (pg_k g) gp (pg_n g) ∧ (∀ i, i < pg_n g → gx i < 4) ∧ (∀ i, i < pg_n g → pg_k g i = 4 → dd_up (pg_k g) gx gp (gx i) 20 (gp i) false = some (pg_1 g i, true))
def dd_lo2 (o : Option (Nat × Bool)) : Int32 := match o with
  | some (l, _) => nI l
  | none => -1
section
variable {z_made z_depth z_size z_rows z_at z_sendings : Int32} {y_sorts y_froms y_tos y_labels y_firsts y_seconds y_around y_stack y_senders y_receivers y_told y_values y_isSent y_isReceived y_last y_met : Nat → Int32} {g : pg_T} {gx : Nat → Nat} {gp : Nat → Option Nat}
theorem ys_isRole {post : Int32 → Prop} {r : Nat} (hr : r < 3) (h : post 0) : wpY_noRole post (z_made, z_depth, z_size, z_rows, z_at, z_sendings, y_sorts, y_froms, y_tos, y_labels, y_firsts, y_seconds, y_around, y_stack, y_senders, y_receivers, y_told, y_values, y_isSent, y_isReceived, y_last, y_met) (nI r) :=
  br_f (nI_pos (by omega)) (br_t (nI_le (b := 2) (by omega) (by decide)) h)
theorem ys_noRole {post : Int32 → Prop} {x : Int32} (hx : x < 0 ∨ nI 3 ≤ x) (h : post 1) : wpY_noRole post (z_made, z_depth, z_size, z_rows, z_at, z_sendings, y_sorts, y_froms, y_tos, y_labels, y_firsts, y_seconds, y_around, y_stack, y_senders, y_receivers, y_told, y_values, y_isSent, y_isReceived, y_last, y_met) x := by
  by_cases c : x < 0
  · exact br_t c h
  · refine br_f c (br_f ?_ h)
    intro z
    obtain ⟨j, hj, rfl⟩ := nI_of c
    rcases hx with hx | hx
    · exact c hx
    · have a1 := (nI_leI (a := 3) (b := j) (by decide) hj).mp hx
      have a2 := (nI_leI (a := j) (b := 2) hj (by decide)).mp z
      omega
theorem ys_lesser {post : Int32 → Prop} {r : Nat} (hr : r < 3) (h : post (nI (pr_les r))) : wpY_lesser post (z_made, z_depth, z_size, z_rows, z_at, z_sendings, y_sorts, y_froms, y_tos, y_labels, y_firsts, y_seconds, y_around, y_stack, y_senders, y_receivers, y_told, y_values, y_isSent, y_isReceived, y_last, y_met) (nI r) := by
  have : r = 0 ∨ r = 1 ∨ r = 2 := by omega
  rcases this with e | e | e <;> subst e
  · exact br_t rfl h
  · exact br_f (by decide) h
  · exact br_f (by decide) h
theorem ys_lo9 {post : Int32 → Prop} {k x : Nat → Nat} {p : Nat → Option Nat} {m B i : Nat} (hm : m ≤ 20) (hB : B ≤ 20) (hi : i < m) (h4 : k i = 4) (hin : dd_in k p m) (hx : ∀ j, j < m → x j < 4) (hk : ∀ j, j < m → k j ≤ 4)
    (hY : ∀ j, j < m → y_sorts (B + j) = nI (k j) ∧ (3 ≤ k j → y_froms (B + j) = nI (x j)) ∧ y_around (B + j) = pr_oI (p j)) :
    ∀ (q : Nat) (o : Option Nat) (b : Bool), (∀ t, o = some t → t < m ∧ m - t ≤ q) → post (dd_lo2 (dd_up k x p (x i) q o b)) → wY_loopOf_9 post (nI B) (nI i) z_made z_depth z_size z_rows z_at z_sendings y_sorts y_froms y_tos y_labels y_firsts y_seconds y_around y_stack y_senders y_receivers y_told y_values y_isSent y_isReceived y_last y_met (q + 1) (pr_oI o) := by
  intro q
  induction q with
  | zero =>
    intro o b ho h
    cases o with
    | none => exact br_t (by decide) h
    | some t => have := ho t rfl; omega
  | succ q ih =>
    intro o b ho h
    cases o with
    | none => exact br_t (by decide) h
    | some t =>
      obtain ⟨ht, htq⟩ := ho t rfl
      obtain ⟨g1, g2, g3⟩ := hY t ht
      have gi := (hY i hi).2.1 (by omega)
      have i40 : vp_in (nI (B + t)) 40 := vp_in_nI (by omega) (by decide)
      have hx1 := hx t ht
      have hx2 := hx i hi
      have hk1 := hk t ht
      have h' : post (dd_lo2 (if k t = 3 ∧ x t = x i then some (t, b) else dd_up k x p (x i) q (p t) (b || decide (k t < 3)))) := h
      refine br_f (nI_pos (by omega)) ?_
      rw [show pr_oI (some t) = nI t from rfl, nI_add, nI_add, nI_clamp (n := B + t) (by omega), nI_clamp (n := B + i) (by omega), g1, gi]
      have key : ¬ (k t = 3 ∧ x t = x i) → wY_loopOf_44 post (wY_loopOf_9 post (nI B) (nI i) z_made z_depth z_size z_rows z_at z_sendings y_sorts y_froms y_tos y_labels y_firsts y_seconds y_around y_stack y_senders y_receivers y_told y_values y_isSent y_isReceived y_last y_met (q + 1)) (nI B) (nI i) (nI t) z_made z_depth z_size z_rows z_at z_sendings y_sorts y_froms y_tos y_labels y_firsts y_seconds y_around y_stack y_senders y_receivers y_told y_values y_isSent y_isReceived y_last y_met := by
        intro hne
        rw [if_neg hne] at h'
        unfold wY_loopOf_44
        rw [nI_add, nI_clamp (n := B + t) (by omega)]
        refine ⟨i40, nm_r g3 (ih (p t) _ ?_ h')⟩
        intro s hs
        have := hin t ht s hs
        omega
      refine ⟨i40, pk_eq (k t) 3 (fun c => ⟨i40, vp_in_nI (by omega) (by decide), ?_⟩) (fun c => key (fun z => c z.1))⟩
      rw [g2 (by omega)]
      refine pk_eq (x t) (x i) (fun c2 => ?_) (fun c2 => key (fun z => c2 z.2))
      rw [if_pos ⟨c, c2⟩] at h'
      exact h'
theorem ys_loopOf {post : Int32 → Prop} {k x : Nat → Nat} {p : Nat → Option Nat} {m B i : Nat} (hm : m ≤ 20) (hB : B ≤ 20) (hi : i < m) (h4 : k i = 4) (hin : dd_in k p m) (hx : ∀ j, j < m → x j < 4) (hk : ∀ j, j < m → k j ≤ 4)
    (hY : ∀ j, j < m → y_sorts (B + j) = nI (k j) ∧ (3 ≤ k j → y_froms (B + j) = nI (x j)) ∧ y_around (B + j) = pr_oI (p j)) (h : post (dd_lo2 (dd_up k x p (x i) 20 (p i) false))) : wpY_loopOf post (z_made, z_depth, z_size, z_rows, z_at, z_sendings, y_sorts, y_froms, y_tos, y_labels, y_firsts, y_seconds, y_around, y_stack, y_senders, y_receivers, y_told, y_values, y_isSent, y_isReceived, y_last, y_met) (nI B) (nI i) := by
  unfold wpY_loopOf
  rw [nI_add, nI_clamp (n := B + i) (by omega)]
  refine ⟨vp_in_nI (by omega) (by decide), nm_r (hY i hi).2.2 ⟨20 + 1, ?_⟩⟩
  exact ys_lo9 hm hB hi h4 hin hx hk hY 20 (p i) false (fun t ht => by have := hin i hi t ht; omega) h
theorem yr_pat {t : Nat} (ok : pg_ok g) (P : yr_P g gx gp z_size y_sorts y_froms y_tos y_labels y_firsts y_seconds y_around) (ht : t < pg_n g) :
    vp_in (nI t) 40 ∧ vp_in (nI t) 20 ∧ (nI t).toNatClampNeg = t ∧ y_sorts t = nI (pg_k g t) ∧ pg_k g t ≤ 4 := by
  have h20 := ok.2.1
  exact ⟨vp_in_nI (by omega) (by omega), vp_in_nI (by omega) (by omega), nI_clamp (by omega), (P.2 t ht).1, (ok.2.2.1 t ht).1⟩
theorem ys_st2 {post : Int32 → Prop} (ok : pg_ok g) (U : pg_up g gx gp) (P : yr_P g gx gp z_size y_sorts y_froms y_tos y_labels y_firsts y_seconds y_around) : ∀ (q t : Nat), t < pg_n g → pg_k g (pr_sg (pg_k g) (pg_1 g) q t) ≤ 2 → post (nI (pr_sg (pg_k g) (pg_1 g) q t)) → wY_settled_2 post z_made z_depth z_size z_rows z_at z_sendings y_sorts y_froms y_tos y_labels y_firsts y_seconds y_around y_stack y_senders y_receivers y_told y_values y_isSent y_isReceived y_last y_met (q + 1) (nI t) := by
  intro q
  induction q with
  | zero =>
    intro t ht h2 h
    obtain ⟨i40, i20, ec, es, b⟩ := yr_pat ok P ht
    refine ⟨i40, ?_⟩
    rw [ec, es]
    exact pk_le (pg_k g t) 2 (fun _ => h) (fun c => absurd h2 (by show ¬ pg_k g t ≤ 2; omega))
  | succ q ih =>
    intro t ht h2 h
    obtain ⟨i40, i20, ec, es, b⟩ := yr_pat ok P ht
    refine ⟨i40, ?_⟩
    rw [ec, es]
    refine pk_le (pg_k g t) 2 (fun c => ?_) (fun c => ⟨i40, ?_⟩)
    · rw [pr_sg_s c] at h; exact h
    · have e : pr_sg (pg_k g) (pg_1 g) (q + 1) t = pr_sg (pg_k g) (pg_1 g) q (pg_1 g t) := if_neg (by omega)
      rw [e] at h h2
      refine pk_eq (pg_k g t) 3 (fun c3 => ⟨i40, ?_⟩) (fun c3 => ?_)
      · exact nm_r ((P.2 t ht).2.2.2.2.2.1 (by omega) (by omega)).1 (ih _ (pg_1lt ok ht) h2 h)
      · have h4 : pg_k g t = 4 := by omega
        refine ys_loopOf (k := pg_k g) (x := gx) (p := gp) (m := pg_n g) (B := 0) ok.2.1 (by omega) ht h4 U.1 U.2.1 (fun j hj => (ok.2.2.1 j hj).1) ?_ ?_
        · intro j hj
          rw [Nat.zero_add]
          have := P.2 j hj
          exact ⟨this.1, this.2.2.1, this.2.2.2.2.2.2 t ht h4⟩
        · rw [U.2.2 t ht h4]
          exact ih _ (pg_1lt ok ht) h2 h
theorem ys_settled {post : Int32 → Prop} {t : Nat} (ok : pg_ok g) (U : pg_up g gx gp) (P : yr_P g gx gp z_size y_sorts y_froms y_tos y_labels y_firsts y_seconds y_around) (ht : t < pg_n g) (h : post (nI (pg_s g t))) : wpY_settled post (z_made, z_depth, z_size, z_rows, z_at, z_sendings, y_sorts, y_froms, y_tos, y_labels, y_firsts, y_seconds, y_around, y_stack, y_senders, y_receivers, y_told, y_values, y_isSent, y_isReceived, y_last, y_met) (nI t) :=
  ⟨42 + 1, ys_st2 ok U P 42 t ht (pg_s2 ok ht) h⟩
/-- where r's first one not done lies -/
def pr_fi (r : Nat) : List ro_T → Nat → Int32
  | [], _ => -1
  | x :: S, i => if ro_u r x then nI i else pr_fi r S (i + 1)
theorem pr_fi_n {r : Nat} : ∀ (S : List ro_T) (i : Nat), (∀ x, x ∈ S → ro_u r x = false) → pr_fi r S i = -1 := by
  intro S
  induction S with
  | nil => intro i _; rfl
  | cons x S ih =>
    intro i h
    show (if ro_u r x then nI i else pr_fi r S (i + 1)) = -1
    rw [h x (by simp)]
    exact ih (i + 1) (fun y hy => h y (by simp [hy]))
theorem pr_fi_s {r : Nat} {x : ro_T} {C : List ro_T} (hu : ro_u r x = true) : ∀ (A : List ro_T) (i : Nat), (∀ y, y ∈ A → ro_u r y = false) → pr_fi r (A ++ x :: C) i = nI (i + A.length) := by
  intro A
  induction A with
  | nil =>
    intro i _
    show (if ro_u r x then nI i else pr_fi r C (i + 1)) = nI i
    rw [hu]
    rfl
  | cons y A ih =>
    intro i h
    show (if ro_u r y then nI i else pr_fi r (A ++ x :: C) (i + 1)) = _
    rw [h y (by simp)]
    rw [List.length_cons]
    have := ih (i + 1) (fun z hz => h z (by simp [hz]))
    rw [show i + (A.length + 1) = i + 1 + A.length from by omega]
    exact this
theorem ys_left2 {post : Int32 → Prop} {r : Nat} {R : List ro_T} (hr : r < 3) (hA : ro_A R) (hl : R.length ≤ 600) (er : z_rows = nI R.length) (Y : yr_ok R y_senders y_receivers y_told y_values y_isSent y_isReceived) : ∀ (S P : List ro_T), R = P ++ S → post (pr_fi r S P.length) → wY_left_2 post (nI r) z_made z_depth z_size z_rows z_at z_sendings y_sorts y_froms y_tos y_labels y_firsts y_seconds y_around y_stack y_senders y_receivers y_told y_values y_isSent y_isReceived y_last y_met (S.length + 1) (nI P.length) := by
  subst er
  intro S
  induction S with
  | nil =>
    intro P e h
    rw [List.append_nil] at e
    subst e
    exact br_t (nI_le (by omega) (by omega)) h
  | cons x S ih =>
    intro P e h
    have hlen : P.length < R.length := by rw [e, List.length_append, List.length_cons]; omega
    obtain ⟨h1, h2, h3, h4, h5, h6⟩ := Y P.length x (by rw [e]; exact yr_here)
    obtain ⟨a1, a2, a3, a4⟩ := hA x (by rw [e]; simp)
    have i600 : vp_in (nI P.length) 600 := vp_in_nI (by omega) (by decide)
    have h' : post (if ro_u r x then nI P.length else pr_fi r S (P.length + 1)) := h
    have nx : ro_u r x = false → wY_left_2 post (nI r) z_made z_depth z_size (nI R.length) z_at z_sendings y_sorts y_froms y_tos y_labels y_firsts y_seconds y_around y_stack y_senders y_receivers y_told y_values y_isSent y_isReceived y_last y_met (S.length + 1) (nI (P.length + 1)) := by
      intro hu
      rw [hu] at h'
      have := ih (P ++ [x]) (by rw [e]; simp) (by rw [List.length_append]; exact h')
      rw [List.length_append] at this
      exact this
    have ye : ro_u r x = true → post (nI P.length) := by
      intro hu
      rw [hu] at h'
      exact h'
    refine br_f (nI_ge hlen (by omega)) ?_
    unfold wY_left_29
    rw [nI_clamp (n := P.length) (by omega), h1, h2, h5, h6]
    have tail : (ro_p x = r → ro_s x = true) → ((nI (ro_q x) = nI r → (vp_in (nI P.length) 600 ∧ ((pr_bI (ro_d x) = 0 → (post (nI P.length))) ∧ (¬ pr_bI (ro_d x) = 0 → (∀ x2_9 : Int32, x2_9 = nI P.length + 1 → (wY_left_2 post (nI r) z_made z_depth z_size (nI R.length) z_at z_sendings y_sorts y_froms y_tos y_labels y_firsts y_seconds y_around y_stack y_senders y_receivers y_told y_values y_isSent y_isReceived y_last y_met (S.length + 1) x2_9)))))) ∧ (¬ nI (ro_q x) = nI r → (∀ x2_6 : Int32, x2_6 = nI P.length + 1 → (wY_left_2 post (nI r) z_made z_depth z_size (nI R.length) z_at z_sendings y_sorts y_froms y_tos y_labels y_firsts y_seconds y_around y_stack y_senders y_receivers y_told y_values y_isSent y_isReceived y_last y_met (S.length + 1) x2_6)))) := by
      intro hs
      refine pk_eq (ro_q x) r (fun c => ⟨i600, ?_⟩) (fun c => nm_r (nI_1 _) (nx ?_))
      · cases hd : ro_d x
        · exact br_t rfl (ye (by unfold ro_u; simp [c, hd]))
        · refine br_f (by decide) (nm_r (nI_1 _) (nx ?_))
          have : ro_p x ≠ r := by omega
          unfold ro_u
          simp [this, hd]
      · unfold ro_u
        by_cases c2 : ro_p x = r
        · simp [c, hs c2]
        · simp [c, c2]
    refine ⟨i600, pk_eq (ro_p x) r (fun c => ⟨i600, ?_⟩) (fun c => ⟨i600, tail (fun z => absurd z c)⟩)⟩
    cases hs : ro_s x
    · exact br_t rfl (ye (by unfold ro_u; simp [c, hs]))
    · exact br_f (by decide) ⟨i600, tail (fun _ => hs)⟩
theorem ys_left {post : Int32 → Prop} {r : Nat} {R : List ro_T} (hr : r < 3) (hA : ro_A R) (hl : R.length ≤ 600) (er : z_rows = nI R.length) (Y : yr_ok R y_senders y_receivers y_told y_values y_isSent y_isReceived) (h : post (pr_fi r R 0)) : wpY_left post (z_made, z_depth, z_size, z_rows, z_at, z_sendings, y_sorts, y_froms, y_tos, y_labels, y_firsts, y_seconds, y_around, y_stack, y_senders, y_receivers, y_told, y_values, y_isSent, y_isReceived, y_last, y_met) (nI r) :=
  ⟨R.length + 1, ys_left2 hr hA hl er Y R [] rfl h⟩
theorem ys_cnt5 {post : Int32 → Prop} {p q : Nat} {R : List ro_T} (hp : p < 3) (hq : q < 3) (hA : ro_A R) (hl : R.length ≤ 600) (er : z_rows = nI R.length) (Y : yr_ok R y_senders y_receivers y_told y_values y_isSent y_isReceived) : ∀ (S P : List ro_T) (c : Nat), R = P ++ S → post (nI (c + (S.filter (ro_w p q)).length)) → wY_counted_5 post (nI p) (nI q) z_made z_depth z_size z_rows z_at z_sendings y_sorts y_froms y_tos y_labels y_firsts y_seconds y_around y_stack y_senders y_receivers y_told y_values y_isSent y_isReceived y_last y_met (S.length + 1) (nI c) (nI P.length) := by
  subst er
  intro S
  induction S with
  | nil =>
    intro P c e h
    rw [List.append_nil] at e
    subst e
    exact br_t (nI_le (by omega) (by omega)) h
  | cons x S ih =>
    intro P c e h
    have hlen : P.length < R.length := by rw [e, List.length_append, List.length_cons]; omega
    obtain ⟨h1, h2, h3, h4, h5, h6⟩ := Y P.length x (by rw [e]; exact yr_here)
    obtain ⟨a1, a2, a3, a4⟩ := hA x (by rw [e]; simp)
    have i600 : vp_in (nI P.length) 600 := vp_in_nI (by omega) (by decide)
    have nx : ro_w p q x = false → wY_counted_5 post (nI p) (nI q) z_made z_depth z_size (nI R.length) z_at z_sendings y_sorts y_froms y_tos y_labels y_firsts y_seconds y_around y_stack y_senders y_receivers y_told y_values y_isSent y_isReceived y_last y_met (S.length + 1) (nI c) (nI (P.length + 1)) := by
      intro hu
      rw [List.filter_cons_of_neg (by simp [hu])] at h
      have := ih (P ++ [x]) c (by rw [e]; simp) h
      rw [List.length_append] at this
      exact this
    have ye : ro_w p q x = true → wY_counted_5 post (nI p) (nI q) z_made z_depth z_size (nI R.length) z_at z_sendings y_sorts y_froms y_tos y_labels y_firsts y_seconds y_around y_stack y_senders y_receivers y_told y_values y_isSent y_isReceived y_last y_met (S.length + 1) (nI (c + 1)) (nI (P.length + 1)) := by
      intro hu
      rw [List.filter_cons_of_pos hu, List.length_cons] at h
      have := ih (P ++ [x]) (c + 1) (by rw [e]; simp) (by rw [show c + 1 + (S.filter (ro_w p q)).length = c + ((S.filter (ro_w p q)).length + 1) from by omega]; exact h)
      rw [List.length_append] at this
      exact this
    refine br_f (nI_ge hlen (by omega)) ?_
    rw [nI_clamp (n := P.length) (by omega), h1, h2, h5, h6]
    refine ⟨i600, pk_eq (ro_p x) p (fun c1 => ⟨i600, pk_eq (ro_q x) q (fun c2 => ⟨i600, ?_⟩) (fun c2 => nm_r (nI_1 _) (nx (by unfold ro_w; simp [c2])))⟩) (fun c1 => nm_r (nI_1 _) (nx (by unfold ro_w; simp [c1])))⟩
    cases hs : ro_s x
    · exact br_t rfl (nm_r (nI_1 _) (nx (by unfold ro_w; simp [hs])))
    · refine br_f (by decide) ⟨i600, ?_⟩
      cases hd : ro_d x
      · exact br_t rfl (nm_r (nI_1 _) (nm_r (nI_1 _) (ye (by unfold ro_w; simp [c1, c2, hs, hd]))))
      · exact br_f (by decide) (nm_r (nI_1 _) (nx (by unfold ro_w; simp [hd])))
theorem ys_counted {post : Int32 → Prop} {p q : Nat} {R : List ro_T} (hp : p < 3) (hq : q < 3) (hA : ro_A R) (hl : R.length ≤ 600) (er : z_rows = nI R.length) (Y : yr_ok R y_senders y_receivers y_told y_values y_isSent y_isReceived) (h : post (nI (R.filter (ro_w p q)).length)) : wpY_counted post (z_made, z_depth, z_size, z_rows, z_at, z_sendings, y_sorts, y_froms, y_tos, y_labels, y_firsts, y_seconds, y_around, y_stack, y_senders, y_receivers, y_told, y_values, y_isSent, y_isReceived, y_last, y_met) (nI p) (nI q) :=
  ⟨R.length + 1, ys_cnt5 hp hq hA hl er Y R [] 0 rfl (by rw [Nat.zero_add]; exact h)⟩
end
end PRN
end
section
section PRO
/-! the reference: appending, forgetting, beginning -/
def yr_R (R : List ro_T) (a : Nat) (la : Nat → Int32) (z_rows z_at : Int32) (y_senders y_receivers y_told y_values y_isSent y_isReceived y_last : Nat → Int32) : Prop :=
  z_rows = nI R.length ∧ z_at = nI a ∧ yr_ok R y_senders y_receivers y_told y_values y_isSent y_isReceived ∧ (∀ r, r < 3 → y_last r = la r)
section
variable {z_made z_depth z_size z_rows z_at z_sendings : Int32} {y_sorts y_froms y_tos y_labels y_firsts y_seconds y_around y_stack y_senders y_receivers y_told y_values y_isSent y_isReceived y_last y_met : Nat → Int32} {g : pg_T} {gx : Nat → Nat} {gp : Nat → Option Nat}
theorem ys_append {post : SY → Prop} {n p q : Nat} {l : Int32} (hl : n < 600) (er : z_rows = nI n)
    (h : post (z_made, z_depth, z_size, nI (n + 1), z_at, z_sendings, y_sorts, y_froms, y_tos, y_labels, y_firsts, y_seconds, y_around, y_stack, upd y_senders n (nI p), upd y_receivers n (nI q), upd y_told n l, y_values, upd y_isSent n 0, upd y_isReceived n 0, y_last, y_met)) : wpY_append post (z_made, z_depth, z_size, z_rows, z_at, z_sendings, y_sorts, y_froms, y_tos, y_labels, y_firsts, y_seconds, y_around, y_stack, y_senders, y_receivers, y_told, y_values, y_isSent, y_isReceived, y_last, y_met) (nI p) (nI q) l := by
  subst er
  have i6 : vp_in (nI n) 600 := vp_in_nI hl (by decide)
  unfold wpY_append
  dsimp only
  rw [nI_clamp (n := n) (by omega), show vp_nar .boolean 0 = 0 from pr_bIn false]
  exact ⟨i6, nm_e ⟨i6, nm_e ⟨i6, nm_e ⟨i6, nm_e ⟨i6, nm_e (nm_r (nI_1 n) h)⟩⟩⟩⟩⟩
theorem ys_goOn {post : SY → Prop} {n a : Nat} (ok : pg_ok g) (U : pg_up g gx gp) (P : yr_P g gx gp z_size y_sorts y_froms y_tos y_labels y_firsts y_seconds y_around) (ha : a < pg_n g) (ka : pg_k g a = 1) (hl : n < 600) (er : z_rows = nI n) (ea : z_at = nI a)
    (h : post (z_made, z_depth, z_size, nI (n + 1), nI (pg_w g a), z_sendings, y_sorts, y_froms, y_tos, y_labels, y_firsts, y_seconds, y_around, y_stack, upd y_senders n (nI (pg_f g a)), upd y_receivers n (nI (pg_t g a)), upd y_told n (pg_l g a), y_values, upd y_isSent n 0, upd y_isReceived n 0, y_last, y_met)) : wpY_goOn post (z_made, z_depth, z_size, z_rows, z_at, z_sendings, y_sorts, y_froms, y_tos, y_labels, y_firsts, y_seconds, y_around, y_stack, y_senders, y_receivers, y_told, y_values, y_isSent, y_isReceived, y_last, y_met) := by
  subst ea
  obtain ⟨i40, i20, ec, es, b⟩ := yr_pat ok P ha
  obtain ⟨-, p1, -, p2, p3, p4, -⟩ := P.2 a ha
  unfold wpY_goOn
  dsimp only
  rw [ec, p1 (by omega), p2, p3 ka]
  refine ⟨i40, i40, i40, ys_append hl er ⟨i40, ?_⟩⟩
  dsimp only
  rw [ec, (p4 (by omega) (by omega)).1]
  exact ys_settled ok U P (pg_1lt ok ha) h
theorem ys_fg4 {post : SY → Prop} {R : List ro_T} (hl : R.length ≤ 600) (er : z_rows = nI R.length)
    (h : ∀ c1 c2 c3 c4 c5 c6 : Nat → Int32, yr_ok (R.filter ro_k) c1 c2 c3 c4 c5 c6 → post (z_made, z_depth, z_size, nI (R.filter ro_k).length, z_at, z_sendings, y_sorts, y_froms, y_tos, y_labels, y_firsts, y_seconds, y_around, y_stack, c1, c2, c3, c4, c5, c6, y_last, y_met)) :
    ∀ (S P : List ro_T) (c1 c2 c3 c4 c5 c6 : Nat → Int32), R = P ++ S → (∀ (j : Nat) (x : ro_T), (P.filter ro_k)[j]? = some x → yr_at c1 c2 c3 c4 c5 c6 j x) → (∀ (j : Nat) (x : ro_T), P.length ≤ j → R[j]? = some x → yr_at c1 c2 c3 c4 c5 c6 j x) →
      wY_forget_4 post z_made z_depth z_size z_rows z_at z_sendings (S.length + 1) (nI (P.filter ro_k).length) (nI P.length) y_sorts y_froms y_tos y_labels y_firsts y_seconds y_around y_stack c1 c2 c3 c4 c5 c6 y_last y_met := by
  subst er
  intro S
  induction S with
  | nil =>
    intro P c1 c2 c3 c4 c5 c6 e h1 h2
    rw [List.append_nil] at e
    subst e
    exact br_t (nI_le (by omega) (by omega)) (h _ _ _ _ _ _ h1)
  | cons x S ih =>
    intro P c1 c2 c3 c4 c5 c6 e h1 h2
    have hlen : P.length < R.length := by rw [e, List.length_append, List.length_cons]; omega
    have hfl : (P.filter ro_k).length ≤ P.length := List.length_filter_le _ _
    obtain ⟨t1, t2, t3, t4, t5, t6⟩ := h2 P.length x (Nat.le_refl _) (by rw [e]; exact yr_here)
    have i6 : vp_in (nI P.length) 600 := vp_in_nI (by omega) (by decide)
    have j6 : vp_in (nI (P.filter ro_k).length) 600 := vp_in_nI (by omega) (by decide)
    have keep : ro_k x = true → wY_forget_30 post (wY_forget_4 post z_made z_depth z_size (nI R.length) z_at z_sendings (S.length + 1)) (nI (P.filter ro_k).length) (nI P.length) z_made z_depth z_size (nI R.length) z_at z_sendings y_sorts y_froms y_tos y_labels y_firsts y_seconds y_around y_stack c1 c2 c3 c4 c5 c6 y_last y_met := by
      intro hk
      unfold wY_forget_30
      rw [nI_clamp (n := P.length) (by omega), nI_clamp (n := (P.filter ro_k).length) (by omega), t1, t2, t3, t4, t5, t6, pr_bIn, pr_bIn]
      refine ⟨i6, j6, nm_e ⟨i6, j6, nm_e ⟨i6, j6, nm_e ⟨i6, j6, nm_e ⟨i6, j6, nm_e ⟨i6, j6, nm_e (nm_r (nI_1 _) (nm_r (nI_1 _) ?_))⟩⟩⟩⟩⟩⟩
      have ef : ((P ++ [x]).filter ro_k) = P.filter ro_k ++ [x] := by rw [List.filter_append, List.filter_cons_of_pos hk]; rfl
      have el : ((P ++ [x]).filter ro_k).length = (P.filter ro_k).length + 1 := by rw [ef, List.length_append]; rfl
      have := ih (P ++ [x]) (upd c1 (P.filter ro_k).length (nI (ro_p x))) (upd c2 (P.filter ro_k).length (nI (ro_q x))) (upd c3 (P.filter ro_k).length (ro_l x)) (upd c4 (P.filter ro_k).length (ro_v x)) (upd c5 (P.filter ro_k).length (pr_bI (ro_s x))) (upd c6 (P.filter ro_k).length (pr_bI (ro_d x))) (by rw [e]; simp) ?_ ?_
      · rw [el, List.length_append] at this
        exact this
      · intro j y hy
        rw [ef, List.getElem?_append] at hy
        by_cases c : j < (P.filter ro_k).length
        · rw [if_pos c] at hy
          obtain ⟨s1, s2, s3, s4, s5, s6⟩ := h1 j y hy
          have ne : j ≠ (P.filter ro_k).length := by omega
          exact ⟨(pk_un ne).trans s1, (pk_un ne).trans s2, (pk_un ne).trans s3, (pk_un ne).trans s4, (pk_un ne).trans s5, (pk_un ne).trans s6⟩
        · rw [if_neg c] at hy
          have ej : j = (P.filter ro_k).length := by
            by_cases z1 : j - (P.filter ro_k).length = 0
            · omega
            · rw [List.getElem?_eq_none (by simp; omega)] at hy
              exact absurd hy (by simp)
          subst ej
          rw [Nat.sub_self] at hy
          have : x = y := by simpa using hy
          subst this
          exact ⟨pk_us, pk_us, pk_us, pk_us, pk_us, pk_us⟩
      · intro j y hj hy
        rw [List.length_append] at hj
        have hj' : P.length + 1 ≤ j := hj
        obtain ⟨s1, s2, s3, s4, s5, s6⟩ := h2 j y (by omega) hy
        have ne : j ≠ (P.filter ro_k).length := by omega
        exact ⟨(pk_un ne).trans s1, (pk_un ne).trans s2, (pk_un ne).trans s3, (pk_un ne).trans s4, (pk_un ne).trans s5, (pk_un ne).trans s6⟩
    refine br_f (nI_ge hlen (by omega)) ?_
    rw [nI_clamp (n := P.length) (by omega), t5, t6]
    refine ⟨i6, ?_⟩
    cases hs : ro_s x
    · exact br_t rfl (keep (by unfold ro_k; simp [hs]))
    · refine br_f (by decide) ⟨i6, ?_⟩
      cases hd : ro_d x
      · exact br_t rfl (keep (by unfold ro_k; simp [hd]))
      · have hk : ro_k x = false := by unfold ro_k; simp [hs, hd]
        have ef : ((P ++ [x]).filter ro_k) = P.filter ro_k := by rw [List.filter_append, List.filter_cons_of_neg (by simp [hk])]; simp
        refine br_f (by decide) (nm_r (nI_1 _) ?_)
        have := ih (P ++ [x]) c1 c2 c3 c4 c5 c6 (by rw [e]; simp) (by rw [ef]; exact h1) (fun j y hj hy => h2 j y (by rw [List.length_append] at hj; omega) hy)
        rw [ef, List.length_append] at this
        exact this
theorem ys_forget {post : SY → Prop} {R : List ro_T} (hl : R.length ≤ 600) (er : z_rows = nI R.length) (Y : yr_ok R y_senders y_receivers y_told y_values y_isSent y_isReceived)
    (h : ∀ c1 c2 c3 c4 c5 c6 : Nat → Int32, yr_ok (R.filter ro_k) c1 c2 c3 c4 c5 c6 → post (z_made, z_depth, z_size, nI (R.filter ro_k).length, z_at, z_sendings, y_sorts, y_froms, y_tos, y_labels, y_firsts, y_seconds, y_around, y_stack, c1, c2, c3, c4, c5, c6, y_last, y_met)) : wpY_forget post (z_made, z_depth, z_size, z_rows, z_at, z_sendings, y_sorts, y_froms, y_tos, y_labels, y_firsts, y_seconds, y_around, y_stack, y_senders, y_receivers, y_told, y_values, y_isSent, y_isReceived, y_last, y_met) :=
  ⟨R.length + 1, ys_fg4 hl er h R [] _ _ _ _ _ _ rfl (fun j x hx => absurd hx (by simp)) (fun j x _ hx => Y j x hx)⟩
theorem ys_restart {post : SY → Prop} (ok : pg_ok g) (U : pg_up g gx gp) (P : yr_P g gx gp z_size y_sorts y_froms y_tos y_labels y_firsts y_seconds y_around)
    (h : post (z_made, z_depth, z_size, 0, nI (pg_s g (pg_n g - 1)), 0, y_sorts, y_froms, y_tos, y_labels, y_firsts, y_seconds, y_around, y_stack, y_senders, y_receivers, y_told, y_values, y_isSent, y_isReceived, fun j => if j < 3 then 0 else y_last j, y_met)) : wpY_restart post (z_made, z_depth, z_size, z_rows, z_at, z_sendings, y_sorts, y_froms, y_tos, y_labels, y_firsts, y_seconds, y_around, y_stack, y_senders, y_receivers, y_told, y_values, y_isSent, y_isReceived, y_last, y_met) := by
  have h0 := ok.1
  have es := P.1
  unfold wpY_restart
  dsimp only
  rw [show z_size - 1 = nI (pg_n g - 1) from by rw [es]; exact pk_sub (a := pg_n g) (b := 1) (by omega)]
  refine ys_settled ok U P (by omega) ?_
  refine loop_0 (fun n i (s : Nat → Int32) => wY_restart_26 post z_made z_depth z_size 0 (nI (pg_s g (pg_n g - 1))) 0 n (nI i) y_sorts y_froms y_tos y_labels y_firsts y_seconds y_around y_stack y_senders y_receivers y_told y_values y_isSent y_isReceived s y_met)
    (fun i s => s = (fun j => if j < i then 0 else y_last j)) 3 y_last ?_ ?_ ?_
  · simp
  · intro n s e
    subst e
    exact br_t (nI_le (a := 3) (b := 3) (by omega) (by decide)) h
  · intro n i s hi e hk
    subst e
    refine br_f (nI_ge (b := 3) hi (by decide)) ⟨vp_in_nI hi (by decide), nm_e (nm_r (nI_1 i) (hk _ ?_))⟩
    rw [nI_clamp (n := i) (by omega)]
    exact pr_updlt i
end
end PRO
end
section
section PRP
/-! the reference: the next action, the picking -/
section
variable {z_made z_depth z_size z_rows z_at z_sendings : Int32} {y_sorts y_froms y_tos y_labels y_firsts y_seconds y_around y_stack y_senders y_receivers y_told y_values y_isSent y_isReceived y_last y_met : Nat → Int32} {g : pg_T} {gx : Nat → Nat} {gp : Nat → Option Nat}
theorem pg_itn {g : pg_T} (ok : pg_ok g) {a : Nat} (ha : a < pg_n g) (i : Nat) : pr_it (pg_w g) i a < 20 := by
  have := pg_itlt ok ha i
  have := ok.2.1
  omega
theorem ys_concerns {post : Int32 → Prop} {r t : Nat} (ok : pg_ok g) (P : yr_P g gx gp z_size y_sorts y_froms y_tos y_labels y_firsts y_seconds y_around) (ht : t < pg_n g) (hr : r < 3) (kt : pg_k g t = 1) (h1 : pg_c g r t → post 1) (h0 : ¬ pg_c g r t → post 0) : wpY_concerns post (z_made, z_depth, z_size, z_rows, z_at, z_sendings, y_sorts, y_froms, y_tos, y_labels, y_firsts, y_seconds, y_around, y_stack, y_senders, y_receivers, y_told, y_values, y_isSent, y_isReceived, y_last, y_met) (nI t) (nI r) := by
  obtain ⟨i40, i20, ec, es, b⟩ := yr_pat ok P ht
  obtain ⟨-, p1, -, p2, -⟩ := P.2 t ht
  have b2 := (ok.2.2.1 t ht).2.2.2.1 kt
  refine ⟨i40, ?_⟩
  rw [ec, p1 (by omega), p2]
  refine pk_eq (pg_f g t) r (fun c => h1 (Or.inr ⟨kt, Or.inl c⟩)) (fun c => ⟨i40, pk_eq (pg_t g t) r (fun c2 => h1 (Or.inr ⟨kt, Or.inr c2⟩)) (fun c2 => h0 ?_)⟩)
  rintro (z | ⟨-, z | z⟩)
  · omega
  · exact c z
  · exact c2 z
theorem ys_135 {post : Int32 → SY → Prop} {r w : Nat} {pl : Nat → Nat} {pk : Nat → Option Nat} (ok : pg_ok g) (U : pg_up g gx gp) (P : yr_P g gx gp z_size y_sorts y_froms y_tos y_labels y_firsts y_seconds y_around) :
    ∀ (j a : Nat) (R : List ro_T) (zr za : Int32) (c1 c2 c3 c5 c6 : Nat → Int32), pr_run g R a w pl pk → zr = nI R.length → za = nI a → yr_ok R c1 c2 c3 y_values c5 c6 →
      (∀ i, i < j → pg_k g (pr_it (pg_w g) i a) = 1 ∧ ¬ pg_c g r (pr_it (pg_w g) i a)) → pg_k g (pr_it (pg_w g) j a) = 1 → (∀ i, i < j → pr_it (pg_w g) i a ≠ pr_it (pg_w g) j a) → R.length + j < 600 →
      (∀ (E : List ro_T) (v : Int32) (d1 d2 d3 d5 d6 : Nat → Int32), E.length = j → (∀ e, e ∈ E → ro_new e ∧ ro_c r e = false) →
        pr_run g (R ++ E ++ [(pg_f g (pr_it (pg_w g) j a), pg_t g (pr_it (pg_w g) j a), pg_l g (pr_it (pg_w g) j a), v, false, false)]) (pg_w g (pr_it (pg_w g) j a)) w pl pk →
        yr_ok (R ++ E ++ [(pg_f g (pr_it (pg_w g) j a), pg_t g (pr_it (pg_w g) j a), pg_l g (pr_it (pg_w g) j a), v, false, false)]) d1 d2 d3 y_values d5 d6 →
        post (nI (R.length + j)) (z_made, z_depth, z_size, nI (R.length + j + 1), nI (pg_w g (pr_it (pg_w g) j a)), z_sendings, y_sorts, y_froms, y_tos, y_labels, y_firsts, y_seconds, y_around, y_stack, d1, d2, d3, y_values, d5, d6, y_last, y_met)) →
      wY_next_135 post (nI (pr_it (pg_w g) j a)) (j + 1) z_made z_depth z_size zr za z_sendings y_sorts y_froms y_tos y_labels y_firsts y_seconds y_around y_stack c1 c2 c3 y_values c5 c6 y_last y_met := by
  intro j
  induction j with
  | zero =>
    intro a R zr za c1 c2 c3 c5 c6 hrun er ea hY _ ka _ hl h
    refine br_t ea (ys_goOn ok U P hrun.1 ka (by omega) er ea ?_)
    show post (nI (R.length + 1) - 1) _
    rw [nI_pred]
    have := h [] (y_values R.length) _ _ _ _ _ rfl (fun e he => absurd he (by simp)) (by rw [List.append_nil]; exact pr_run_go ok hrun ka _) (by rw [List.append_nil]; exact yr_app hY _ _ _)
    exact this
  | succ j ih =>
    intro a R zr za c1 c2 c3 c5 c6 hrun er ea hY hm kt hd hl h
    have ka := (hm 0 (by omega)).1
    have hc := (hm 0 (by omega)).2
    have ha := hrun.1
    refine br_f ?_ (ys_goOn ok U P ha ka (by omega) er ea ?_)
    · rw [ea]
      intro z
      have h20 := ok.2.1
      have := (nI_eq (by omega) (by have := pg_itn ok ha (j + 1); omega)).mp z
      exact hd 0 (by omega) this
    · have hx : ro_new (pg_f g a, pg_t g a, pg_l g a, y_values R.length, false, false) ∧ ro_c r (pg_f g a, pg_t g a, pg_l g a, y_values R.length, false, false) = false := by
        refine ⟨⟨rfl, rfl⟩, ?_⟩
        show (pg_f g a == r || pg_t g a == r) = false
        by_cases z1 : pg_f g a = r
        · exact absurd (Or.inr ⟨ka, Or.inl z1⟩) hc
        · by_cases z2 : pg_t g a = r
          · exact absurd (Or.inr ⟨ka, Or.inr z2⟩) hc
          · simp [z1, z2]
      refine ih (pg_w g a) (R ++ [(pg_f g a, pg_t g a, pg_l g a, y_values R.length, false, false)]) _ _ _ _ _ _ _ (pr_run_go ok hrun ka _) (by rw [List.length_append]; rfl) rfl (yr_app hY _ _ _) (fun i hi => hm (i + 1) (by omega)) kt (fun i hi => hd (i + 1) (by omega)) (by rw [List.length_append, List.length_singleton]; omega) ?_
      intro E v d1 d2 d3 d5 d6 eE hE r1 y1
      have := h ((pg_f g a, pg_t g a, pg_l g a, y_values R.length, false, false) :: E) v d1 d2 d3 d5 d6 (by rw [List.length_cons, eE]) ?_ ?_ ?_
      · rw [List.length_append, List.length_singleton, show R.length + 1 + j = R.length + (j + 1) from by omega]
        exact this
      · intro e he
        rcases List.mem_cons.mp he with z | z
        · rw [z]; exact hx
        · exact hE e z
      · rw [show R ++ [(pg_f g a, pg_t g a, pg_l g a, y_values R.length, false, false)] ++ E = R ++ ((pg_f g a, pg_t g a, pg_l g a, y_values R.length, false, false) :: E) from by simp] at r1
        exact r1
      · rw [show R ++ [(pg_f g a, pg_t g a, pg_l g a, y_values R.length, false, false)] ++ E = R ++ ((pg_f g a, pg_t g a, pg_l g a, y_values R.length, false, false) :: E) from by simp] at y1
        exact y1
theorem ys_38f {post : Int32 → SY → Prop} {r a k : Nat} (ok : pg_ok g) (U : pg_up g gx gp) (P : yr_P g gx gp z_size y_sorts y_froms y_tos y_labels y_firsts y_seconds y_around) (hr : r < 3) (ha : a < pg_n g)
    (hm : ∀ i, i < k → pg_k g (pr_it (pg_w g) i a) = 1 ∧ ¬ pg_c g r (pr_it (pg_w g) i a)) (hc : pg_c g r (pr_it (pg_w g) k a)) (hd : ∀ i j, i < j → j ≤ k → pr_it (pg_w g) i a ≠ pr_it (pg_w g) j a)
    (hfin : ∀ M : Nat → Int32, M (pr_it (pg_w g) k a) = 0 → wY_next_87 post (nI r) (nI (pr_it (pg_w g) k a)) z_made z_depth z_size z_rows z_at z_sendings y_sorts y_froms y_tos y_labels y_firsts y_seconds y_around y_stack y_senders y_receivers y_told y_values y_isSent y_isReceived y_last M) :
    ∀ (q i : Nat) (M : Nat → Int32), i + q = k → (∀ x, x < 20 → (∀ j, j < i → pr_it (pg_w g) j a ≠ x) → M x = 0) → wY_next_38 post (nI r) z_made z_depth z_size z_rows z_at z_sendings (q + 1) (nI (pr_it (pg_w g) i a)) y_sorts y_froms y_tos y_labels y_firsts y_seconds y_around y_stack y_senders y_receivers y_told y_values y_isSent y_isReceived y_last M := by
  intro q
  induction q with
  | zero =>
    intro i M hi hM
    have : i = k := by omega
    subst this
    have ht := pg_itlt ok ha i
    obtain ⟨i40, i20, ec, es, b⟩ := yr_pat ok P ht
    have h0 := hM _ (pg_itn ok ha i) (fun j hj => hd j i hj (Nat.le_refl i))
    refine ⟨i40, ?_⟩
    rw [ec, es, h0]
    refine pk_eq _ 1 (fun c1 => ⟨i20, br_t rfl (ys_concerns ok P ht hr c1 (fun _ => br_f (by decide) (hfin M h0)) (fun z => absurd hc z))⟩) (fun c1 => hfin M h0)
  | succ q ih =>
    intro i M hi hM
    have ht := pg_itlt ok ha i
    obtain ⟨i40, i20, ec, es, b⟩ := yr_pat ok P ht
    obtain ⟨k1, nc⟩ := hm i (by omega)
    have h0 := hM _ (pg_itn ok ha i) (fun j hj => hd j i hj (by omega))
    refine ⟨i40, ?_⟩
    rw [ec, es, h0]
    refine br_t (by rw [k1]; rfl) ⟨i20, br_t rfl (ys_concerns ok P ht hr k1 (fun z => absurd z nc) (fun _ => br_t rfl ⟨i20, ?_⟩))⟩
    refine nm_e ⟨i40, ?_⟩
    rw [((P.2 _ ht).2.2.2.2.2.1 (by omega) (by omega)).1]
    refine ys_settled ok U P (pg_1lt ok ht) ?_
    have := ih (i + 1) (upd M (pr_it (pg_w g) i a) (vp_nar .boolean 1)) (by omega) ?_
    · rw [pr_it_s] at this
      exact this
    · intro x hx hne
      have : x ≠ pr_it (pg_w g) i a := fun z => hne i (by omega) z.symm
      rw [pk_un this]
      exact hM x hx (fun j hj => hne j (by omega))
theorem ys_38n {post : Int32 → SY → Prop} {r a k : Nat} (ok : pg_ok g) (U : pg_up g gx gp) (P : yr_P g gx gp z_size y_sorts y_froms y_tos y_labels y_firsts y_seconds y_around) (hr : r < 3) (ha : a < pg_n g) (h2 : pg_k g a ≤ 2)
    (hn : ∀ i, ¬ pg_c g r (pr_it (pg_w g) i a)) (hd : ∀ i j, i < j → j < k → pr_it (pg_w g) i a ≠ pr_it (pg_w g) j a) (hk : ∃ i, i < k ∧ pr_it (pg_w g) k a = pr_it (pg_w g) i a)
    (hfin : ∀ M : Nat → Int32, post (-3) (z_made, z_depth, z_size, z_rows, z_at, z_sendings, y_sorts, y_froms, y_tos, y_labels, y_firsts, y_seconds, y_around, y_stack, y_senders, y_receivers, y_told, y_values, y_isSent, y_isReceived, y_last, M)) :
    ∀ (q i : Nat) (M : Nat → Int32), i + q = k → (∀ j, j < i → pg_k g (pr_it (pg_w g) j a) = 1) → (∀ x, x < 20 → (∀ j, j < i → pr_it (pg_w g) j a ≠ x) → M x = 0) → (∀ j, j < i → M (pr_it (pg_w g) j a) = 1) → wY_next_38 post (nI r) z_made z_depth z_size z_rows z_at z_sendings (q + 1) (nI (pr_it (pg_w g) i a)) y_sorts y_froms y_tos y_labels y_firsts y_seconds y_around y_stack y_senders y_receivers y_told y_values y_isSent y_isReceived y_last M := by
  intro q
  induction q with
  | zero =>
    intro i M hi hm hM hM1
    have : i = k := by omega
    subst this
    have ht := pg_itlt ok ha i
    obtain ⟨i40, i20, ec, es, b⟩ := yr_pat ok P ht
    obtain ⟨i', hi', e'⟩ := hk
    have k1 : pg_k g (pr_it (pg_w g) i a) = 1 := by rw [e']; exact hm i' hi'
    have m1 : M (pr_it (pg_w g) i a) = 1 := by rw [e']; exact hM1 i' hi'
    unfold wY_next_38 wY_next_87
    rw [ec, es, m1, k1]
    exact ⟨i40, br_t rfl ⟨i20, br_f (by decide) ⟨i40, br_f (by decide) ⟨i40, br_f (by decide) ⟨i20, br_f (by decide) (hfin M)⟩⟩⟩⟩⟩
  | succ q ih =>
    intro i M hi hm hM hM1
    have ht := pg_itlt ok ha i
    obtain ⟨i40, i20, ec, es, b⟩ := yr_pat ok P ht
    have kl := pg_it2 ok ha h2 i
    have kn2 : pg_k g (pr_it (pg_w g) i a) ≠ 2 := fun z => hn i (Or.inl z)
    by_cases c0 : pg_k g (pr_it (pg_w g) i a) = 0
    · unfold wY_next_38 wY_next_87
      rw [ec, es, c0]
      exact ⟨i40, br_f (by decide) ⟨i40, br_f (by decide) ⟨i40, br_t rfl (hfin M)⟩⟩⟩
    · have k1 : pg_k g (pr_it (pg_w g) i a) = 1 := by omega
      have h0 := hM _ (pg_itn ok ha i) (fun j hj => hd j i hj (by omega))
      refine ⟨i40, ?_⟩
      rw [ec, es, h0]
      refine br_t (by rw [k1]; rfl) ⟨i20, br_t rfl (ys_concerns ok P ht hr k1 (fun z => absurd z (hn i)) (fun _ => br_t rfl ⟨i20, ?_⟩))⟩
      refine nm_e ⟨i40, ?_⟩
      rw [((P.2 _ ht).2.2.2.2.2.1 (by omega) (by omega)).1]
      refine ys_settled ok U P (pg_1lt ok ht) ?_
      have := ih (i + 1) (upd M (pr_it (pg_w g) i a) (vp_nar .boolean 1)) (by omega) ?_ ?_ ?_
      · rw [pr_it_s] at this
        exact this
      · intro j hj
        by_cases c : j = i
        · subst c; exact k1
        · exact hm j (by omega)
      · intro x hx hne
        have : x ≠ pr_it (pg_w g) i a := fun z => hne i (by omega) z.symm
        rw [pk_un this]
        exact hM x hx (fun j hj => hne j (by omega))
      · intro j hj
        by_cases c : j = i
        · subst c; rw [pk_us]; exact pr_bIn true
        · rw [pk_un (hd j i (by omega) (by omega))]
          exact hM1 j (by omega)
theorem ys_14 {post : Int32 → SY → Prop} {r : Nat} (h : ∀ M : Nat → Int32, (∀ x, x < 20 → M x = 0) → ∃ n, wY_next_38 post (nI r) z_made z_depth z_size z_rows z_at z_sendings n z_at y_sorts y_froms y_tos y_labels y_firsts y_seconds y_around y_stack y_senders y_receivers y_told y_values y_isSent y_isReceived y_last M) : ∃ n, wY_next_14 post (nI r) z_made z_depth z_size z_rows z_at z_sendings n 0 y_sorts y_froms y_tos y_labels y_firsts y_seconds y_around y_stack y_senders y_receivers y_told y_values y_isSent y_isReceived y_last y_met := by
  refine loop_0 (fun n i (s : Nat → Int32) => wY_next_14 post (nI r) z_made z_depth z_size z_rows z_at z_sendings n (nI i) y_sorts y_froms y_tos y_labels y_firsts y_seconds y_around y_stack y_senders y_receivers y_told y_values y_isSent y_isReceived y_last s) (fun i s => ∀ x, x < i → s x = 0) 20 y_met ?_ ?_ ?_
  · intro x hx; omega
  · intro n s hs
    exact br_t (nI_le (a := 20) (b := 20) (by omega) (by decide)) (h s hs)
  · intro n i s hi hs hk
    refine br_f (nI_ge (b := 20) hi (by decide)) ⟨vp_in_nI hi (by decide), nm_e (nm_r (nI_1 i) (hk _ ?_))⟩
    intro x hx
    rw [nI_clamp (n := i) (by omega)]
    by_cases c : x = i
    · subst c; rw [pk_us]; exact pr_bIn false
    · rw [pk_un c]; exact hs x (by omega)
theorem ys_nextA {post : Int32 → SY → Prop} {r : Nat} {A C : List ro_T} {x : ro_T} (hr : r < 3) (hA : ro_A (A ++ x :: C)) (hl : (A ++ x :: C).length ≤ 600) (er : z_rows = nI (A ++ x :: C).length) (Y : yr_ok (A ++ x :: C) y_senders y_receivers y_told y_values y_isSent y_isReceived)
    (h1 : ∀ y, y ∈ A → ro_u r y = false) (hu : ro_u r x = true) (h : post (nI A.length) (z_made, z_depth, z_size, z_rows, z_at, z_sendings, y_sorts, y_froms, y_tos, y_labels, y_firsts, y_seconds, y_around, y_stack, y_senders, y_receivers, y_told, y_values, y_isSent, y_isReceived, y_last, y_met)) : wpY_next post (z_made, z_depth, z_size, z_rows, z_at, z_sendings, y_sorts, y_froms, y_tos, y_labels, y_firsts, y_seconds, y_around, y_stack, y_senders, y_receivers, y_told, y_values, y_isSent, y_isReceived, y_last, y_met) (nI r) := by
  refine ys_left hr hA hl er Y ?_
  rw [pr_fi_s hu A 0 h1, Nat.zero_add]
  exact br_f (nI_pos (by rw [List.length_append] at hl; omega)) h
theorem ys_nextB {post : Int32 → SY → Prop} {r : Nat} {R : List ro_T} (hr : r < 3) (hA : ro_A R) (hl : R.length ≤ 600) (er : z_rows = nI R.length) (Y : yr_ok R y_senders y_receivers y_told y_values y_isSent y_isReceived)
    (h1 : ∀ y, y ∈ R → ro_u r y = false) (h : ∀ M : Nat → Int32, (∀ x, x < 20 → M x = 0) → ∃ n, wY_next_38 post (nI r) z_made z_depth z_size z_rows z_at z_sendings n z_at y_sorts y_froms y_tos y_labels y_firsts y_seconds y_around y_stack y_senders y_receivers y_told y_values y_isSent y_isReceived y_last M) : wpY_next post (z_made, z_depth, z_size, z_rows, z_at, z_sendings, y_sorts, y_froms, y_tos, y_labels, y_firsts, y_seconds, y_around, y_stack, y_senders, y_receivers, y_told, y_values, y_isSent, y_isReceived, y_last, y_met) (nI r) := by
  refine ys_left hr hA hl er Y ?_
  rw [pr_fi_n R 0 h1]
  exact br_t (by decide) (ys_14 h)
theorem ys_picker5 {post : Int32 → Prop} {a k : Nat} (ok : pg_ok g) (U : pg_up g gx gp) (P : yr_P g gx gp z_size y_sorts y_froms y_tos y_labels y_firsts y_seconds y_around) (ha : a < pg_n g) (hm : ∀ i, i < k → pg_k g (pr_it (pg_w g) i a) = 1) (k2 : pg_k g (pr_it (pg_w g) k a) = 2) (h : post (nI (pg_f g (pr_it (pg_w g) k a)))) :
    ∀ (q i : Nat), i + q = k → wY_picker_5 post z_made z_depth z_size z_rows z_at z_sendings y_sorts y_froms y_tos y_labels y_firsts y_seconds y_around y_stack y_senders y_receivers y_told y_values y_isSent y_isReceived y_last y_met (q + 1) (nI (pr_it (pg_w g) i a)) := by
  intro q
  induction q with
  | zero =>
    intro i hi
    have : i = k := by omega
    subst this
    have ht := pg_itlt ok ha i
    obtain ⟨i40, i20, ec, es, b⟩ := yr_pat ok P ht
    refine ⟨i40, ?_⟩
    rw [ec, es, (P.2 _ ht).2.1 (by omega)]
    exact br_f (by rw [k2]; decide) ⟨i40, h⟩
  | succ q ih =>
    intro i hi
    have ht := pg_itlt ok ha i
    obtain ⟨i40, i20, ec, es, b⟩ := yr_pat ok P ht
    have k1 := hm i (by omega)
    refine ⟨i40, ?_⟩
    rw [ec, es, ((P.2 _ ht).2.2.2.2.2.1 (by omega) (by omega)).1]
    refine br_t (by rw [k1]; rfl) ⟨i40, ys_settled ok U P (pg_1lt ok ht) ?_⟩
    have := ih (i + 1) (by omega)
    rw [pr_it_s] at this
    exact this
theorem ys_picker {post : Int32 → Prop} {a k : Nat} (ok : pg_ok g) (U : pg_up g gx gp) (P : yr_P g gx gp z_size y_sorts y_froms y_tos y_labels y_firsts y_seconds y_around) (ha : a < pg_n g) (ea : z_at = nI a) (hm : ∀ i, i < k → pg_k g (pr_it (pg_w g) i a) = 1) (k2 : pg_k g (pr_it (pg_w g) k a) = 2) (h : post (nI (pg_f g (pr_it (pg_w g) k a)))) : wpY_picker post (z_made, z_depth, z_size, z_rows, z_at, z_sendings, y_sorts, y_froms, y_tos, y_labels, y_firsts, y_seconds, y_around, y_stack, y_senders, y_receivers, y_told, y_values, y_isSent, y_isReceived, y_last, y_met) := by
  subst ea
  exact ⟨k + 1, ys_picker5 ok U P ha hm k2 h k 0 (by omega)⟩
theorem ys_pick0 {post : Int32 → SY → Prop} {r w c : Nat} {pl : Nat → Nat} {pk : Nat → Option Nat} (ok : pg_ok g) (U : pg_up g gx gp) (P : yr_P g gx gp z_size y_sorts y_froms y_tos y_labels y_firsts y_seconds y_around) (hr : r < 3) (hc : c < 2) :
    ∀ (j a : Nat) (R : List ro_T) (zr za : Int32) (c1 c2 c3 c5 c6 : Nat → Int32), pr_run g R a w pl pk → zr = nI R.length → za = nI a → yr_ok R c1 c2 c3 y_values c5 c6 →
      (∀ i, i < j → pg_k g (pr_it (pg_w g) i a) = 1 ∧ ¬ pg_c g r (pr_it (pg_w g) i a)) → pg_k g (pr_it (pg_w g) j a) = 2 → R.length + j + 2 ≤ 600 →
      (∀ (E : List ro_T) (v1 v2 : Int32) (d1 d2 d3 d5 d6 : Nat → Int32), E.length = j → (∀ e, e ∈ E → ro_new e ∧ ro_c r e = false) →
        pr_run g (R ++ E) (pr_it (pg_w g) j a) w pl pk →
        yr_ok (R ++ E ++ (r, pr_les r, nI c, v1, false, false) :: [(r, pr_gre r, nI c, v2, false, false)]) d1 d2 d3 y_values d5 d6 →
        post (nI (R.length + j)) (z_made, z_depth, z_size, nI (R.length + j + 2), nI (pg_s g (pg_b g (pr_it (pg_w g) j a) c)), z_sendings, y_sorts, y_froms, y_tos, y_labels, y_firsts, y_seconds, y_around, y_stack, d1, d2, d3, y_values, d5, d6, y_last, y_met)) →
      wY_pick_0 post (nI r) (nI c) (j + 1) z_made z_depth z_size zr za z_sendings y_sorts y_froms y_tos y_labels y_firsts y_seconds y_around y_stack c1 c2 c3 y_values c5 c6 y_last y_met := by
  intro j
  induction j with
  | zero =>
    intro a R zr za c1 c2 c3 c5 c6 hrun er ea hY _ ka hl h
    have ha := hrun.1
    have ka : pg_k g a = 2 := ka
    obtain ⟨i40, i20, ec, es, b⟩ := yr_pat ok P ha
    subst ea
    refine ⟨i40, ?_⟩
    rw [ec, es]
    have p4 := (P.2 a ha).2.2.2.2.2.1 (by omega) (by omega)
    have key : ∀ z0 : Int32, z0 = nI (pr_gre r) → wY_pick_30 post (nI r) (nI c) z0 z_made z_depth z_size zr (nI a) z_sendings y_sorts y_froms y_tos y_labels y_firsts y_seconds y_around y_stack c1 c2 c3 y_values c5 c6 y_last y_met := by
      intro z0 ez
      subst ez
      refine ys_lesser hr (ys_append (n := R.length) (by omega) er (ys_append (n := R.length + 1) (by omega) rfl ?_))
      have fin : ∀ z1 : Int32, z1 = nI (pg_b g a c) → wY_pick_80 post z1 z_made z_depth z_size (nI (R.length + 1 + 1)) (nI a) z_sendings y_sorts y_froms y_tos y_labels y_firsts y_seconds y_around y_stack (upd (upd c1 R.length (nI r)) (R.length + 1) (nI r)) (upd (upd c2 R.length (nI (pr_les r))) (R.length + 1) (nI (pr_gre r))) (upd (upd c3 R.length (nI c)) (R.length + 1) (nI c)) y_values (upd (upd c5 R.length 0) (R.length + 1) 0) (upd (upd c6 R.length 0) (R.length + 1) 0) y_last y_met := by
        intro z1 e1
        subst e1
        unfold wY_pick_80
        refine ys_settled ok U P (pg_blt ok ha c) ?_
        rw [show nI (R.length + 1 + 1) - 2 = nI R.length from by rw [show (2 : Int32) = nI 2 from rfl, pk_sub (by omega)]; exact congrArg nI (by omega)]
        have y1 := yr_app (yr_app hY r (pr_les r) (nI c)) r (pr_gre r) (nI c)
        rw [List.length_append, List.length_singleton] at y1
        have := h [] (y_values R.length) (y_values (R.length + 1)) _ _ _ _ _ rfl (fun e he => absurd he (by simp)) (by rw [List.append_nil]; exact hrun) (by rw [List.append_nil]; rw [List.append_assoc] at y1; exact y1)
        exact this
      dsimp only
      rw [ec]
      refine pk_eq c 0 (fun z => ⟨i40, fin _ ?_⟩) (fun z => ⟨i40, fin _ ?_⟩)
      · rw [p4.1]; unfold pg_b; rw [if_neg (by omega)]
      · rw [p4.2]; unfold pg_b; rw [if_pos (by omega)]
    refine br_f (by rw [ka]; decide) ?_
    have : r = 0 ∨ r = 1 ∨ r = 2 := by omega
    rcases this with e | e | e <;> subst e
    · exact br_f (by decide) (key _ rfl)
    · exact br_f (by decide) (key _ rfl)
    · exact br_t rfl (key _ rfl)
  | succ j ih =>
    intro a R zr za c1 c2 c3 c5 c6 hrun er ea hY hm kt hl h
    have ka := (hm 0 (by omega)).1
    have hcn := (hm 0 (by omega)).2
    have ka : pg_k g a = 1 := ka
    have ha := hrun.1
    obtain ⟨i40, i20, ec, es, b⟩ := yr_pat ok P ha
    subst ea
    refine ⟨i40, br_t (by rw [ec, es, ka]; rfl) (ys_goOn ok U P ha ka (by omega) er rfl ?_)⟩
    have hx : ro_new (pg_f g a, pg_t g a, pg_l g a, y_values R.length, false, false) ∧ ro_c r (pg_f g a, pg_t g a, pg_l g a, y_values R.length, false, false) = false := by
      refine ⟨⟨rfl, rfl⟩, ?_⟩
      show (pg_f g a == r || pg_t g a == r) = false
      by_cases z1 : pg_f g a = r
      · exact absurd (Or.inr ⟨ka, Or.inl z1⟩) hcn
      · by_cases z2 : pg_t g a = r
        · exact absurd (Or.inr ⟨ka, Or.inr z2⟩) hcn
        · simp [z1, z2]
    refine ih (pg_w g a) (R ++ [(pg_f g a, pg_t g a, pg_l g a, y_values R.length, false, false)]) _ _ _ _ _ _ _ (pr_run_go ok hrun ka _) (by rw [List.length_append]; rfl) rfl (yr_app hY _ _ _) (fun i hi => hm (i + 1) (by omega)) kt (by rw [List.length_append, List.length_singleton]; omega) ?_
    intro E v1 v2 d1 d2 d3 d5 d6 eE hE r1 y1
    have := h ((pg_f g a, pg_t g a, pg_l g a, y_values R.length, false, false) :: E) v1 v2 d1 d2 d3 d5 d6 (by rw [List.length_cons, eE]) ?_ ?_ ?_
    · rw [List.length_append, List.length_singleton, show R.length + 1 + j = R.length + (j + 1) from by omega]
      exact this
    · intro e he
      rcases List.mem_cons.mp he with z | z
      · rw [z]; exact hx
      · exact hE e z
    · rw [show R ++ [(pg_f g a, pg_t g a, pg_l g a, y_values R.length, false, false)] ++ E = R ++ ((pg_f g a, pg_t g a, pg_l g a, y_values R.length, false, false) :: E) from by simp] at r1
      exact r1
    · rw [show R ++ [(pg_f g a, pg_t g a, pg_l g a, y_values R.length, false, false)] ++ E = R ++ ((pg_f g a, pg_t g a, pg_l g a, y_values R.length, false, false) :: E) from by simp] at y1
      exact y1
end
end PRP
end
section
section PRQ
/-! the reference: the draft, the protocol -/
theorem dd_up_x {k x : Nat → Nat} {p : Nat → Option Nat} {tt : Nat} : ∀ (n : Nat) (o : Option Nat) (b : Bool) (l : Nat) (c : Bool), dd_up k x p tt n o b = some (l, c) → k l = 3 ∧ x l = tt := by
  intro n
  induction n with
  | zero => intro o b l c h; exact absurd h (by simp [dd_up])
  | succ n ih =>
    intro o b l c h
    cases o with
    | none => exact absurd h (by simp [dd_up])
    | some t =>
      have h' : (if k t = 3 ∧ x t = tt then some (t, b) else dd_up k x p tt n (p t) (b || decide (k t < 3))) = some (l, c) := h
      split at h'
      · rename_i hc
        have : t = l ∧ b = c := by simpa using h'
        rw [← this.1]
        exact hc
      · exact ih _ _ _ _ h'
section
variable {z_made z_depth z_size z_rows z_at z_sendings : Int32} {y_sorts y_froms y_tos y_labels y_firsts y_seconds y_around y_stack y_senders y_receivers y_told y_values y_isSent y_isReceived y_last y_met : Nat → Int32} {g : pg_T} {gx : Nat → Nat} {gp : Nat → Option Nat} {d : dd_T} {m e : Nat} {st : Nat → Nat}
theorem ys_make {post : Int32 → SY → Prop} {n e' : Nat} {p0 p1 p2 p3 : Int32} (em : z_made = nI n) (hn : n < 20) (ee : z_depth = nI e') (he : e' < 20)
    (h : post (nI (e' + 1)) (nI (n + 1), nI (e' + 1), z_size, z_rows, z_at, z_sendings, upd y_sorts (20 + n) p0, upd y_froms (20 + n) p1, upd y_tos (20 + n) p2, upd y_labels (20 + n) p3, y_firsts, y_seconds, upd y_around (20 + n) (-1), upd y_stack e' (nI n), y_senders, y_receivers, y_told, y_values, y_isSent, y_isReceived, y_last, y_met)) : wpY_make post (z_made, z_depth, z_size, z_rows, z_at, z_sendings, y_sorts, y_froms, y_tos, y_labels, y_firsts, y_seconds, y_around, y_stack, y_senders, y_receivers, y_told, y_values, y_isSent, y_isReceived, y_last, y_met) p0 p1 p2 p3 := by
  subst em ee
  refine nm_r (e' := nI (20 + n)) (nI_add 20 n) ?_
  rw [nI_clamp (n := 20 + n) (by omega), nI_clamp (n := e') (by omega)]
  have i40 : vp_in (nI (20 + n)) 40 := vp_in_nI (by omega) (by decide)
  exact ⟨i40, nm_e ⟨i40, nm_e ⟨i40, nm_e ⟨i40, nm_e ⟨i40, nm_e ⟨vp_in_nI he (by decide), nm_e (nm_r (nI_1 e') (nm_r (nI_1 n) h))⟩⟩⟩⟩⟩⟩
theorem ys_take {post : SY → Prop} {n a b : Nat} (em : z_made = nI n) (hn : n < 20) (ha : a < 20) (hb : b < 20)
    (h : post (z_made, z_depth, z_size, z_rows, z_at, z_sendings, y_sorts, y_froms, y_tos, y_labels, upd y_firsts (20 + n) (nI a), upd y_seconds (20 + n) (nI b), upd (upd y_around (20 + a) (nI n)) (20 + b) (nI n), y_stack, y_senders, y_receivers, y_told, y_values, y_isSent, y_isReceived, y_last, y_met)) : wpY_take post (z_made, z_depth, z_size, z_rows, z_at, z_sendings, y_sorts, y_froms, y_tos, y_labels, y_firsts, y_seconds, y_around, y_stack, y_senders, y_receivers, y_told, y_values, y_isSent, y_isReceived, y_last, y_met) (nI a) (nI b) := by
  subst em
  unfold wpY_take
  dsimp only
  rw [show (20 : Int32) = nI 20 from rfl, nI_add, nI_add, nI_add, nI_clamp (n := 20 + n) (by omega), nI_clamp (n := 20 + a) (by omega), nI_clamp (n := 20 + b) (by omega)]
  exact ⟨vp_in_nI (by omega) (by decide), nm_e ⟨vp_in_nI (by omega) (by decide), nm_e ⟨vp_in_nI (by omega) (by decide), nm_e ⟨vp_in_nI (by omega) (by decide), nm_e h⟩⟩⟩⟩
theorem yr_P_eq {s1 s2 s3 s4 s5 s6 s7 : Nat → Int32} (ok : pg_ok g) (P : yr_P g gx gp z_size y_sorts y_froms y_tos y_labels y_firsts y_seconds y_around) (h1 : ∀ i, i < 20 → s1 i = y_sorts i) (h2 : ∀ i, i < 20 → s2 i = y_froms i) (h3 : ∀ i, i < 20 → s3 i = y_tos i) (h4 : ∀ i, i < 20 → s4 i = y_labels i) (h5 : ∀ i, i < 20 → s5 i = y_firsts i) (h6 : ∀ i, i < 20 → s6 i = y_seconds i) (h7 : ∀ i, i < 20 → s7 i = y_around i) : yr_P g gx gp z_size s1 s2 s3 s4 s5 s6 s7 := by
  refine ⟨P.1, ?_⟩
  intro i hi
  have hi20 : i < 20 := by have := ok.2.1; omega
  rw [h1 i hi20, h2 i hi20, h3 i hi20, h4 i hi20, h5 i hi20, h6 i hi20, h7 i hi20]
  exact P.2 i hi
theorem yr_D_put0 {k f t n : Nat} {p1 p3 : Int32} (D : yr_D d m e st z_made z_depth y_sorts y_froms y_tos y_labels y_firsts y_seconds y_around y_stack) (hk : k = 0 ∨ k = 4) (hp1 : k ≤ 2 → p1 = nI f) (hp3 : 3 ≤ k → p1 = nI n) :
    yr_D (dd_put d m k f t n m m) (m + 1) (e + 1) (pr_fu st e m) (nI (m + 1)) (nI (e + 1)) (upd y_sorts (20 + m) (nI k)) (upd y_froms (20 + m) p1) (upd y_tos (20 + m) (nI t)) (upd y_labels (20 + m) p3) y_firsts y_seconds (upd y_around (20 + m) (-1)) (upd y_stack e (nI m)) := by
  obtain ⟨-, -, h1, h2⟩ := D
  refine ⟨rfl, rfl, ?_, ?_⟩
  · intro i hi
    by_cases c : i = m
    · subst c
      have ek : dd_k (dd_put d i k f t n i i) i = k := pr_fus _ _ _
      rw [ek]
      refine ⟨pk_us, ?_, ?_, ?_, ?_, ?_, ?_⟩
      · intro z; rw [pk_us, hp1 z]; exact congrArg nI (pr_fus _ _ _).symm
      · intro z; rw [pk_us, hp3 z]; exact congrArg nI (pr_fus _ _ _).symm
      · rw [pk_us]; exact congrArg nI (pr_fus _ _ _).symm
      · intro z; omega
      · intro z1 z2; omega
      · rw [pk_us]; exact congrArg pr_oI (pr_fus _ _ (none : Option Nat)).symm
    · have c' : 20 + i ≠ 20 + m := by omega
      obtain ⟨g1, g2, g3, g4, g5, g6, g7⟩ := h1 i (by omega)
      have ek : dd_k (dd_put d m k f t n m m) i = dd_k d i := pr_fun _ _ c
      have ef : dd_f (dd_put d m k f t n m m) i = dd_f d i := pr_fun _ _ c
      have et : dd_t (dd_put d m k f t n m m) i = dd_t d i := pr_fun _ _ c
      have en : dd_n (dd_put d m k f t n m m) i = dd_n d i := pr_fun _ _ c
      have e1 : dd_1 (dd_put d m k f t n m m) i = dd_1 d i := pr_fun _ _ c
      have e2 : dd_2 (dd_put d m k f t n m m) i = dd_2 d i := pr_fun _ _ c
      have ep : dd_p (dd_put d m k f t n m m) i = dd_p d i := by
        show pr_fu (pr_fu (pr_fu (dd_p d) m (some m)) m (some m)) m none i = _
        rw [pr_fun _ _ c, pr_fun _ _ c, pr_fun _ _ c]
      rw [ek, ef, et, en, e1, e2, ep, pk_un c', pk_un c', pk_un c', pk_un c', pk_un c']
      exact ⟨g1, g2, g3, g4, g5, g6, g7⟩
  · intro i hi
    by_cases c : i = e
    · rw [c, pk_us, pr_fus]
    · rw [pk_un c, pr_fun _ _ c]
      exact h2 i (by omega)
theorem yr_D_put {q k f t n a b : Nat} {p1 p3 : Int32} (D : yr_D d m e st z_made z_depth y_sorts y_froms y_tos y_labels y_firsts y_seconds y_around y_stack) (hq : q ≤ e) (hp1 : k ≤ 2 → p1 = nI f) (hp2 : 3 ≤ k → p1 = nI n) (hp3 : k = 1 → p3 = nI n) :
    yr_D (dd_put d m k f t n a b) (m + 1) (e - q + 1) (pr_fu st (e - q) m) (nI (m + 1)) (nI (e - q + 1)) (upd y_sorts (20 + m) (nI k)) (upd y_froms (20 + m) p1) (upd y_tos (20 + m) (nI t)) (upd y_labels (20 + m) p3) (upd y_firsts (20 + m) (nI a)) (upd y_seconds (20 + m) (nI b)) (upd (upd (upd y_around (20 + a) (nI m)) (20 + b) (nI m)) (20 + m) (-1)) (upd y_stack (e - q) (nI m)) := by
  obtain ⟨-, -, h1, h2⟩ := D
  refine ⟨rfl, rfl, ?_, ?_⟩
  · intro i hi
    by_cases c : i = m
    · subst c
      have ek : dd_k (dd_put d i k f t n a b) i = k := pr_fus _ _ _
      rw [ek]
      refine ⟨pk_us, ?_, ?_, ?_, ?_, ?_, ?_⟩
      · intro z; rw [pk_us, hp1 z]; exact congrArg nI (pr_fus _ _ _).symm
      · intro z; rw [pk_us, hp2 z]; exact congrArg nI (pr_fus _ _ _).symm
      · rw [pk_us]; exact congrArg nI (pr_fus _ _ _).symm
      · intro z; rw [pk_us, hp3 z]; exact congrArg nI (pr_fus _ _ _).symm
      · intro z1 z2
        rw [pk_us, pk_us]
        exact ⟨congrArg nI (pr_fus _ _ _).symm, congrArg nI (pr_fus _ _ _).symm⟩
      · rw [pk_us]; exact congrArg pr_oI (pr_fus _ _ (none : Option Nat)).symm
    · have c' : 20 + i ≠ 20 + m := by omega
      obtain ⟨g1, g2, g3, g4, g5, g6, g7⟩ := h1 i (by omega)
      have ek : dd_k (dd_put d m k f t n a b) i = dd_k d i := pr_fun _ _ c
      have ef : dd_f (dd_put d m k f t n a b) i = dd_f d i := pr_fun _ _ c
      have et : dd_t (dd_put d m k f t n a b) i = dd_t d i := pr_fun _ _ c
      have en : dd_n (dd_put d m k f t n a b) i = dd_n d i := pr_fun _ _ c
      have e1 : dd_1 (dd_put d m k f t n a b) i = dd_1 d i := pr_fun _ _ c
      have e2 : dd_2 (dd_put d m k f t n a b) i = dd_2 d i := pr_fun _ _ c
      have ep : pr_oI (dd_p (dd_put d m k f t n a b) i) = upd (upd (upd y_around (20 + a) (nI m)) (20 + b) (nI m)) (20 + m) (-1) (20 + i) := by
        show pr_oI (pr_fu (pr_fu (pr_fu (dd_p d) a (some m)) b (some m)) m none i) = _
        rw [pr_fun _ _ c, pk_un c']
        by_cases cb : i = b
        · rw [cb, pk_us, pr_fus]; rfl
        · rw [pk_un (show 20 + i ≠ 20 + b from by omega), pr_fun _ _ cb]
          by_cases ca : i = a
          · rw [ca, pk_us, pr_fus]; rfl
          · rw [pk_un (show 20 + i ≠ 20 + a from by omega), pr_fun _ _ ca, g7]
      rw [← ep, ek, ef, et, en, e1, e2, pk_un c', pk_un c', pk_un c', pk_un c', pk_un c', pk_un c']
      exact ⟨g1, g2, g3, g4, g5, g6, rfl⟩
  · intro i hi
    by_cases c : i = e - q
    · rw [c, pk_us, pr_fus]
    · rw [pk_un c, pr_fun _ _ c]
      exact h2 i (by omega)
theorem ys_lf44 {post : Int32 → Prop} {J : Int32 → Prop} {i l : Nat} {b' : Bool} (ok : dd_ok d m e st) (D : yr_D d m e st z_made z_depth y_sorts y_froms y_tos y_labels y_firsts y_seconds y_around y_stack) (tt : Nat) (h94 : wY_loopsFit_94 post J (nI i) (nI l) (pr_bI b') z_made z_depth z_size z_rows z_at z_sendings y_sorts y_froms y_tos y_labels y_firsts y_seconds y_around y_stack y_senders y_receivers y_told y_values y_isSent y_isReceived y_last y_met) :
    ∀ (q : Nat) (o : Option Nat) (b : Bool), (∀ t, o = some t → t < m ∧ m - t ≤ q) → dd_up (dd_k d) (dd_n d) (dd_p d) tt q o b = some (l, b') → wY_loopsFit_44 post J (nI i) (nI l) z_made z_depth z_size z_rows z_at z_sendings y_sorts y_froms y_tos y_labels y_firsts y_seconds y_around y_stack y_senders y_receivers y_told y_values y_isSent y_isReceived y_last y_met (q + 1) (pr_bI b) (pr_oI o) := by
  have om := ok.1
  have hin := dd_dd_in ok
  intro q
  induction q with
  | zero => intro o b _ h; exact absurd h (by simp [dd_up])
  | succ q ih =>
    intro o b ho h
    cases o with
    | none => exact absurd h (by simp [dd_up])
    | some t =>
      obtain ⟨ht, htq⟩ := ho t rfl
      obtain ⟨hl3, hlx⟩ := dd_up_x _ _ _ _ _ h
      have hlm := (dd_up_l hin _ _ _ _ _ (fun t ht => (ho t ht).1) h).1
      have h' : (if dd_k d t = 3 ∧ dd_n d t = tt then some (t, b) else dd_up (dd_k d) (dd_n d) (dd_p d) tt q (dd_p d t) (b || decide (dd_k d t < 3))) = some (l, b') := h
      have i40 : vp_in (nI (20 + t)) 40 := vp_in_nI (by omega) (by decide)
      obtain ⟨g1, -, -, -, -, -, g7⟩ := D.2.2.1 t ht
      have bk := (ok.2.2.2.2.2.2 t ht).1
      refine br_f (nI_pos (by omega)) ?_
      refine pk_eq t l (fun c => ?_) (fun c => ?_) rfl rfl
      · subst c
        rw [if_pos ⟨hl3, hlx⟩] at h'
        have : b = b' := by simpa using h'
        rw [this]
        exact h94
      · have hne : ¬ (dd_k d t = 3 ∧ dd_n d t = tt) := by
          intro z
          rw [if_pos z] at h'
          have : t = l ∧ b = b' := by simpa using h'
          exact c this.1
        rw [if_neg hne] at h'
        have hp : ∀ s, dd_p d t = some s → s < m ∧ m - s ≤ q := fun s hs => by have := hin t ht s hs; omega
        have go : ∀ z : Bool, (b || decide (dd_k d t < 3)) = z → wY_loopsFit_78 post J (wY_loopsFit_44 post J (nI i) (nI l) z_made z_depth z_size z_rows z_at z_sendings y_sorts y_froms y_tos y_labels y_firsts y_seconds y_around y_stack y_senders y_receivers y_told y_values y_isSent y_isReceived y_last y_met (q + 1)) (nI i) (nI l) (nI t) (pr_bI z) z_made z_depth z_size z_rows z_at z_sendings y_sorts y_froms y_tos y_labels y_firsts y_seconds y_around y_stack y_senders y_receivers y_told y_values y_isSent y_isReceived y_last y_met := by
          intro z hz
          rw [hz] at h'
          unfold wY_loopsFit_78
          rw [show (20 : Int32) = nI 20 from rfl, nI_add, nI_clamp (n := 20 + t) (by omega)]
          exact ⟨i40, nm_r g7 (ih (dd_p d t) z hp h')⟩
        rw [show pr_oI (some t) = nI t from rfl, show (20 : Int32) = nI 20 from rfl, nI_add, nI_clamp (n := 20 + t) (by omega), g1]
        cases b with
        | false => exact br_t rfl ⟨i40, pk_le 3 (dd_k d t) (fun z => go false (by simp; omega)) (fun z => go true (by simp; omega))⟩
        | true => exact br_f (by decide) (go true rfl)
theorem ys_lf44n {post : Int32 → Prop} {J : Int32 → Prop} {i : Nat} (ok : dd_ok d m e st) (D : yr_D d m e st z_made z_depth y_sorts y_froms y_tos y_labels y_firsts y_seconds y_around y_stack) (h : post 0) :
    ∀ (q : Nat) (o : Option Nat) (b : Bool), (∀ t, o = some t → t < m ∧ m - t ≤ q) → wY_loopsFit_44 post J (nI i) (-1) z_made z_depth z_size z_rows z_at z_sendings y_sorts y_froms y_tos y_labels y_firsts y_seconds y_around y_stack y_senders y_receivers y_told y_values y_isSent y_isReceived y_last y_met (q + 1) (pr_bI b) (pr_oI o) := by
  have om := ok.1
  have hin := dd_dd_in ok
  intro q
  induction q with
  | zero =>
    intro o b ho
    cases o with
    | none => exact br_t (by decide) (br_t (by decide) h)
    | some t => have := ho t rfl; omega
  | succ q ih =>
    intro o b ho
    cases o with
    | none => exact br_t (by decide) (br_t (by decide) h)
    | some t =>
      obtain ⟨ht, htq⟩ := ho t rfl
      have i40 : vp_in (nI (20 + t)) 40 := vp_in_nI (by omega) (by decide)
      obtain ⟨g1, -, -, -, -, -, g7⟩ := D.2.2.1 t ht
      have bk := (ok.2.2.2.2.2.2 t ht).1
      have hp : ∀ s, dd_p d t = some s → s < m ∧ m - s ≤ q := fun s hs => by have := hin t ht s hs; omega
      have go : ∀ z : Bool, wY_loopsFit_78 post J (wY_loopsFit_44 post J (nI i) (-1) z_made z_depth z_size z_rows z_at z_sendings y_sorts y_froms y_tos y_labels y_firsts y_seconds y_around y_stack y_senders y_receivers y_told y_values y_isSent y_isReceived y_last y_met (q + 1)) (nI i) (-1) (nI t) (pr_bI z) z_made z_depth z_size z_rows z_at z_sendings y_sorts y_froms y_tos y_labels y_firsts y_seconds y_around y_stack y_senders y_receivers y_told y_values y_isSent y_isReceived y_last y_met := by
        intro z
        unfold wY_loopsFit_78
        rw [show (20 : Int32) = nI 20 from rfl, nI_add, nI_clamp (n := 20 + t) (by omega)]
        exact ⟨i40, nm_r g7 (ih (dd_p d t) z hp)⟩
      refine br_f (nI_pos (by omega)) (br_f (pr_nm1 (by omega)) ?_)
      rw [show pr_oI (some t) = nI t from rfl, show (20 : Int32) = nI 20 from rfl, nI_add, nI_clamp (n := 20 + t) (by omega), g1]
      cases b with
      | false => exact br_t rfl ⟨i40, pk_le 3 (dd_k d t) (fun z => go false) (fun z => go true)⟩
      | true => exact br_f (by decide) (go true)
theorem ys_loopsFit {post : Int32 → Prop} (ok : dd_ok d m e st) (D : yr_D d m e st z_made z_depth y_sorts y_froms y_tos y_labels y_firsts y_seconds y_around y_stack) (hn : ∀ j, j < m → dd_n d j < 4) (h1 : dd_fit d m → post 1) (h0 : ¬ dd_fit d m → post 0) : wpY_loopsFit post (z_made, z_depth, z_size, z_rows, z_at, z_sendings, y_sorts, y_froms, y_tos, y_labels, y_firsts, y_seconds, y_around, y_stack, y_senders, y_receivers, y_told, y_values, y_isSent, y_isReceived, y_last, y_met) := by
  have om := ok.1
  have hin := dd_dd_in ok
  have hc := D.1
  subst hc
  refine loop_0 (fun n i (_ : Unit) => wY_loopsFit_2 post (nI m) z_depth z_size z_rows z_at z_sendings y_sorts y_froms y_tos y_labels y_firsts y_seconds y_around y_stack y_senders y_receivers y_told y_values y_isSent y_isReceived y_last y_met n (nI i))
    (fun i _ => ∀ j, j < i → dd_k d j = 4 → ∃ l, dd_up (dd_k d) (dd_n d) (dd_p d) (dd_n d j) 20 (dd_p d j) false = some (l, true)) m () ?_ ?_ ?_
  · intro j hj; omega
  · intro n s hI
    exact br_t (nI_le (by omega) (by omega)) (h1 hI)
  · intro n i s hi hI hk
    have i40 : vp_in (nI (20 + i)) 40 := vp_in_nI (by omega) (by decide)
    obtain ⟨g1, -, -, -, -, -, g7⟩ := D.2.2.1 i hi
    have bk := (ok.2.2.2.2.2.2 i hi).1
    have hp : ∀ t, dd_p d i = some t → t < m ∧ m - t ≤ 20 := fun t ht => by have := hin i hi t ht; omega
    refine br_f (nI_ge hi (by omega)) ?_
    rw [show (20 : Int32) = nI 20 from rfl, nI_add, nI_clamp (n := 20 + i) (by omega), g1]
    refine ⟨i40, pk_eq (dd_k d i) 4 (fun c => ?_) (fun c => nm_r (nI_1 i) (hk () ?_))⟩
    · refine ys_loopOf (k := dd_k d) (x := dd_n d) (p := dd_p d) (m := m) (B := 20) om (by omega) hi c hin hn (fun j hj => (ok.2.2.2.2.2.2 j hj).1) (fun j hj => ?_) ⟨i40, nm_r g7 ⟨20 + 1, ?_⟩⟩
      · obtain ⟨q1, -, q3, -, -, -, q7⟩ := D.2.2.1 j hj
        exact ⟨q1, q3, q7⟩
      · cases hu : dd_up (dd_k d) (dd_n d) (dd_p d) (dd_n d i) 20 (dd_p d i) false with
        | none => exact ys_lf44n ok D (h0 (fun F => by obtain ⟨l, hl⟩ := F i hi c; rw [hu] at hl; exact absurd hl (by simp))) 20 (dd_p d i) false hp
        | some y =>
          obtain ⟨l, b⟩ := y
          have hlm := (dd_up_l hin _ _ _ _ _ (fun t ht => (hp t ht).1) hu).1
          refine ys_lf44 ok D (dd_n d i) ?_ 20 (dd_p d i) false hp hu
          refine br_f (nI_pos (by omega)) ?_
          cases b with
          | false => exact br_t rfl (h0 (fun F => by obtain ⟨l', hl⟩ := F i hi c; rw [hu] at hl; exact absurd hl (by simp)))
          | true =>
            refine br_f (by decide) (nm_r (nI_1 i) (hk () ?_))
            intro j hj k4
            by_cases cj : j = i
            · subst cj; exact ⟨l, hu⟩
            · exact hI j (by omega) k4
    · intro j hj k4
      by_cases cj : j = i
      · subst cj; exact absurd k4 c
      · exact hI j (by omega) k4
end
end PRQ
end
section
section PRR
/-! the reference: taking the protocol over, whether a run can finish -/
section
variable {z_made z_depth z_size z_rows z_at z_sendings : Int32} {y_sorts y_froms y_tos y_labels y_firsts y_seconds y_around y_stack y_senders y_receivers y_told y_values y_isSent y_isReceived y_last y_met : Nat → Int32} {g : pg_T} {gx : Nat → Nat} {gp : Nat → Option Nat} {d : dd_T} {m e : Nat} {st : Nat → Nat}
theorem pg_up_dr (ok : dd_ok d m e st) (hn : ∀ j, j < m → dd_n d j < 4) (fit : dd_fit d m) : pg_up (dd_gr d m (dd_l d)) (dd_n d) (dd_p d) := by
  refine ⟨dd_dd_in ok, hn, ?_⟩
  intro i hi h4
  rw [show pg_1 (dd_gr d m (dd_l d)) i = dd_l d i from if_pos h4]
  exact dd_l_fit fit i hi h4
/-- what is copied down -/
def yr_cp (i : Nat) (s o : Nat → Int32) : Prop := (∀ j, j < i → s j = o (20 + j)) ∧ (∀ j, 20 ≤ j → s j = o j)
theorem yr_cp_s {i : Nat} {s o : Nat → Int32} (h : yr_cp i s o) (hi : i < 20) : yr_cp (i + 1) (upd s i (s (20 + i))) o := by
  refine ⟨?_, ?_⟩
  · intro j hj
    by_cases c : j = i
    · subst c; rw [pk_us]; exact h.2 _ (by omega)
    · rw [pk_un c]; exact h.1 j (by omega)
  · intro j hj
    rw [pk_un (by omega)]
    exact h.2 j hj
theorem ys_protocol {post : Int32 → SY → Prop} (ok : dd_ok d m e st) (D : yr_D d m e st z_made z_depth y_sorts y_froms y_tos y_labels y_firsts y_seconds y_around y_stack) (hn : ∀ j, j < m → dd_n d j < 4)
    (h3 : ¬ e = 1 → post (-3) (z_made, z_depth, z_size, z_rows, z_at, z_sendings, y_sorts, y_froms, y_tos, y_labels, y_firsts, y_seconds, y_around, y_stack, y_senders, y_receivers, y_told, y_values, y_isSent, y_isReceived, y_last, y_met)) (h5 : e = 1 → ¬ dd_fit d m → post (-5) (z_made, z_depth, z_size, z_rows, z_at, z_sendings, y_sorts, y_froms, y_tos, y_labels, y_firsts, y_seconds, y_around, y_stack, y_senders, y_receivers, y_told, y_values, y_isSent, y_isReceived, y_last, y_met))
    (h : e = 1 → dd_fit d m → ∀ s1 s2 s3 s4 s5 s6 s7 : Nat → Int32, yr_P (dd_gr d m (dd_l d)) (dd_n d) (dd_p d) (nI m) s1 s2 s3 s4 s5 s6 s7 → post (nI m) (0, 0, nI m, 0, nI (pg_s (dd_gr d m (dd_l d)) (m - 1)), 0, s1, s2, s3, s4, s5, s6, s7, y_stack, y_senders, y_receivers, y_told, y_values, y_isSent, y_isReceived, fun j => if j < 3 then 0 else y_last j, y_met)) : wpY_protocol post (z_made, z_depth, z_size, z_rows, z_at, z_sendings, y_sorts, y_froms, y_tos, y_labels, y_firsts, y_seconds, y_around, y_stack, y_senders, y_receivers, y_told, y_values, y_isSent, y_isReceived, y_last, y_met) := by
  have om := ok.1
  have oe := ok.2.1
  have hc := D.2.1
  refine pk_eq e 1 (fun he => ?_) h3 hc rfl
  refine ys_loopsFit ok D hn (fun fit => br_f (by decide) ?_) (fun nf => br_t rfl (h5 he nf))
  have hm := D.1
  subst hm
  refine loop_0 (fun n i (s : (Nat → Int32) × (Nat → Int32) × (Nat → Int32) × (Nat → Int32) × (Nat → Int32) × (Nat → Int32) × (Nat → Int32)) => wY_protocol_23 post (nI m) z_depth z_size z_rows z_at z_sendings n (nI i) (s.1) (s.2.1) (s.2.2.1) (s.2.2.2.1) (s.2.2.2.2.1) (s.2.2.2.2.2.1) (s.2.2.2.2.2.2) y_stack y_senders y_receivers y_told y_values y_isSent y_isReceived y_last y_met)
    (fun i s => yr_cp i s.1 y_sorts ∧ yr_cp i s.2.1 y_froms ∧ yr_cp i s.2.2.1 y_tos ∧ yr_cp i s.2.2.2.1 y_labels ∧ yr_cp i s.2.2.2.2.1 y_firsts ∧ yr_cp i s.2.2.2.2.2.1 y_seconds ∧ yr_cp i s.2.2.2.2.2.2 y_around) m (y_sorts, y_froms, y_tos, y_labels, y_firsts, y_seconds, y_around) ?_ ?_ ?_
  · have z : ∀ o : Nat → Int32, yr_cp 0 o o := fun o => ⟨fun j hj => by omega, fun j _ => rfl⟩
    exact ⟨z _, z _, z _, z _, z _, z _, z _⟩
  · rintro n s ⟨q1, q2, q3, q4, q5, q6, q7⟩
    have hP : yr_P (dd_gr d m (dd_l d)) (dd_n d) (dd_p d) (nI m) s.1 s.2.1 s.2.2.1 s.2.2.2.1 s.2.2.2.2.1 s.2.2.2.2.2.1 s.2.2.2.2.2.2 := by
      refine ⟨rfl, ?_⟩
      intro i hi
      have hi' : i < m := hi
      rw [q1.1 i hi', q2.1 i hi', q3.1 i hi', q4.1 i hi', q5.1 i hi', q6.1 i hi', q7.1 i hi']
      obtain ⟨g1, g2, g3, g4, g5, g6, g7⟩ := D.2.2.1 i hi'
      refine ⟨g1, g2, g3, g4, g5, ?_, fun _ _ _ => g7⟩
      intro k1 k3
      have k3' : dd_k d i ≤ 3 := k3
      rw [show pg_1 (dd_gr d m (dd_l d)) i = dd_1 d i from if_neg (by omega), show pg_2 (dd_gr d m (dd_l d)) i = dd_2 d i from if_neg (by omega)]
      exact g6 k1 k3
    have m0 : 0 < m := by omega
    exact br_t (nI_le (by omega) (by omega)) (ys_restart (dd_gok ok m0 (dd_l_fit fit)) (pg_up_dr ok hn fit) hP (h he fit _ _ _ _ _ _ _ hP))
  · rintro n i s hi ⟨q1, q2, q3, q4, q5, q6, q7⟩ hk
    have i40 : vp_in (nI (20 + i)) 40 := vp_in_nI (by omega) (by decide)
    have j40 : vp_in (nI i) 40 := vp_in_nI (by omega) (by decide)
    refine br_f (nI_ge hi (by omega)) ?_
    rw [show (20 : Int32) = nI 20 from rfl, nI_add, nI_clamp (n := 20 + i) (by omega), nI_clamp (n := i) (by omega)]
    refine ⟨i40, j40, nm_e ⟨i40, j40, nm_e ⟨i40, j40, nm_e ⟨i40, j40, nm_e ⟨i40, j40, nm_e ⟨i40, j40, nm_e ⟨i40, j40, nm_e (nm_r (nI_1 i) (hk (_, _, _, _, _, _, _) ?_))⟩⟩⟩⟩⟩⟩⟩
    exact ⟨yr_cp_s q1 (by omega), yr_cp_s q2 (by omega), yr_cp_s q3 (by omega), yr_cp_s q4 (by omega), yr_cp_s q5 (by omega), yr_cp_s q6 (by omega), yr_cp_s q7 (by omega)⟩
/-- the marks: reached, settled -/
def yr_mk (g : pg_T) (a : Nat) (M : Nat → Int32) : Prop := (∀ x, x < 20 → M x = 0 ∨ M x = 1) ∧ (∀ x, x < 20 → M x = 1 → x < pg_n g ∧ pg_re g a x ∧ pg_k g x ≤ 2) ∧ M a = 1
def yr_b (M : Nat → Int32) (x : Nat) : Bool := decide (M x = 1)
theorem ys_cf164 {post : Int32 → SY → Prop} {a : Nat} (ok : pg_ok g) (P : yr_P g gx gp z_size y_sorts y_froms y_tos y_labels y_firsts y_seconds y_around) (ha : a < pg_n g) (h2 : pg_k g a ≤ 2) (hM : yr_mk g a y_met) (hcl : ∀ t, t < pg_n g → y_met t = 1 → pg_k g t > 0 → y_met (pg_s g (pg_1 g t)) = 1 ∧ y_met (pg_s g (pg_2 g t)) = 1)
    (h1 : pg_fin g a → post 1 (z_made, z_depth, z_size, z_rows, z_at, z_sendings, y_sorts, y_froms, y_tos, y_labels, y_firsts, y_seconds, y_around, y_stack, y_senders, y_receivers, y_told, y_values, y_isSent, y_isReceived, y_last, y_met)) (h0 : ¬ pg_fin g a → post 0 (z_made, z_depth, z_size, z_rows, z_at, z_sendings, y_sorts, y_froms, y_tos, y_labels, y_firsts, y_seconds, y_around, y_stack, y_senders, y_receivers, y_told, y_values, y_isSent, y_isReceived, y_last, y_met)) : ∃ n, wY_canFinish_164 post z_made z_depth z_size z_rows z_at z_sendings y_sorts y_froms y_tos y_labels y_firsts y_seconds y_around y_stack y_senders y_receivers y_told y_values y_isSent y_isReceived y_last y_met n 0 := by
  have h20 := ok.2.1
  have hc := P.1
  subst hc
  refine loop_0 (fun n i (_ : Unit) => wY_canFinish_164 post z_made z_depth (nI (pg_n g)) z_rows z_at z_sendings y_sorts y_froms y_tos y_labels y_firsts y_seconds y_around y_stack y_senders y_receivers y_told y_values y_isSent y_isReceived y_last y_met n (nI i)) (fun i _ => ∀ t, t < i → y_met t = 1 → pg_k g t ≠ 0) (pg_n g) () ?_ ?_ ?_
  · intro t ht; omega
  · intro n s hI
    refine br_t (nI_le (by omega) (by omega)) (h0 ?_)
    rintro ⟨b, hb, kb⟩
    have := pg_fin_y ok (M := fun x => y_met x = 1) ha h2 hM.2.2 hcl b hb
    rw [pg_ss (by omega)] at this
    exact hI b this.1 this.2 kb
  · intro n i s hi hI hk
    obtain ⟨i40, i20, ec, es, b⟩ := yr_pat ok P hi
    refine br_f (nI_ge hi (by omega)) ⟨i20, ?_⟩
    rw [ec, es]
    rcases hM.1 i (by omega) with z | z
    · refine br_t z (nm_r (nI_1 i) (hk () ?_))
      intro t ht mt
      by_cases c : t = i
      · subst c; rw [z] at mt; exact absurd mt (by decide)
      · exact hI t (by omega) mt
    · refine br_f (by rw [z]; decide) ⟨i40, pk_eq (pg_k g i) 0 (fun k0 => h1 ⟨i, (hM.2.1 i (by omega) z).2.1, k0⟩) (fun k0 => nm_r (nI_1 i) (hk () ?_))⟩
      intro t ht mt
      by_cases c : t = i
      · subst c; exact k0
      · exact hI t (by omega) mt
/-- one pass over the terms -/
def yr_ps (g : pg_T) (a : Nat) (M0 : Nat → Int32) (i : Nat) (x : Int32) (M : Nat → Int32) : Prop :=
  yr_mk g a M ∧ (∀ t, t < 20 → M0 t = 1 → M t = 1) ∧ (∀ t, t < i → t < pg_n g → M0 t = 1 → pg_k g t > 0 → M (pg_s g (pg_1 g t)) = 1 ∧ M (pg_s g (pg_2 g t)) = 1) ∧ ((x = 0 ∧ ∀ t, t < 20 → M t = M0 t) ∨ (x = 1 ∧ pr_cn (yr_b M0) 20 < pr_cn (yr_b M) 20))
theorem yr_mk_u {a y : Nat} {M : Nat → Int32} (h : yr_mk g a M) (hy : y < pg_n g) (hr : pg_re g a y) (h2 : pg_k g y ≤ 2) : yr_mk g a (upd M y 1) := by
  refine ⟨?_, ?_, ?_⟩
  · intro x hx
    by_cases c : x = y
    · subst c; rw [pk_us]; exact Or.inr rfl
    · rw [pk_un c]; exact h.1 x hx
  · intro x hx mx
    by_cases c : x = y
    · subst c; exact ⟨hy, hr, h2⟩
    · rw [pk_un c] at mx; exact h.2.1 x hx mx
  · by_cases c : a = y
    · subst c; exact pk_us
    · rw [pk_un c]; exact h.2.2
theorem pr_upd1 {M : Nat → Int32} {y t : Nat} (h : M t = 1) : upd M y 1 t = 1 := by
  by_cases c : t = y
  · subst c; exact pk_us
  · rw [pk_un c]; exact h
theorem yr_ps_u {a i : Nat} {M0 M : Nat → Int32} {x x' : Int32} (ok : pg_ok g) (h : yr_ps g a M0 i x M) (hi : i < pg_n g) (mi : M i = 1)
    (hx : (x' = 0 ∧ x = 0 ∧ M (pg_s g (pg_1 g i)) = 1 ∧ M (pg_s g (pg_2 g i)) = 1) ∨ (x' = 1 ∧ (x = 1 ∨ M (pg_s g (pg_1 g i)) = 0 ∨ M (pg_s g (pg_2 g i)) = 0))) : yr_ps g a M0 (i + 1) x' (upd (upd M (pg_s g (pg_1 g i)) 1) (pg_s g (pg_2 g i)) 1) := by
  obtain ⟨p1, p2, p3, p4⟩ := h
  have h20 := ok.2.1
  have l1 := pg_slt ok (pg_1lt ok hi)
  have l2 := pg_slt ok (pg_2lt ok hi)
  have re := (p1.2.1 i (by omega) mi).2.1
  have mo : ∀ t, M t = 1 → upd (upd M (pg_s g (pg_1 g i)) 1) (pg_s g (pg_2 g i)) 1 t = 1 := fun t ht => pr_upd1 (pr_upd1 ht)
  refine ⟨yr_mk_u (yr_mk_u p1 l1 (pg_re_s (pg_re_1 re)) (pg_s2 ok (pg_1lt ok hi))) l2 (pg_re_s (pg_re_2 re)) (pg_s2 ok (pg_2lt ok hi)), fun t ht mt => mo t (p2 t ht mt), ?_, ?_⟩
  · intro t ht hn mt kt
    by_cases c : t = i
    · subst c
      exact ⟨pr_upd1 pk_us, pk_us⟩
    · have := p3 t (by omega) hn mt kt
      exact ⟨mo _ this.1, mo _ this.2⟩
  · rcases hx with ⟨e1, e2, m1, m2⟩ | ⟨e1, e2⟩
    · refine Or.inl ⟨e1, ?_⟩
      intro t ht
      have base : M t = M0 t := by
        rcases p4 with p4 | p4
        · exact p4.2 t ht
        · rw [e2] at p4; exact absurd p4.1 (by decide)
      rw [← base]
      by_cases c2 : t = pg_s g (pg_2 g i)
      · rw [c2, pk_us, m2]
      · rw [pk_un c2]
        by_cases c1 : t = pg_s g (pg_1 g i)
        · rw [c1, pk_us, m1]
        · rw [pk_un c1]
    · refine Or.inr ⟨e1, ?_⟩
      have hmo : pr_cn (yr_b M) 20 ≤ pr_cn (yr_b (upd (upd M (pg_s g (pg_1 g i)) 1) (pg_s g (pg_2 g i)) 1)) 20 := pr_cn_mo 20 (fun t _ mt => by
        have mt' : M t = 1 := by simpa [yr_b] using mt
        simpa [yr_b] using mo t mt')
      rcases p4 with p4 | p4
      · have hsub : ∀ t, t < 20 → yr_b M0 t = true → yr_b (upd (upd M (pg_s g (pg_1 g i)) 1) (pg_s g (pg_2 g i)) 1) t = true := by
          intro t ht mt
          have mt' : M0 t = 1 := by simpa [yr_b] using mt
          have : M t = 1 := by rw [p4.2 t ht]; exact mt'
          simpa [yr_b] using mo t this
        by_cases hlt : pr_cn (yr_b M0) 20 < pr_cn (yr_b (upd (upd M (pg_s g (pg_1 g i)) 1) (pg_s g (pg_2 g i)) 1)) 20
        · exact hlt
        · exfalso
          have he := pr_cn_eq 20 hsub (by omega)
          rcases e2 with e2 | e2 | e2
          · rw [p4.1] at e2; exact absurd e2 (by decide)
          · have z := he (pg_s g (pg_1 g i)) (by omega) (by simp only [yr_b]; exact decide_eq_true (pr_upd1 pk_us))
            have z' : M0 (pg_s g (pg_1 g i)) = 1 := by simpa [yr_b] using z
            rw [← p4.2 _ (by omega), e2] at z'
            exact absurd z' (by decide)
          · have z := he (pg_s g (pg_2 g i)) (by omega) (by simp only [yr_b]; exact decide_eq_true pk_us)
            have z' : M0 (pg_s g (pg_2 g i)) = 1 := by simpa [yr_b] using z
            rw [← p4.2 _ (by omega), e2] at z'
            exact absurd z' (by decide)
      · omega
theorem yr_ps_k {a i : Nat} {M0 M : Nat → Int32} {x : Int32} (h : yr_ps g a M0 i x M) (hne : M i = 1 → M0 i = 1 → ¬ pg_k g i > 0) (h0 : M0 i = 1 → M i = 1) : yr_ps g a M0 (i + 1) x M := by
  obtain ⟨p1, p2, p3, p4⟩ := h
  refine ⟨p1, p2, ?_, p4⟩
  intro t ht hn mt kt
  by_cases c : t = i
  · subst c; exact absurd kt (hne (h0 mt) mt)
  · exact p3 t (by omega) hn mt kt
theorem ys_cf41 {post : Int32 → SY → Prop} {J : Int32 → (Nat → Int32) → (Nat → Int32) → (Nat → Int32) → (Nat → Int32) → (Nat → Int32) → (Nat → Int32) → (Nat → Int32) → (Nat → Int32) → (Nat → Int32) → (Nat → Int32) → (Nat → Int32) → (Nat → Int32) → (Nat → Int32) → (Nat → Int32) → (Nat → Int32) → (Nat → Int32) → Prop} {a : Nat} (ok : pg_ok g) (U : pg_up g gx gp) (P : yr_P g gx gp z_size y_sorts y_froms y_tos y_labels y_firsts y_seconds y_around) (hM : yr_mk g a y_met)
    (h : ∀ (x : Int32) (M : Nat → Int32), yr_ps g a y_met (pg_n g) x M → J x y_sorts y_froms y_tos y_labels y_firsts y_seconds y_around y_stack y_senders y_receivers y_told y_values y_isSent y_isReceived y_last M) : ∃ n, wY_canFinish_41 post J z_made z_depth z_size z_rows z_at z_sendings n 0 0 y_sorts y_froms y_tos y_labels y_firsts y_seconds y_around y_stack y_senders y_receivers y_told y_values y_isSent y_isReceived y_last y_met := by
  have h20 := ok.2.1
  have hc := P.1
  subst hc
  refine loop_0 (fun n i (s : Int32 × (Nat → Int32)) => wY_canFinish_41 post J z_made z_depth (nI (pg_n g)) z_rows z_at z_sendings n s.1 (nI i) y_sorts y_froms y_tos y_labels y_firsts y_seconds y_around y_stack y_senders y_receivers y_told y_values y_isSent y_isReceived y_last (s.2)) (fun i s => yr_ps g a y_met i s.1 s.2) (pg_n g) (0, y_met) ?_ ?_ ?_
  · exact ⟨hM, fun _ _ z => z, fun t ht => by omega, Or.inl ⟨rfl, fun _ _ => rfl⟩⟩
  · rintro n ⟨x, M⟩ hI
    exact br_t (nI_le (by omega) (by omega)) (h x M hI)
  · rintro n i ⟨x, M⟩ hi hI hk
    obtain ⟨i40, i20, ec, es, b⟩ := yr_pat ok P hi
    have hI' : yr_ps g a y_met i x M := hI
    have l1 := pg_slt ok (pg_1lt ok hi)
    have l2 := pg_slt ok (pg_2lt ok hi)
    refine br_f (nI_ge hi (by omega)) ⟨i20, ?_⟩
    show ((M (nI i).toNatClampNeg = 0 → _) ∧ _)
    rw [ec, es]
    rcases hI'.1.1 i (by omega) with z | z
    · refine br_t z (nm_r (nI_1 i) (hk (x, M) (yr_ps_k hI' (fun (y : M i = 1) => by rw [z] at y; exact absurd y (by decide)) (fun y => hI'.2.1 i (by omega) y))))
    · refine br_f (by rw [z]; decide) ⟨i40, pk_le (pg_k g i) 0 (fun k0 => nm_r (nI_1 i) (hk (x, M) (yr_ps_k hI' (fun _ _ => by omega) (fun y => hI'.2.1 i (by omega) y)))) (fun k0 => ⟨i40, ?_⟩)⟩
      have key : ∀ z0 : Int32, z0 = nI (pg_2 g i) → wY_canFinish_104 post J (wY_canFinish_41 post J z_made z_depth (nI (pg_n g)) z_rows z_at z_sendings n) x (nI i) (nI (pg_s g (pg_1 g i))) z0 z_made z_depth (nI (pg_n g)) z_rows z_at z_sendings y_sorts y_froms y_tos y_labels y_firsts y_seconds y_around y_stack y_senders y_receivers y_told y_values y_isSent y_isReceived y_last M := by
        intro z0 e0
        subst e0
        have j1 : vp_in (nI (pg_s g (pg_1 g i))) 20 := vp_in_nI (by omega) (by decide)
        have j2 : vp_in (nI (pg_s g (pg_2 g i))) 20 := vp_in_nI (by omega) (by decide)
        have fin : ∀ (x' : Int32), ((x' = 0 ∧ x = 0 ∧ M (pg_s g (pg_1 g i)) = 1 ∧ M (pg_s g (pg_2 g i)) = 1) ∨ (x' = 1 ∧ (x = 1 ∨ M (pg_s g (pg_1 g i)) = 0 ∨ M (pg_s g (pg_2 g i)) = 0))) → wY_canFinish_137 post J (wY_canFinish_41 post J z_made z_depth (nI (pg_n g)) z_rows z_at z_sendings n) (nI i) (nI (pg_s g (pg_1 g i))) (nI (pg_s g (pg_2 g i))) x' z_made z_depth (nI (pg_n g)) z_rows z_at z_sendings y_sorts y_froms y_tos y_labels y_firsts y_seconds y_around y_stack y_senders y_receivers y_told y_values y_isSent y_isReceived y_last M := by
          intro x' hx'
          unfold wY_canFinish_137
          rw [nI_clamp (n := pg_s g (pg_1 g i)) (by omega), nI_clamp (n := pg_s g (pg_2 g i)) (by omega), show vp_nar .boolean 1 = 1 from pr_bIn true]
          exact ⟨j1, nm_e ⟨j2, nm_e (nm_r (nI_1 i) (hk (x', _) (yr_ps_u ok hI' hi z hx')))⟩⟩
        refine ys_settled ok U P (pg_2lt ok hi) ?_
        rw [nI_clamp (n := pg_s g (pg_1 g i)) (by omega), nI_clamp (n := pg_s g (pg_2 g i)) (by omega)]
        rcases hI'.2.2.2 with q | q
        · refine br_t q.1 ⟨j1, ?_⟩
          rcases hI'.1.1 (pg_s g (pg_1 g i)) (by omega) with y | y
          · exact br_t y (fin 1 (Or.inr ⟨rfl, Or.inr (Or.inl y)⟩))
          · refine br_f (by rw [y]; decide) ⟨j2, ?_⟩
            rcases hI'.1.1 (pg_s g (pg_2 g i)) (by omega) with w | w
            · exact br_t w (fin 1 (Or.inr ⟨rfl, Or.inr (Or.inr w)⟩))
            · exact br_f (by rw [w]; decide) (fin 0 (Or.inl ⟨rfl, q.1, y, w⟩))
        · exact br_f (by rw [q.1]; decide) (fin 1 (Or.inr ⟨rfl, Or.inl q.1⟩))
      have f2 : pg_k g i ≠ 2 → pg_2 g i = pg_1 g i := (ok.2.2.1 i hi).2.2.2.2.2.2.1
      have k2 := (hI'.1.2.1 i (by omega) z).2.2
      have p4 := (P.2 i hi).2.2.2.2.2.1 (by omega) (by omega)
      rw [p4.1, p4.2]
      exact ys_settled ok U P (pg_1lt ok hi) ⟨i40, pk_eq (pg_k g i) 2 (fun c => ⟨i40, key _ rfl⟩) (fun c => ⟨i40, key _ (by rw [f2 c])⟩)⟩
theorem ys_canFinish {post : Int32 → SY → Prop} {a : Nat} (ok : pg_ok g) (U : pg_up g gx gp) (P : yr_P g gx gp z_size y_sorts y_froms y_tos y_labels y_firsts y_seconds y_around) (ha : a < pg_n g) (h2 : pg_k g a ≤ 2) (ea : z_at = nI a)
    (h1 : ∀ M, pg_fin g a → post 1 (z_made, z_depth, z_size, z_rows, z_at, z_sendings, y_sorts, y_froms, y_tos, y_labels, y_firsts, y_seconds, y_around, y_stack, y_senders, y_receivers, y_told, y_values, y_isSent, y_isReceived, y_last, M)) (h0 : ∀ M, ¬ pg_fin g a → post 0 (z_made, z_depth, z_size, z_rows, z_at, z_sendings, y_sorts, y_froms, y_tos, y_labels, y_firsts, y_seconds, y_around, y_stack, y_senders, y_receivers, y_told, y_values, y_isSent, y_isReceived, y_last, M)) : wpY_canFinish post (z_made, z_depth, z_size, z_rows, z_at, z_sendings, y_sorts, y_froms, y_tos, y_labels, y_firsts, y_seconds, y_around, y_stack, y_senders, y_receivers, y_told, y_values, y_isSent, y_isReceived, y_last, y_met) := by
  have h20 := ok.2.1
  subst ea
  refine loop_0 (fun n i (s : Nat → Int32) => wY_canFinish_2 post z_made z_depth z_size z_rows (nI a) z_sendings n (nI i) y_sorts y_froms y_tos y_labels y_firsts y_seconds y_around y_stack y_senders y_receivers y_told y_values y_isSent y_isReceived y_last s) (fun i s => ∀ x, x < i → s x = 0) 20 y_met ?_ ?_ ?_
  · intro x hx; omega
  · intro n s hs
    refine br_t (nI_le (a := 20) (b := 20) (by omega) (by decide)) ⟨vp_in_nI (by omega) (by decide), ?_⟩
    rw [nI_clamp (n := a) (by omega), show vp_nar .boolean 1 = 1 from pr_bIn true]
    refine nm_e ?_
    refine lp2 (fun n x M => wY_canFinish_33 post z_made z_depth z_size z_rows (nI a) z_sendings n x y_sorts y_froms y_tos y_labels y_firsts y_seconds y_around y_stack y_senders y_receivers y_told y_values y_isSent y_isReceived y_last M) (fun x M => yr_mk g a M ∧ (x = 1 ∨ (x = 0 ∧ ∀ t, t < pg_n g → M t = 1 → pg_k g t > 0 → M (pg_s g (pg_1 g t)) = 1 ∧ M (pg_s g (pg_2 g t)) = 1))) (fun x M => if x = 0 then 0 else 21 - pr_cn (yr_b M) 20) ?_ 1 (upd s a 1) ⟨?_, Or.inl rfl⟩
    · rintro n x M ⟨hM, hx⟩ hk
      rcases hx with hx | ⟨hx, hcl⟩
      · subst hx
        refine br_f (by decide) ?_
        refine ys_cf41 ok U P hM ?_
        intro x' M' hps
        obtain ⟨p1, p2, p3, p4⟩ := hps
        have cle := pr_cn_le (yr_b M) 20
        have cle' := pr_cn_le (yr_b M') 20
        rcases p4 with ⟨e, em⟩ | ⟨e, lt⟩
        · refine hk x' M' ⟨p1, Or.inr ⟨e, ?_⟩⟩ ?_
          · intro t ht mt kt
            exact p3 t ht ht (by rw [← em t (by omega)]; exact mt) kt
          · rw [if_pos e, if_neg (by decide)]
            omega
        · refine hk x' M' ⟨p1, Or.inl e⟩ ?_
          rw [e, if_neg (by decide), if_neg (by decide)]
          omega
      · subst hx
        exact br_t rfl (ys_cf164 ok P ha h2 hM hcl (h1 M) (h0 M))
    · refine ⟨?_, ?_, pk_us⟩
      · intro x hx
        by_cases c : x = a
        · subst c; rw [pk_us]; exact Or.inr rfl
        · rw [pk_un c]; exact Or.inl (hs x hx)
      · intro x hx mx
        by_cases c : x = a
        · subst c; exact ⟨ha, pg_re_rf g x, h2⟩
        · rw [pk_un c, hs x hx] at mx; exact absurd mx (by decide)
  · intro n i s hi hs hk
    refine br_f (nI_ge (b := 20) hi (by decide)) ⟨vp_in_nI hi (by decide), nm_e (nm_r (nI_1 i) (hk _ ?_))⟩
    intro x hx
    rw [nI_clamp (n := i) (by omega)]
    by_cases c : x = i
    · subst c; rw [pk_us]; exact pr_bIn false
    · rw [pk_un c]; exact hs x (by omega)
end
end PRR
end
section
section PRS
/-! the relation -/
def rl_G (d : dd_T) (m e : Nat) (st : Nat → Nat) (g : pg_T) (gx : Nat → Nat) (gp : Nat → Option Nat) (R : List ro_T) (a w : Nat) (pl : Nat → Nat) (pk : Nat → Option Nat) : Prop :=
  dd_ok d m e st ∧ pg_ok g ∧ pg_up g gx gp ∧ pr_run g R a w pl pk ∧ ro_B R ∧ R.countP ro_f ≤ 1
def i_Rel (_ : Nat) (u : SX) (v : SY) : Prop := match u, v with
  | (f_draftCount, f_stackCount, f_termCount, f_root, f_sentCount, f_walkedFrom, a_draftKind, a_draftFrom, a_draftTo, a_draftNumber, a_draftFirst, a_draftSecond, a_draftParent, a_stack, a_kind, a_from, a_to, a_number, a_first, a_second, a_place, a_picked, a_lastGot, a_oldest, a_waiting, a_slotLabel, a_slotValue), (z_made, z_depth, z_size, z_rows, z_at, z_sendings, y_sorts, y_froms, y_tos, y_labels, y_firsts, y_seconds, y_around, y_stack, y_senders, y_receivers, y_told, y_values, y_isSent, y_isReceived, y_last, y_met) => ∃ (d : dd_T) (m e : Nat) (st : Nat → Nat) (g : pg_T) (gx : Nat → Nat) (gp : Nat → Option Nat) (R : List ro_T) (a w : Nat) (pl : Nat → Nat) (pk : Nat → Option Nat) (la : Nat → Int32),
    rl_G d m e st g gx gp R a w pl pk ∧ xr_D d m e st f_draftCount f_stackCount a_draftKind a_draftFrom a_draftTo a_draftNumber a_draftFirst a_draftSecond a_draftParent a_stack ∧ xr_P g f_termCount f_root a_kind a_from a_to a_number a_first a_second ∧ xr_R R w pl pk la f_walkedFrom a_place a_picked a_lastGot a_oldest a_waiting a_slotLabel a_slotValue
    ∧ yr_D d m e st z_made z_depth y_sorts y_froms y_tos y_labels y_firsts y_seconds y_around y_stack ∧ yr_P g gx gp z_size y_sorts y_froms y_tos y_labels y_firsts y_seconds y_around ∧ yr_R R a la z_rows z_at y_senders y_receivers y_told y_values y_isSent y_isReceived y_last ∧ f_sentCount = z_sendings
theorem i_up {k : Nat} {u : SX} {v : SY} (h : i_Rel k u v) : i_Rel (k + 4) u v := h
theorem pr_role (x : Int32) : (x < 0 ∨ nI 3 ≤ x) ∨ ∃ r, r < 3 ∧ x = nI r := by
  rcases pk_ix x (n := 3) (by decide) with h | h | h
  · exact Or.inl (Or.inl h)
  · exact Or.inl (Or.inr h)
  · exact Or.inr h
theorem rl_begin {g : pg_T} (ok : pg_ok g) : pr_run g [] (pg_s g (pg_n g - 1)) (pg_n g - 1) (fun _ => pg_n g - 1) (fun _ => none) ∧ ro_B [] ∧ ([] : List ro_T).countP ro_f ≤ 1 := by
  have h0 := ok.1
  have hl : pg_n g - 1 < pg_n g := by omega
  refine ⟨⟨pg_slt ok hl, pg_s2 ok hl, hl, pg_dr_s g _, fun r _ => List.Pairwise.nil, fun x hx => absurd hx (by simp), fun r _ => ⟨hl, rfl, pg_ssk r _⟩, fun p q => by simp⟩, ?_, by simp⟩
  intro A S e
  have : S = [] := by
    have := congrArg List.length e
    rw [List.length_append, List.length_nil] at this
    exact List.length_eq_zero_iff.mp (by omega)
  subst this
  simp [ro_nU]
theorem xr_begin {n : Nat} {a_place a_picked a_lastGot a_oldest a_waiting a_slotLabel a_slotValue : Nat → Int32} : xr_R [] n (fun _ => n) (fun _ => none) (fun _ => 0) (nI n) (fun j => if j < 3 then nI n else a_place j) (fun j => if j < 3 then -1 else a_picked j) (fun j => if j < 3 then 0 else a_lastGot j) (fun j => if j < 9 then 0 else a_oldest j) (fun j => if j < 9 then 0 else a_waiting j) a_slotLabel a_slotValue := by
  refine ⟨rfl, ?_, ?_⟩
  · intro r hr
    exact ⟨if_pos hr, if_pos hr, if_pos hr⟩
  · intro p q hp hq
    have hc : p * 3 + q < 9 := by omega
    exact ⟨0, by omega, if_pos hc, if_pos hc, fun i x hx => absurd hx (by simp)⟩
theorem yr_begin {a : Nat} {y_senders y_receivers y_told y_values y_isSent y_isReceived y_last : Nat → Int32} : yr_R [] a (fun _ => 0) 0 (nI a) y_senders y_receivers y_told y_values y_isSent y_isReceived (fun j => if j < 3 then 0 else y_last j) :=
  ⟨rfl, rfl, fun j x hx => absurd hx (by simp), fun r hr => if_pos hr⟩
def pr_g0 : pg_T := (1, fun _ => 0, fun _ => 0, fun _ => 0, fun _ => 0, fun _ => 0, fun _ => 0)
theorem pr_g0_ok : pg_ok pr_g0 := by
  have hn : pg_n pr_g0 = 1 := rfl
  have hk : ∀ i, pg_k pr_g0 i = 0 := fun _ => rfl
  have h1 : ∀ i, pg_1 pr_g0 i = 0 := fun _ => rfl
  have h2 : ∀ i, pg_2 pr_g0 i = 0 := fun _ => rfl
  refine ⟨by rw [hn]; decide, by rw [hn]; decide, ?_, Or.inl (hk 0)⟩
  intro i hi
  rw [hn] at hi
  simp only [hk, h1, h2, hn]
  refine ⟨by decide, by decide, by decide, fun z => by omega, fun z => by omega, fun _ => by omega, fun _ => trivial, by decide⟩
theorem pr_g0_up : pg_up pr_g0 (fun _ => 0) (fun _ => none) := by
  refine ⟨fun i _ t ht => absurd ht (by simp), fun _ _ => (by decide : (0 : Nat) < 4), ?_⟩
  intro i _ h
  exact absurd h (by show ¬ (0 : Nat) = 4; decide)
def dd_0 : dd_T := (fun _ => 0, fun _ => 0, fun _ => 0, fun _ => 0, fun _ => 0, fun _ => 0, fun _ => none)
theorem dd_ok0 (d : dd_T) (st : Nat → Nat) : dd_ok d 0 0 st :=
  ⟨by omega, by omega, by omega, by omega, fun i hi => by omega, fun i j _ hj => by omega, fun i hi => by omega⟩
theorem xr_D0 {d : dd_T} {st : Nat → Nat} {a_draftKind a_draftFrom a_draftTo a_draftNumber a_draftFirst a_draftSecond a_draftParent a_stack : Nat → Int32} : xr_D d 0 0 st 0 0 a_draftKind a_draftFrom a_draftTo a_draftNumber a_draftFirst a_draftSecond a_draftParent a_stack :=
  ⟨rfl, rfl, fun i hi => by omega, fun i hi => by omega, fun i hi => by omega⟩
theorem yr_D0 {d : dd_T} {st : Nat → Nat} {y_sorts y_froms y_tos y_labels y_firsts y_seconds y_around y_stack : Nat → Int32} : yr_D d 0 0 st 0 0 y_sorts y_froms y_tos y_labels y_firsts y_seconds y_around y_stack :=
  ⟨rfl, rfl, fun i hi => by omega, fun i hi => by omega⟩
theorem pr_pth_pk {g : pg_T} {r a : Nat} {L : List pr_T} {t c : Nat} (h : pr_pth g r a L t (some c)) : c < 2 := by
  cases L with
  | nil => exact absurd h.1 (by simp)
  | cons y L =>
    obtain ⟨x, -, -, -, -, hc, -⟩ := h
    exact hc
theorem i_vc0 : wpX_init (fun u => wpY_init (fun v => i_Rel 0 u v)) := by
  unfold wpX_init
  refine nm_e ?_
  refine xs_beginRun ?_
  unfold wpY_init
  have hP : yr_P pr_g0 (fun _ => 0) (fun _ => none) 1 (fun _ => 0) (fun _ => 0) (fun _ => 0) (fun _ => 0) (fun _ => 0) (fun _ => 0) (fun _ => 0) :=
    ⟨rfl, fun i _ => ⟨rfl, fun _ => rfl, fun _ => rfl, rfl, fun _ => rfl, fun _ _ => ⟨rfl, rfl⟩, fun j _ h => absurd h (by show ¬ (0 : Nat) = 4; decide)⟩⟩
  have hX : xr_P pr_g0 1 0 (upd (fun _ => 0) 0 0) (fun _ => 0) (fun _ => 0) (fun _ => 0) (fun _ => 0) (fun _ => 0) := by
    refine ⟨rfl, rfl, ?_⟩
    intro i hi
    have : i = 0 := by
      have hn : pg_n pr_g0 = 1 := rfl
      omega
    subst this
    exact ⟨rfl, rfl, rfl, rfl, rfl, rfl⟩
  refine ys_restart pr_g0_ok pr_g0_up hP ?_
  obtain ⟨b1, b2, b3⟩ := rl_begin pr_g0_ok
  exact ⟨dd_0, 0, 0, fun _ => 0, pr_g0, fun _ => 0, fun _ => none, [], pg_s pr_g0 (pg_n pr_g0 - 1), pg_n pr_g0 - 1, fun _ => pg_n pr_g0 - 1, fun _ => none, fun _ => 0, ⟨dd_ok0 _ _, pr_g0_ok, pr_g0_up, b1, b2, b3⟩, xr_D0, hX, xr_begin, yr_D0, hP, yr_begin, rfl⟩
end PRS
end
section
section PRT
/-! the methods: reading, building -/
theorem i_vc_sent {k : Nat} {u : SX} {v : SY} (I : i_Rel k u v) (hk : k + 4 ≤ 2048) : wpX_sent (fun r => wpY_sent (fun r' => r' = r ∧ i_Rel (k + 4) u v) v) u := by
  obtain ⟨f_draftCount, f_stackCount, f_termCount, f_root, f_sentCount, f_walkedFrom, a_draftKind, a_draftFrom, a_draftTo, a_draftNumber, a_draftFirst, a_draftSecond, a_draftParent, a_stack, a_kind, a_from, a_to, a_number, a_first, a_second, a_place, a_picked, a_lastGot, a_oldest, a_waiting, a_slotLabel, a_slotValue⟩ := u
  obtain ⟨z_made, z_depth, z_size, z_rows, z_at, z_sendings, y_sorts, y_froms, y_tos, y_labels, y_firsts, y_seconds, y_around, y_stack, y_senders, y_receivers, y_told, y_values, y_isSent, y_isReceived, y_last, y_met⟩ := v
  have I0 := I
  obtain ⟨d, m, e, st, g, gx, gp, R, a, w, pl, pk, la, ⟨o1, o2, o3, o4, o5, o6⟩, xD, xP, xR, yD, yP, yR, es⟩ := I
  exact ⟨es.symm, I0⟩
theorem i_vc_got {k : Nat} {u : SX} {v : SY} (I : i_Rel k u v) (hk : k + 4 ≤ 2048) (v1 : Int32) : wpX_got (fun r => wpY_got (fun r' => r' = r ∧ i_Rel (k + 4) u v) v v1) u v1 := by
  obtain ⟨f_draftCount, f_stackCount, f_termCount, f_root, f_sentCount, f_walkedFrom, a_draftKind, a_draftFrom, a_draftTo, a_draftNumber, a_draftFirst, a_draftSecond, a_draftParent, a_stack, a_kind, a_from, a_to, a_number, a_first, a_second, a_place, a_picked, a_lastGot, a_oldest, a_waiting, a_slotLabel, a_slotValue⟩ := u
  obtain ⟨z_made, z_depth, z_size, z_rows, z_at, z_sendings, y_sorts, y_froms, y_tos, y_labels, y_firsts, y_seconds, y_around, y_stack, y_senders, y_receivers, y_told, y_values, y_isSent, y_isReceived, y_last, y_met⟩ := v
  have I0 := I
  obtain ⟨d, m, e, st, g, gx, gp, R, a, w, pl, pk, la, ⟨o1, o2, o3, o4, o5, o6⟩, xD, xP, xR, yD, yP, yR, es⟩ := I
  unfold wpX_got wpY_got
  rcases pr_role v1 with h | ⟨r, hr, e1⟩
  · exact xs_noRole h (br_t rfl (ys_noRole h (br_f (by decide) ⟨rfl, I0⟩)))
  · subst e1
    refine xs_isRole hr (br_f (by decide) ⟨vp_in_nI hr (by decide), ?_⟩)
    refine ys_isRole hr (br_t rfl ⟨vp_in_nI hr (by decide), ?_, I0⟩)
    rw [nI_clamp (n := r) (by omega), yR.2.2.2 r hr, (xR.2.1 r hr).2.2]
theorem i_vc_onWay {k : Nat} {u : SX} {v : SY} (I : i_Rel k u v) (hk : k + 4 ≤ 2048) (v1 : Int32) (v2 : Int32) : wpX_onWay (fun r => wpY_onWay (fun r' => r' = r ∧ i_Rel (k + 4) u v) v v1 v2) u v1 v2 := by
  obtain ⟨f_draftCount, f_stackCount, f_termCount, f_root, f_sentCount, f_walkedFrom, a_draftKind, a_draftFrom, a_draftTo, a_draftNumber, a_draftFirst, a_draftSecond, a_draftParent, a_stack, a_kind, a_from, a_to, a_number, a_first, a_second, a_place, a_picked, a_lastGot, a_oldest, a_waiting, a_slotLabel, a_slotValue⟩ := u
  obtain ⟨z_made, z_depth, z_size, z_rows, z_at, z_sendings, y_sorts, y_froms, y_tos, y_labels, y_firsts, y_seconds, y_around, y_stack, y_senders, y_receivers, y_told, y_values, y_isSent, y_isReceived, y_last, y_met⟩ := v
  have I0 := I
  obtain ⟨d, m, e, st, g, gx, gp, R, a, w, pl, pk, la, ⟨o1, o2, o3, o4, o5, o6⟩, xD, xP, xR, yD, yP, yR, es⟩ := I
  have hA := o4.2.2.2.2.2.1
  have hl := ro_585 hA o5 o4.2.2.2.2.2.2.2 o6
  unfold wpX_onWay wpY_onWay
  rcases pr_role v1 with h | ⟨r, hr, e1⟩
  · exact xs_noRole h (br_t rfl (ys_noRole h (br_f (by decide) ⟨rfl, I0⟩)))
  · subst e1
    refine xs_isRole hr (br_f (by decide) ?_)
    rcases pr_role v2 with h | ⟨q, hq, e2⟩
    · exact xs_noRole h (br_t rfl (ys_isRole hr (br_t rfl (ys_noRole h (br_f (by decide) ⟨rfl, I0⟩)))))
    · subst e2
      refine xs_isRole hq (br_f (by decide) ?_)
      rw [pr_ix3]
      refine ⟨vp_in_nI (by omega) (by decide), ?_⟩
      refine ys_isRole hr (br_t rfl (ys_isRole hq (br_t rfl (ys_counted hr hq hA (by omega) yR.1 yR.2.2.1 ⟨?_, I0⟩))))
      obtain ⟨o, -, -, hw, -⟩ := xR.2.2 r q hr hq
      rw [nI_clamp (n := r * 3 + q) (by omega), hw]
theorem rl_met {k k' : Nat} {f_draftCount f_stackCount f_termCount f_root f_sentCount f_walkedFrom : Int32} {a_draftKind a_draftFrom a_draftTo a_draftNumber a_draftFirst a_draftSecond a_draftParent a_stack a_kind a_from a_to a_number a_first a_second a_place a_picked a_lastGot a_oldest a_waiting a_slotLabel a_slotValue : Nat → Int32} {z_made z_depth z_size z_rows z_at z_sendings : Int32} {y_sorts y_froms y_tos y_labels y_firsts y_seconds y_around y_stack y_senders y_receivers y_told y_values y_isSent y_isReceived y_last y_met : Nat → Int32} (h : i_Rel k (f_draftCount, f_stackCount, f_termCount, f_root, f_sentCount, f_walkedFrom, a_draftKind, a_draftFrom, a_draftTo, a_draftNumber, a_draftFirst, a_draftSecond, a_draftParent, a_stack, a_kind, a_from, a_to, a_number, a_first, a_second, a_place, a_picked, a_lastGot, a_oldest, a_waiting, a_slotLabel, a_slotValue) (z_made, z_depth, z_size, z_rows, z_at, z_sendings, y_sorts, y_froms, y_tos, y_labels, y_firsts, y_seconds, y_around, y_stack, y_senders, y_receivers, y_told, y_values, y_isSent, y_isReceived, y_last, y_met)) (M : Nat → Int32) : i_Rel k' (f_draftCount, f_stackCount, f_termCount, f_root, f_sentCount, f_walkedFrom, a_draftKind, a_draftFrom, a_draftTo, a_draftNumber, a_draftFirst, a_draftSecond, a_draftParent, a_stack, a_kind, a_from, a_to, a_number, a_first, a_second, a_place, a_picked, a_lastGot, a_oldest, a_waiting, a_slotLabel, a_slotValue) (z_made, z_depth, z_size, z_rows, z_at, z_sendings, y_sorts, y_froms, y_tos, y_labels, y_firsts, y_seconds, y_around, y_stack, y_senders, y_receivers, y_told, y_values, y_isSent, y_isReceived, y_last, M) := by
  obtain ⟨d, m, e, st, g, gx, gp, R, a, w, pl, pk, la, G, xD, xP, xR, yD, yP, yR, es⟩ := h
  exact ⟨d, m, e, st, g, gx, gp, R, a, w, pl, pk, la, G, xD, xP, xR, yD, yP, yR, es⟩
theorem i_vc_canFinish {k : Nat} {u : SX} {v : SY} (I : i_Rel k u v) (hk : k + 4 ≤ 2048) : wpX_canFinish (fun r => wpY_canFinish (fun r' v' => r' = r ∧ i_Rel (k + 4) u v') v) u := by
  obtain ⟨f_draftCount, f_stackCount, f_termCount, f_root, f_sentCount, f_walkedFrom, a_draftKind, a_draftFrom, a_draftTo, a_draftNumber, a_draftFirst, a_draftSecond, a_draftParent, a_stack, a_kind, a_from, a_to, a_number, a_first, a_second, a_place, a_picked, a_lastGot, a_oldest, a_waiting, a_slotLabel, a_slotValue⟩ := u
  obtain ⟨z_made, z_depth, z_size, z_rows, z_at, z_sendings, y_sorts, y_froms, y_tos, y_labels, y_firsts, y_seconds, y_around, y_stack, y_senders, y_receivers, y_told, y_values, y_isSent, y_isReceived, y_last, y_met⟩ := v
  have I0 := I
  obtain ⟨d, m, e, st, g, gx, gp, R, a, w, pl, pk, la, ⟨o1, o2, o3, o4, o5, o6⟩, xD, xP, xR, yD, yP, yR, es⟩ := I
  have hfin := pg_fin_dr o2 o4.2.2.1 o4.2.2.2.1
  refine xs_canFinish o2 xP o4.2.2.1 xR.1 (fun hw => ?_) (fun hw => ?_)
  · exact ys_canFinish o2 o3 yP o4.1 o4.2.1 yR.2.1 (fun M _ => ⟨rfl, rl_met I0 M⟩) (fun M z => absurd (hfin.mp hw) z)
  · exact ys_canFinish o2 o3 yP o4.1 o4.2.1 yR.2.1 (fun M z => absurd (hfin.mpr z) hw) (fun M _ => ⟨rfl, rl_met I0 M⟩)
theorem i_vc_discard {k : Nat} {u : SX} {v : SY} (I : i_Rel k u v) (hk : k + 4 ≤ 2048) : wpX_discard (fun r u' => wpY_discard (fun r' v' => r' = r ∧ i_Rel (k + 4) u' v') v) u := by
  obtain ⟨f_draftCount, f_stackCount, f_termCount, f_root, f_sentCount, f_walkedFrom, a_draftKind, a_draftFrom, a_draftTo, a_draftNumber, a_draftFirst, a_draftSecond, a_draftParent, a_stack, a_kind, a_from, a_to, a_number, a_first, a_second, a_place, a_picked, a_lastGot, a_oldest, a_waiting, a_slotLabel, a_slotValue⟩ := u
  obtain ⟨z_made, z_depth, z_size, z_rows, z_at, z_sendings, y_sorts, y_froms, y_tos, y_labels, y_firsts, y_seconds, y_around, y_stack, y_senders, y_receivers, y_told, y_values, y_isSent, y_isReceived, y_last, y_met⟩ := v
  obtain ⟨d, m, e, st, g, gx, gp, R, a, w, pl, pk, la, ⟨o1, o2, o3, o4, o5, o6⟩, xD, xP, xR, yD, yP, yR, es⟩ := I
  exact ⟨yD.2.1.trans xD.2.1.symm, d, 0, 0, st, g, gx, gp, R, a, w, pl, pk, la, ⟨dd_ok0 d st, o2, o3, o4, o5, o6⟩, xr_D0, xP, xR, yr_D0, yP, yR, es⟩
theorem i_vc_restart {k : Nat} {u : SX} {v : SY} (I : i_Rel k u v) (hk : k + 4 ≤ 2048) : wpX_restart (fun u' => wpY_restart (fun v' => i_Rel (k + 4) u' v') v) u := by
  obtain ⟨f_draftCount, f_stackCount, f_termCount, f_root, f_sentCount, f_walkedFrom, a_draftKind, a_draftFrom, a_draftTo, a_draftNumber, a_draftFirst, a_draftSecond, a_draftParent, a_stack, a_kind, a_from, a_to, a_number, a_first, a_second, a_place, a_picked, a_lastGot, a_oldest, a_waiting, a_slotLabel, a_slotValue⟩ := u
  obtain ⟨z_made, z_depth, z_size, z_rows, z_at, z_sendings, y_sorts, y_froms, y_tos, y_labels, y_firsts, y_seconds, y_around, y_stack, y_senders, y_receivers, y_told, y_values, y_isSent, y_isReceived, y_last, y_met⟩ := v
  obtain ⟨d, m, e, st, g, gx, gp, R, a, w, pl, pk, la, ⟨o1, o2, o3, o4, o5, o6⟩, xD, xP, xR, yD, yP, yR, es⟩ := I
  obtain ⟨b1, b2, b3⟩ := rl_begin o2
  have er := xP.2.1
  subst er
  unfold wpX_restart
  refine xs_beginRun ?_
  refine ys_restart o2 o3 yP ?_
  exact ⟨d, m, e, st, g, gx, gp, [], pg_s g (pg_n g - 1), pg_n g - 1, fun _ => pg_n g - 1, fun _ => none, fun _ => 0, ⟨o1, o2, o3, b1, b2, b3⟩, xD, xP, xr_begin, yD, yP, yr_begin, rfl⟩
theorem i_vc_protocol {k : Nat} {u : SX} {v : SY} (I : i_Rel k u v) (hk : k + 4 ≤ 2048) : wpX_protocol (fun r u' => wpY_protocol (fun r' v' => r' = r ∧ i_Rel (k + 4) u' v') v) u := by
  obtain ⟨f_draftCount, f_stackCount, f_termCount, f_root, f_sentCount, f_walkedFrom, a_draftKind, a_draftFrom, a_draftTo, a_draftNumber, a_draftFirst, a_draftSecond, a_draftParent, a_stack, a_kind, a_from, a_to, a_number, a_first, a_second, a_place, a_picked, a_lastGot, a_oldest, a_waiting, a_slotLabel, a_slotValue⟩ := u
  obtain ⟨z_made, z_depth, z_size, z_rows, z_at, z_sendings, y_sorts, y_froms, y_tos, y_labels, y_firsts, y_seconds, y_around, y_stack, y_senders, y_receivers, y_told, y_values, y_isSent, y_isReceived, y_last, y_met⟩ := v
  have I0 := I
  obtain ⟨d, m, e, st, g, gx, gp, R, a, w, pl, pk, la, ⟨o1, o2, o3, o4, o5, o6⟩, xD, xP, xR, yD, yP, yR, es⟩ := I
  have hn := xD.2.2.2.2
  refine xs_protocol o1 xD (fun h3 => ?_) (fun he nf => ?_) (fun he fit k1 k2 k3 k4 k5 k6 hX => ?_)
  · exact ys_protocol o1 yD hn (fun _ => ⟨rfl, I0⟩) (fun z => absurd z h3) (fun z => absurd z h3)
  · exact ys_protocol o1 yD hn (fun z => absurd he z) (fun _ _ => ⟨rfl, I0⟩) (fun _ z => absurd z nf)
  · refine ys_protocol o1 yD hn (fun z => absurd he z) (fun _ z => absurd fit z) (fun _ _ s1 s2 s3 s4 s5 s6 s7 hY => ⟨rfl, ?_⟩)
    have m0 : 0 < m := by have := o1.2.1; omega
    have gok := dd_gok o1 m0 (dd_l_fit fit)
    obtain ⟨b1, b2, b3⟩ := rl_begin gok
    exact ⟨d, 0, 0, st, dd_gr d m (dd_l d), dd_n d, dd_p d, [], pg_s (dd_gr d m (dd_l d)) (m - 1), m - 1, fun _ => m - 1, fun _ => none, fun _ => 0, ⟨dd_ok0 d st, gok, pg_up_dr o1 hn fit, b1, b2, b3⟩, xr_D0, hX, xr_begin, yr_D0, hY, yr_begin, rfl⟩
end PRT
end
section
section PRU
/-! the methods that put terms together -/
theorem dd_a0 (st : Nat → Nat) (m e : Nat) : dd_a st m e 0 = m := if_neg (by decide)
theorem dd_b0 (st : Nat → Nat) (m e : Nat) : dd_b st m e 0 = m := (if_neg (by decide)).trans (dd_a0 st m e)
theorem dd_a1 (st : Nat → Nat) (m e : Nat) : dd_a st m e 1 = st (e - 1) := if_pos (by decide)
theorem dd_b1 (st : Nat → Nat) (m e : Nat) : dd_b st m e 1 = st (e - 1) := (if_neg (by decide)).trans (dd_a1 st m e)
theorem dd_a2 (st : Nat → Nat) (m e : Nat) : dd_a st m e 2 = st (e - 2) := if_pos (by decide)
theorem dd_b2 (st : Nat → Nat) (m e : Nat) : dd_b st m e 2 = st (e - 2 + 1) := if_pos (by decide)
section
variable {z_made z_depth z_size z_rows z_at z_sendings : Int32} {y_sorts y_froms y_tos y_labels y_firsts y_seconds y_around y_stack y_senders y_receivers y_told y_values y_isSent y_isReceived y_last y_met : Nat → Int32} {g : pg_T} {gx : Nat → Nat} {gp : Nat → Option Nat}
theorem yr_P_put {m a b : Nat} {x1 x2 x3 x4 x5 x6 x7 x8 x9 : Int32} (ok : pg_ok g) (P : yr_P g gx gp z_size y_sorts y_froms y_tos y_labels y_firsts y_seconds y_around) : yr_P g gx gp z_size (upd y_sorts (20 + m) x1) (upd y_froms (20 + m) x2) (upd y_tos (20 + m) x3) (upd y_labels (20 + m) x4) (upd y_firsts (20 + m) x5) (upd y_seconds (20 + m) x6) (upd (upd (upd y_around (20 + a) x7) (20 + b) x8) (20 + m) x9) :=
  yr_P_eq ok P (fun i hi => pk_un (by omega)) (fun i hi => pk_un (by omega)) (fun i hi => pk_un (by omega)) (fun i hi => pk_un (by omega)) (fun i hi => pk_un (by omega)) (fun i hi => pk_un (by omega)) (fun i hi => (pk_un (by omega)).trans ((pk_un (by omega)).trans (pk_un (by omega))))
theorem yr_P_put0 {m : Nat} {x1 x2 x3 x4 x9 : Int32} (ok : pg_ok g) (P : yr_P g gx gp z_size y_sorts y_froms y_tos y_labels y_firsts y_seconds y_around) : yr_P g gx gp z_size (upd y_sorts (20 + m) x1) (upd y_froms (20 + m) x2) (upd y_tos (20 + m) x3) (upd y_labels (20 + m) x4) y_firsts y_seconds (upd y_around (20 + m) x9) :=
  yr_P_eq ok P (fun i hi => pk_un (by omega)) (fun i hi => pk_un (by omega)) (fun i hi => pk_un (by omega)) (fun i hi => pk_un (by omega)) (fun i hi => rfl) (fun i hi => rfl) (fun i hi => pk_un (by omega))
end
theorem i_vc_end {k : Nat} {u : SX} {v : SY} (I : i_Rel k u v) (hk : k + 4 ≤ 2048) : wpX_end (fun r u' => wpY_end (fun r' v' => r' = r ∧ i_Rel (k + 4) u' v') v) u := by
  obtain ⟨f_draftCount, f_stackCount, f_termCount, f_root, f_sentCount, f_walkedFrom, a_draftKind, a_draftFrom, a_draftTo, a_draftNumber, a_draftFirst, a_draftSecond, a_draftParent, a_stack, a_kind, a_from, a_to, a_number, a_first, a_second, a_place, a_picked, a_lastGot, a_oldest, a_waiting, a_slotLabel, a_slotValue⟩ := u
  obtain ⟨z_made, z_depth, z_size, z_rows, z_at, z_sendings, y_sorts, y_froms, y_tos, y_labels, y_firsts, y_seconds, y_around, y_stack, y_senders, y_receivers, y_told, y_values, y_isSent, y_isReceived, y_last, y_met⟩ := v
  have I0 := I
  obtain ⟨d, m, e, st, g, gx, gp, R, a, w, pl, pk, la, ⟨o1, o2, o3, o4, o5, o6⟩, xD, xP, xR, yD, yP, yR, es⟩ := I
  have om := o1.1
  have oe := o1.2.1
  unfold wpX_end
  refine xs_pushTerm (k := 0) (f := 0) (t := 0) (n := 0) (q := 0) o1 xD (by omega) (fun h20 => ?_) (fun _ z => by omega) (fun hm hq => ?_)
  · exact br_t (by rw [yD.1, show m = 20 from by omega]; rfl) ⟨rfl, I0⟩
  · refine br_f (by rw [yD.1]; exact fun z => by have := (nI_eq (b := 20) (by omega) (by decide)).mp z; omega) (ys_make yD.1 hm yD.2.1 (by omega) ⟨rfl, ?_⟩)
    refine ⟨dd_put d m 0 0 0 0 (dd_a st m e 0) (dd_b st m e 0), m + 1, e - 0 + 1, pr_fu st (e - 0) m, g, gx, gp, R, a, w, pl, pk, la, ⟨dd_push o1 hm hq ⟨by decide, fun _ => Or.inl rfl, by decide, by decide, by decide, by decide, by decide⟩, o2, o3, o4, o5, o6⟩, xr_D_put xD hq (by decide) _ _, xP, xR, ?_, yr_P_put0 o2 yP, yR, es⟩
    rw [dd_a0, dd_b0]
    exact yr_D_put0 yD (Or.inl rfl) (fun _ => rfl) (fun z => absurd z (by decide))
theorem i_vc_again {k : Nat} {u : SX} {v : SY} (I : i_Rel k u v) (hk : k + 4 ≤ 2048) (v1 : Int32) : wpX_again (fun r u' => wpY_again (fun r' v' => r' = r ∧ i_Rel (k + 4) u' v') v v1) u v1 := by
  obtain ⟨f_draftCount, f_stackCount, f_termCount, f_root, f_sentCount, f_walkedFrom, a_draftKind, a_draftFrom, a_draftTo, a_draftNumber, a_draftFirst, a_draftSecond, a_draftParent, a_stack, a_kind, a_from, a_to, a_number, a_first, a_second, a_place, a_picked, a_lastGot, a_oldest, a_waiting, a_slotLabel, a_slotValue⟩ := u
  obtain ⟨z_made, z_depth, z_size, z_rows, z_at, z_sendings, y_sorts, y_froms, y_tos, y_labels, y_firsts, y_seconds, y_around, y_stack, y_senders, y_receivers, y_told, y_values, y_isSent, y_isReceived, y_last, y_met⟩ := v
  have I0 := I
  obtain ⟨d, m, e, st, g, gx, gp, R, a, w, pl, pk, la, ⟨o1, o2, o3, o4, o5, o6⟩, xD, xP, xR, yD, yP, yR, es⟩ := I
  have om := o1.1
  have oe := o1.2.1
  unfold wpX_again
  by_cases c : v1 = 0 ∨ v1 = 1
  · obtain ⟨t, ht, et⟩ : ∃ t, t < 2 ∧ v1 = nI t := by
      rcases c with c | c
      · exact ⟨0, by decide, c⟩
      · exact ⟨1, by decide, c⟩
    subst et
    have key : wpX_pushTerm (fun r_3 u => match u with | (f_draftCount', f_stackCount', f_termCount', f_root', f_sentCount', f_walkedFrom', a_draftKind', a_draftFrom', a_draftTo', a_draftNumber', a_draftFirst', a_draftSecond', a_draftParent', a_stack', a_kind', a_from', a_to', a_number', a_first', a_second', a_place', a_picked', a_lastGot', a_oldest', a_waiting', a_slotLabel', a_slotValue') => (wpY_again (fun r' v' => r' = r_3 ∧ i_Rel (k + 4) (f_draftCount', f_stackCount', f_termCount', f_root', f_sentCount', f_walkedFrom', a_draftKind', a_draftFrom', a_draftTo', a_draftNumber', a_draftFirst', a_draftSecond', a_draftParent', a_stack', a_kind', a_from', a_to', a_number', a_first', a_second', a_place', a_picked', a_lastGot', a_oldest', a_waiting', a_slotLabel', a_slotValue') v') (z_made, z_depth, z_size, z_rows, z_at, z_sendings, y_sorts, y_froms, y_tos, y_labels, y_firsts, y_seconds, y_around, y_stack, y_senders, y_receivers, y_told, y_values, y_isSent, y_isReceived, y_last, y_met) (nI t))) (f_draftCount, f_stackCount, f_termCount, f_root, f_sentCount, f_walkedFrom, a_draftKind, a_draftFrom, a_draftTo, a_draftNumber, a_draftFirst, a_draftSecond, a_draftParent, a_stack, a_kind, a_from, a_to, a_number, a_first, a_second, a_place, a_picked, a_lastGot, a_oldest, a_waiting, a_slotLabel, a_slotValue) (nI 4) (nI 0) (nI 0) (nI t) (nI 0) := by
      refine xs_pushTerm o1 xD (by omega) (fun h20 => ?_) (fun _ z => by omega) (fun hm hq => ?_)
      · exact br_f (nI_pos (by omega)) (br_t (nI_le (b := 1) (by omega) (by decide)) (br_t (by rw [yD.1, show m = 20 from by omega]; rfl) ⟨rfl, I0⟩))
      · refine br_f (nI_pos (by omega)) (br_t (nI_le (b := 1) (by omega) (by decide)) (br_f (by rw [yD.1]; exact fun z => by have := (nI_eq (b := 20) (by omega) (by decide)).mp z; omega) (ys_make yD.1 hm yD.2.1 (by omega) ⟨rfl, ?_⟩)))
        refine ⟨dd_put d m 4 0 0 t (dd_a st m e 0) (dd_b st m e 0), m + 1, e - 0 + 1, pr_fu st (e - 0) m, g, gx, gp, R, a, w, pl, pk, la, ⟨dd_push o1 hm hq ⟨by decide, fun _ => Or.inr rfl, by decide, by decide, by decide, by decide, by decide⟩, o2, o3, o4, o5, o6⟩, xr_D_put xD hq (by omega) _ _, xP, xR, ?_, yr_P_put0 o2 yP, yR, es⟩
        rw [dd_a0, dd_b0]
        exact yr_D_put0 yD (Or.inr rfl) (fun z => absurd z (by decide)) (fun _ => rfl)
    rcases c with c | c
    · exact br_t c (br_f (by decide) key)
    · exact br_f (by rw [c]; decide) (br_t c (br_f (by decide) key))
  · have c0 : ¬ v1 = 0 := fun z => c (Or.inl z)
    have c1 : ¬ v1 = 1 := fun z => c (Or.inr z)
    refine br_f c0 (br_f c1 (br_t rfl ?_))
    by_cases n0 : v1 < 0
    · exact br_t n0 ⟨rfl, I0⟩
    · refine br_f n0 (br_f ?_ ⟨rfl, I0⟩)
      obtain ⟨j, hj, rfl⟩ := nI_of n0
      intro z
      have := (nI_leI (b := 1) hj (by decide)).mp z
      have : j = 0 ∨ j = 1 := by omega
      rcases this with y | y
      · exact c0 (by rw [y]; rfl)
      · exact c1 (by rw [y]; rfl)
end PRU
end
section
section PRV
/-! loop, message, choose -/
theorem i_vc_loop {k : Nat} {u : SX} {v : SY} (I : i_Rel k u v) (hk : k + 4 ≤ 2048) (v1 : Int32) : wpX_loop (fun r u' => wpY_loop (fun r' v' => r' = r ∧ i_Rel (k + 4) u' v') v v1) u v1 := by
  obtain ⟨f_draftCount, f_stackCount, f_termCount, f_root, f_sentCount, f_walkedFrom, a_draftKind, a_draftFrom, a_draftTo, a_draftNumber, a_draftFirst, a_draftSecond, a_draftParent, a_stack, a_kind, a_from, a_to, a_number, a_first, a_second, a_place, a_picked, a_lastGot, a_oldest, a_waiting, a_slotLabel, a_slotValue⟩ := u
  obtain ⟨z_made, z_depth, z_size, z_rows, z_at, z_sendings, y_sorts, y_froms, y_tos, y_labels, y_firsts, y_seconds, y_around, y_stack, y_senders, y_receivers, y_told, y_values, y_isSent, y_isReceived, y_last, y_met⟩ := v
  have I0 := I
  obtain ⟨d, m, e, st, g, gx, gp, R, a, w, pl, pk, la, ⟨o1, o2, o3, o4, o5, o6⟩, xD, xP, xR, yD, yP, yR, es⟩ := I
  have om := o1.1
  have oe := o1.2.1
  unfold wpX_loop
  by_cases c : v1 = 0 ∨ v1 = 1
  · obtain ⟨t, ht, et⟩ : ∃ t, t < 2 ∧ v1 = nI t := by
      rcases c with c | c
      · exact ⟨0, by decide, c⟩
      · exact ⟨1, by decide, c⟩
    subst et
    have key : wpX_pushTerm (fun r_3 u => match u with | (f_draftCount', f_stackCount', f_termCount', f_root', f_sentCount', f_walkedFrom', a_draftKind', a_draftFrom', a_draftTo', a_draftNumber', a_draftFirst', a_draftSecond', a_draftParent', a_stack', a_kind', a_from', a_to', a_number', a_first', a_second', a_place', a_picked', a_lastGot', a_oldest', a_waiting', a_slotLabel', a_slotValue') => (wpY_loop (fun r' v' => r' = r_3 ∧ i_Rel (k + 4) (f_draftCount', f_stackCount', f_termCount', f_root', f_sentCount', f_walkedFrom', a_draftKind', a_draftFrom', a_draftTo', a_draftNumber', a_draftFirst', a_draftSecond', a_draftParent', a_stack', a_kind', a_from', a_to', a_number', a_first', a_second', a_place', a_picked', a_lastGot', a_oldest', a_waiting', a_slotLabel', a_slotValue') v') (z_made, z_depth, z_size, z_rows, z_at, z_sendings, y_sorts, y_froms, y_tos, y_labels, y_firsts, y_seconds, y_around, y_stack, y_senders, y_receivers, y_told, y_values, y_isSent, y_isReceived, y_last, y_met) (nI t))) (f_draftCount, f_stackCount, f_termCount, f_root, f_sentCount, f_walkedFrom, a_draftKind, a_draftFrom, a_draftTo, a_draftNumber, a_draftFirst, a_draftSecond, a_draftParent, a_stack, a_kind, a_from, a_to, a_number, a_first, a_second, a_place, a_picked, a_lastGot, a_oldest, a_waiting, a_slotLabel, a_slotValue) (nI 3) (nI 0) (nI 0) (nI t) (nI 1) := by
      refine xs_pushTerm o1 xD (by omega) (fun h20 => ?_) (fun hm hq => ?_) (fun hm hq => ?_)
      · exact br_f (nI_pos (by omega)) (br_t (nI_le (b := 1) (by omega) (by decide)) (br_t (by rw [yD.1, show m = 20 from by omega]; rfl) ⟨rfl, I0⟩))
      · exact br_f (nI_pos (by omega)) (br_t (nI_le (b := 1) (by omega) (by decide)) (br_f (by rw [yD.1]; exact fun z => by have := (nI_eq (b := 20) (by omega) (by decide)).mp z; omega) (br_f (by rw [yD.2.1]; exact nI_ge (b := 1) hq (by decide)) ⟨rfl, I0⟩)))
      · refine br_f (nI_pos (by omega)) (br_t (nI_le (b := 1) (by omega) (by decide)) (br_f (by rw [yD.1]; exact fun z => by have := (nI_eq (b := 20) (by omega) (by decide)).mp z; omega) (br_t (by rw [yD.2.1]; exact nI_le (a := 1) hq (by omega)) ?_)))
        refine nm_r (e' := nI (e - 1)) (by rw [yD.2.1]; exact pk_sub (b := 1) hq) ⟨vp_in_nI (by omega) (by decide), vp_in_nI (by omega) (by decide), ?_⟩
        have hs := o1.2.2.2.2.1 (e - 1) (by omega)
        rw [nI_clamp (n := e - 1) (by omega), yD.2.2.2 (e - 1) (by omega)]
        refine ys_take (a := st (e - 1)) (b := st (e - 1)) yD.1 hm (by omega) (by omega) (ys_make yD.1 hm rfl (by omega) ⟨rfl, ?_⟩)
        refine ⟨dd_put d m 3 0 0 t (dd_a st m e 1) (dd_b st m e 1), m + 1, e - 1 + 1, pr_fu st (e - 1) m, g, gx, gp, R, a, w, pl, pk, la, ⟨dd_push o1 hm hq ⟨by decide, by decide, fun _ => Or.inr rfl, by decide, by decide, by decide, by decide⟩, o2, o3, o4, o5, o6⟩, xr_D_put xD hq (by omega) _ _, xP, xR, ?_, yr_P_put o2 yP, yR, es⟩
        rw [dd_a1, dd_b1]
        exact yr_D_put yD hq (fun z => absurd z (by decide)) (fun _ => rfl) (fun z => absurd z (by decide))
    rcases c with c | c
    · exact br_t c (br_f (by decide) key)
    · exact br_f (by rw [c]; decide) (br_t c (br_f (by decide) key))
  · have c0 : ¬ v1 = 0 := fun z => c (Or.inl z)
    have c1 : ¬ v1 = 1 := fun z => c (Or.inr z)
    refine br_f c0 (br_f c1 (br_t rfl ?_))
    by_cases n0 : v1 < 0
    · exact br_t n0 ⟨rfl, I0⟩
    · refine br_f n0 (br_f ?_ ⟨rfl, I0⟩)
      obtain ⟨j, hj, rfl⟩ := nI_of n0
      intro z
      have := (nI_leI (b := 1) hj (by decide)).mp z
      have : j = 0 ∨ j = 1 := by omega
      rcases this with y | y
      · exact c0 (by rw [y]; rfl)
      · exact c1 (by rw [y]; rfl)
theorem i_vc_choose {k : Nat} {u : SX} {v : SY} (I : i_Rel k u v) (hk : k + 4 ≤ 2048) (v1 : Int32) : wpX_choose (fun r u' => wpY_choose (fun r' v' => r' = r ∧ i_Rel (k + 4) u' v') v v1) u v1 := by
  obtain ⟨f_draftCount, f_stackCount, f_termCount, f_root, f_sentCount, f_walkedFrom, a_draftKind, a_draftFrom, a_draftTo, a_draftNumber, a_draftFirst, a_draftSecond, a_draftParent, a_stack, a_kind, a_from, a_to, a_number, a_first, a_second, a_place, a_picked, a_lastGot, a_oldest, a_waiting, a_slotLabel, a_slotValue⟩ := u
  obtain ⟨z_made, z_depth, z_size, z_rows, z_at, z_sendings, y_sorts, y_froms, y_tos, y_labels, y_firsts, y_seconds, y_around, y_stack, y_senders, y_receivers, y_told, y_values, y_isSent, y_isReceived, y_last, y_met⟩ := v
  have I0 := I
  obtain ⟨d, m, e, st, g, gx, gp, R, a, w, pl, pk, la, ⟨o1, o2, o3, o4, o5, o6⟩, xD, xP, xR, yD, yP, yR, es⟩ := I
  have om := o1.1
  have oe := o1.2.1
  unfold wpX_choose wpY_choose
  rcases pr_role v1 with h | ⟨r, hr, e1⟩
  · exact xs_noRole h (br_t rfl (ys_noRole h (br_f (by decide) ⟨rfl, I0⟩)))
  · subst e1
    refine xs_isRole hr (br_f (by decide) ?_)
    refine xs_pushTerm (k := 2) (f := r) (t := 0) (n := 0) (q := 2) o1 xD (by omega) (fun h20 => ?_) (fun hm hq => ?_) (fun hm hq => ?_)
    · exact ys_isRole hr (br_t rfl (br_t (by rw [yD.1, show m = 20 from by omega]; rfl) ⟨rfl, I0⟩))
    · exact ys_isRole hr (br_t rfl (br_f (by rw [yD.1]; exact fun z => by have := (nI_eq (b := 20) (by omega) (by decide)).mp z; omega) (br_f (by rw [yD.2.1]; exact nI_ge (b := 2) hq (by decide)) ⟨rfl, I0⟩)))
    · refine ys_isRole hr (br_t rfl (br_f (by rw [yD.1]; exact fun z => by have := (nI_eq (b := 20) (by omega) (by decide)).mp z; omega) (br_t (by rw [yD.2.1]; exact nI_le (a := 2) hq (by omega)) ?_)))
      refine nm_r (e' := nI (e - 2)) (by rw [yD.2.1]; exact pk_sub (b := 2) hq) ?_
      rw [nI_1]
      refine ⟨vp_in_nI (by omega) (by decide), vp_in_nI (by omega) (by decide), ?_⟩
      have hs := o1.2.2.2.2.1 (e - 2) (by omega)
      have hs1 := o1.2.2.2.2.1 (e - 2 + 1) (by omega)
      rw [nI_clamp (n := e - 2) (by omega), nI_clamp (n := e - 2 + 1) (by omega), yD.2.2.2 (e - 2) (by omega), yD.2.2.2 (e - 2 + 1) (by omega)]
      refine ys_take (a := st (e - 2)) (b := st (e - 2 + 1)) yD.1 hm (by omega) (by omega) (ys_make yD.1 hm rfl (by omega) ⟨rfl, ?_⟩)
      refine ⟨dd_put d m 2 r 0 0 (dd_a st m e 2) (dd_b st m e 2), m + 1, e - 2 + 1, pr_fu st (e - 2) m, g, gx, gp, R, a, w, pl, pk, la, ⟨dd_push o1 hm hq ⟨by decide, by decide, by decide, fun _ => rfl, by decide, fun z => absurd z (by decide), fun _ => hr⟩, o2, o3, o4, o5, o6⟩, xr_D_put xD hq (by decide) _ _, xP, xR, ?_, yr_P_put o2 yP, yR, es⟩
      rw [dd_a2, dd_b2]
      exact yr_D_put yD hq (fun _ => rfl) (fun z => absurd z (by decide)) (fun z => absurd z (by decide))
theorem i_vc_message {k : Nat} {u : SX} {v : SY} (I : i_Rel k u v) (hk : k + 4 ≤ 2048) (v1 : Int32) (v2 : Int32) (v3 : Int32) : wpX_message (fun r u' => wpY_message (fun r' v' => r' = r ∧ i_Rel (k + 4) u' v') v v1 v2 v3) u v1 v2 v3 := by
  obtain ⟨f_draftCount, f_stackCount, f_termCount, f_root, f_sentCount, f_walkedFrom, a_draftKind, a_draftFrom, a_draftTo, a_draftNumber, a_draftFirst, a_draftSecond, a_draftParent, a_stack, a_kind, a_from, a_to, a_number, a_first, a_second, a_place, a_picked, a_lastGot, a_oldest, a_waiting, a_slotLabel, a_slotValue⟩ := u
  obtain ⟨z_made, z_depth, z_size, z_rows, z_at, z_sendings, y_sorts, y_froms, y_tos, y_labels, y_firsts, y_seconds, y_around, y_stack, y_senders, y_receivers, y_told, y_values, y_isSent, y_isReceived, y_last, y_met⟩ := v
  have I0 := I
  obtain ⟨d, m, e, st, g, gx, gp, R, a, w, pl, pk, la, ⟨o1, o2, o3, o4, o5, o6⟩, xD, xP, xR, yD, yP, yR, es⟩ := I
  have om := o1.1
  have oe := o1.2.1
  unfold wpX_message wpY_message
  rcases pr_role v1 with h | ⟨r, hr, e1⟩
  · exact xs_noRole h (br_t rfl (ys_noRole h (br_f (by decide) ⟨rfl, I0⟩)))
  · subst e1
    refine xs_isRole hr (br_f (by decide) ?_)
    rcases pr_role v2 with h | ⟨q, hq, e2⟩
    · exact xs_noRole h (br_t rfl (ys_isRole hr (br_t rfl (ys_noRole h (br_f (by decide) ⟨rfl, I0⟩)))))
    · subst e2
      refine xs_isRole hq (br_f (by decide) ?_)
      by_cases c : r = q
      · subst c
        exact br_t rfl (ys_isRole hr (br_t rfl (ys_isRole hq (br_t rfl (br_t rfl ⟨rfl, I0⟩)))))
      · have c' : ¬ nI r = nI q := fun z => c ((nI_eq (by omega) (by omega)).mp z)
        refine br_f c' ?_
        by_cases n0 : v3 < 0
        · exact br_t n0 (ys_isRole hr (br_t rfl (ys_isRole hq (br_t rfl (br_f c' (br_t n0 ⟨rfl, I0⟩))))))
        · refine br_f n0 ?_
          obtain ⟨l, hl, el⟩ := nI_of n0
          subst el
          by_cases l4 : l < 4
          · refine br_t (nI_lt (b := 4) l4 (by decide)) ?_
            have l3 : nI l ≤ 3 := nI_le (b := 3) (by omega) (by decide)
            refine xs_pushTerm (k := 1) (f := r) (t := q) (n := l) (q := 1) o1 xD (by omega) (fun h20 => ?_) (fun hm hq1 => ?_) (fun hm hq1 => ?_)
            · exact ys_isRole hr (br_t rfl (ys_isRole hq (br_t rfl (br_f c' (br_f n0 (br_t l3 (br_t (by rw [yD.1, show m = 20 from by omega]; rfl) ⟨rfl, I0⟩)))))))
            · exact ys_isRole hr (br_t rfl (ys_isRole hq (br_t rfl (br_f c' (br_f n0 (br_t l3 (br_f (by rw [yD.1]; exact fun z => by have := (nI_eq (b := 20) (by omega) (by decide)).mp z; omega) (br_f (by rw [yD.2.1]; exact nI_ge (b := 1) hq1 (by decide)) ⟨rfl, I0⟩))))))))
            · refine ys_isRole hr (br_t rfl (ys_isRole hq (br_t rfl (br_f c' (br_f n0 (br_t l3 (br_f (by rw [yD.1]; exact fun z => by have := (nI_eq (b := 20) (by omega) (by decide)).mp z; omega) (br_t (by rw [yD.2.1]; exact nI_le (a := 1) hq1 (by omega)) ?_))))))))
              refine nm_r (e' := nI (e - 1)) (by rw [yD.2.1]; exact pk_sub (b := 1) hq1) ⟨vp_in_nI (by omega) (by decide), vp_in_nI (by omega) (by decide), ?_⟩
              have hs := o1.2.2.2.2.1 (e - 1) (by omega)
              rw [nI_clamp (n := e - 1) (by omega), yD.2.2.2 (e - 1) (by omega)]
              refine ys_take (a := st (e - 1)) (b := st (e - 1)) yD.1 hm (by omega) (by omega) (ys_make yD.1 hm rfl (by omega) ⟨rfl, ?_⟩)
              refine ⟨dd_put d m 1 r q l (dd_a st m e 1) (dd_b st m e 1), m + 1, e - 1 + 1, pr_fu st (e - 1) m, g, gx, gp, R, a, w, pl, pk, la, ⟨dd_push o1 hm hq1 ⟨by decide, by decide, fun _ => Or.inl rfl, by decide, by decide, fun _ => ⟨hr, hq, c⟩, fun z => absurd z (by decide)⟩, o2, o3, o4, o5, o6⟩, xr_D_put xD hq1 l4 _ _, xP, xR, ?_, yr_P_put o2 yP, yR, es⟩
              rw [dd_a1, dd_b1]
              exact yr_D_put yD hq1 (fun _ => rfl) (fun z => absurd z (by decide)) (fun _ => rfl)
          · exact br_f (nI_nlt (b := 4) (by omega) hl) (ys_isRole hr (br_t rfl (ys_isRole hq (br_t rfl (br_f c' (br_f n0 (br_f (nI_ge (a := 3) (by omega) hl) ⟨rfl, I0⟩)))))))
end PRV
end
section
section PRW
/-! the next action, on both sides -/
theorem ro_565 {R : List ro_T} {r : Nat} (hr : r < 3) (ok : ro_A R) (b : ro_B R) (hw : ∀ p q, (R.filter (ro_w p q)).length ≤ 4) (hf : R.countP ro_f ≤ 1) (h0 : ∀ x, x ∈ R → ro_u r x = false) : R.length ≤ 565 := by
  have h1 := b [] R rfl
  have h2 := ro_sum ok
  have h4 := ro_len R
  have w1 := hw 0 1
  have w2 := hw 0 2
  have w3 := hw 1 0
  have w4 := hw 1 2
  have w5 := hw 2 0
  have w6 := hw 2 1
  have n0 := ro_n_le 0 R
  have n1 := ro_n_le 1 R
  have n2 := ro_n_le 2 R
  have nr := ro_n_0 h0
  have h3 : ro_N R ≤ 2 := by
    unfold ro_N
    have : r = 0 ∨ r = 1 ∨ r = 2 := by omega
    rcases this with z | z | z <;> subst z <;> omega
  omega
theorem pr_sk_lt {g : pg_T} (ok : pg_ok g) {C : Nat → Prop} {t x : Nat} (ht : t < pg_n g) (h : pr_sk C (pg_1 g) t x) : x < pg_n g := by
  obtain ⟨k, e, -⟩ := h
  rw [← e]
  exact pr_it_lt (fun _ => pg_1lt ok) k t ht
/-- what stands first in r's rest of the path -/
theorem pr_head {g : pg_T} (ok : pg_ok g) {r a t0 : Nat} {x : ro_T} {L : List pr_T} {pk0 : Option Nat} (hx : ro_ok x) (ht0 : t0 < pg_n g) (h : pr_pth g r a (ro_t x :: L) t0 pk0) :
    ∃ t y, t < pg_n g ∧ y < pg_n g ∧ pr_sk (pg_c g r) (pg_1 g) t0 t ∧ pg_c g r t ∧ pr_pth g r a L y none ∧ (pg_k g t = 1 ∧ y = pg_1 g t ∨ pg_k g t = 2 ∧ ∃ c, c < 2 ∧ ro_l x = nI c ∧ y = pg_b g t c) ∧
      ((ro_p x = r ∧ pg_f g t = r ∧ pg_o g pk0 r t = ro_q x ∧ (pg_k g t = 1 → ro_l x = pg_l g t) ∧ (pg_k g t ≠ 1 → pr_oI pk0 = ro_l x ∧ pk0 ≠ none)) ∨ (ro_q x = r ∧ ro_p x ≠ r ∧ pg_f g t = ro_p x ∧ pg_o g pk0 r t = ro_p x)) := by
  obtain ⟨x1, x2, x3, x4⟩ := hx
  cases pk0 with
  | none =>
    obtain ⟨t, hs, hc, h⟩ := h
    have ht := pr_sk_lt ok ht0 hs
    rcases h with ⟨k1, e, h⟩ | ⟨k2, hr, c, hc2, e, h⟩
    · have e1 : ro_p x = pg_f g t := congrArg (fun z : pr_T => z.1) e
      have e2 : ro_q x = pg_t g t := congrArg (fun z : pr_T => z.2.1) e
      have e3 : ro_l x = pg_l g t := congrArg (fun z : pr_T => z.2.2) e
      refine ⟨t, pg_1 g t, ht, pg_1lt ok ht, hs, hc, h, Or.inl ⟨k1, rfl⟩, ?_⟩
      have hft : pg_f g t = r ∨ pg_t g t = r := by
        rcases hc with z | ⟨-, z⟩
        · omega
        · exact z
      by_cases c : pg_f g t = r
      · refine Or.inl ⟨by omega, c, ?_, fun _ => e3, fun z => absurd k1 z⟩
        unfold pg_o
        rw [if_pos c, if_pos k1, e2]
      · refine Or.inr ⟨by omega, by omega, e1.symm, ?_⟩
        unfold pg_o
        rw [if_neg c, e1]
    · have e1 : ro_p x = pg_f g t := congrArg (fun z : pr_T => z.1) e
      have e2 : ro_q x = r := congrArg (fun z : pr_T => z.2.1) e
      have e3 : ro_l x = nI c := congrArg (fun z : pr_T => z.2.2) e
      refine ⟨t, pg_b g t c, ht, pg_blt ok ht c, hs, hc, h, Or.inr ⟨k2, c, hc2, e3, rfl⟩, Or.inr ⟨e2, by omega, e1.symm, ?_⟩⟩
      unfold pg_o
      rw [if_neg hr, e1]
  | some c =>
    obtain ⟨t, hs, hc, k2, hr, hc2, e, h⟩ := h
    have ht := pr_sk_lt ok ht0 hs
    have e1 : ro_p x = r := congrArg (fun z : pr_T => z.1) e
    have e2 : ro_q x = pr_gre r := congrArg (fun z : pr_T => z.2.1) e
    have e3 : ro_l x = nI c := congrArg (fun z : pr_T => z.2.2) e
    refine ⟨t, pg_b g t c, ht, pg_blt ok ht c, hs, hc, h, Or.inr ⟨k2, c, hc2, e3, rfl⟩, Or.inl ⟨e1, hr, ?_, fun z => by omega, fun _ => ⟨e3.symm, by simp⟩⟩⟩
    unfold pg_o
    rw [if_pos hr, if_neg (by omega), if_neg (by simp), e2]
section
variable {f_draftCount f_stackCount f_termCount f_root f_sentCount f_walkedFrom : Int32} {a_draftKind a_draftFrom a_draftTo a_draftNumber a_draftFirst a_draftSecond a_draftParent a_stack a_kind a_from a_to a_number a_first a_second a_place a_picked a_lastGot a_oldest a_waiting a_slotLabel a_slotValue : Nat → Int32} {g : pg_T}
theorem xs_state {post : Int32 → Prop} {r t0 t : Nat} {pk0 : Option Nat} {W : Nat → Nat → Nat} (ok : pg_ok g) (P : xr_P g f_termCount f_root a_kind a_from a_to a_number a_first a_second) (hr : r < 3) (hpl : a_place r = nI t0) (ht0 : t0 < pg_n g) (hs : pr_sk (pg_c g r) (pg_1 g) t0 t) (hc : pg_c g r t) (hp : a_picked r = pr_oI pk0) (hpk : ∀ c, pk0 = some c → c < 2)
    (hw : ∀ p q, p < 3 → q < 3 → a_waiting (p * 3 + q) = nI (W p q) ∧ W p q ≤ 4) (h : post (nI (pg_si g pk0 W r t))) : wpX_state post (f_draftCount, f_stackCount, f_termCount, f_root, f_sentCount, f_walkedFrom, a_draftKind, a_draftFrom, a_draftTo, a_draftNumber, a_draftFirst, a_draftSecond, a_draftParent, a_stack, a_kind, a_from, a_to, a_number, a_first, a_second, a_place, a_picked, a_lastGot, a_oldest, a_waiting, a_slotLabel, a_slotValue) (nI r) := by
  have ht := pr_sk_lt ok ht0 hs
  have h20 := ok.2.1
  unfold wpX_state
  exact xs_isRole hr (br_f (by decide) (xs_nextTerm ok P hr hpl ht0 hs hc (br_f (pr_nm1 (by omega)) (xs_situation ok P ht hr hc hp hpk hw h))))
theorem xs_stateO {post : Int32 → Prop} {r t0 : Nat} (ok : pg_ok g) (P : xr_P g f_termCount f_root a_kind a_from a_to a_number a_first a_second) (hr : r < 3) (hpl : a_place r = nI t0) (ht0 : t0 < pg_n g) (hn : ∀ j, ¬ pg_c g r (pr_it (pg_1 g) j t0)) (h : post 0) : wpX_state post (f_draftCount, f_stackCount, f_termCount, f_root, f_sentCount, f_walkedFrom, a_draftKind, a_draftFrom, a_draftTo, a_draftNumber, a_draftFirst, a_draftSecond, a_draftParent, a_stack, a_kind, a_from, a_to, a_number, a_first, a_second, a_place, a_picked, a_lastGot, a_oldest, a_waiting, a_slotLabel, a_slotValue) (nI r) := by
  unfold wpX_state
  exact xs_isRole hr (br_f (by decide) (xs_nowhere ok P hr hpl ht0 hn (br_t rfl h)))
theorem xs_partner {post : Int32 → Prop} {r t0 t : Nat} {pk0 : Option Nat} (ok : pg_ok g) (P : xr_P g f_termCount f_root a_kind a_from a_to a_number a_first a_second) (hr : r < 3) (hpl : a_place r = nI t0) (ht0 : t0 < pg_n g) (hs : pr_sk (pg_c g r) (pg_1 g) t0 t) (hc : pg_c g r t) (hp : a_picked r = pr_oI pk0) (hpk : ∀ c, pk0 = some c → c < 2)
    (h : post (nI (pg_o g pk0 r t))) : wpX_partner post (f_draftCount, f_stackCount, f_termCount, f_root, f_sentCount, f_walkedFrom, a_draftKind, a_draftFrom, a_draftTo, a_draftNumber, a_draftFirst, a_draftSecond, a_draftParent, a_stack, a_kind, a_from, a_to, a_number, a_first, a_second, a_place, a_picked, a_lastGot, a_oldest, a_waiting, a_slotLabel, a_slotValue) (nI r) := by
  have ht := pr_sk_lt ok ht0 hs
  have h20 := ok.2.1
  unfold wpX_partner
  exact xs_isRole hr (br_f (by decide) (xs_nextTerm ok P hr hpl ht0 hs hc (br_f (pr_nm1 (by omega)) (xs_otherSide ok P ht hr hc hp hpk h))))
theorem xs_partnerO {post : Int32 → Prop} {r t0 : Nat} (ok : pg_ok g) (P : xr_P g f_termCount f_root a_kind a_from a_to a_number a_first a_second) (hr : r < 3) (hpl : a_place r = nI t0) (ht0 : t0 < pg_n g) (hn : ∀ j, ¬ pg_c g r (pr_it (pg_1 g) j t0)) (h : post (-4)) : wpX_partner post (f_draftCount, f_stackCount, f_termCount, f_root, f_sentCount, f_walkedFrom, a_draftKind, a_draftFrom, a_draftTo, a_draftNumber, a_draftFirst, a_draftSecond, a_draftParent, a_stack, a_kind, a_from, a_to, a_number, a_first, a_second, a_place, a_picked, a_lastGot, a_oldest, a_waiting, a_slotLabel, a_slotValue) (nI r) := by
  unfold wpX_partner
  exact xs_isRole hr (br_f (by decide) (xs_nowhere ok P hr hpl ht0 hn (br_t rfl h)))
end
/-- what the walk from a meets first for r -/
def pg_mt (g : pg_T) (r a k : Nat) : Prop := pg_c g r (pr_it (pg_w g) k a) ∧ (∀ i, i < k → pg_k g (pr_it (pg_w g) i a) = 1 ∧ ¬ pg_c g r (pr_it (pg_w g) i a)) ∧ k + 1 < pg_n g
      ∧ (∀ i j, i < j → j ≤ k → pr_it (pg_w g) i a ≠ pr_it (pg_w g) j a) ∧ pr_sk (pg_c g r) (pg_1 g) a (pr_it (pg_w g) k a)
section
variable {z_made z_depth z_size z_rows z_at z_sendings : Int32} {y_sorts y_froms y_tos y_labels y_firsts y_seconds y_around y_stack y_senders y_receivers y_told y_values y_isSent y_isReceived y_last y_met : Nat → Int32} {g : pg_T} {gx : Nat → Nat} {gp : Nat → Option Nat}
theorem ys_nextO {post : Int32 → SY → Prop} {r a w : Nat} {R : List ro_T} {pl : Nat → Nat} {pk : Nat → Option Nat} (ok : pg_ok g) (U : pg_up g gx gp) (P : yr_P g gx gp z_size y_sorts y_froms y_tos y_labels y_firsts y_seconds y_around) (hr : r < 3) (hrun : pr_run g R a w pl pk) (hl : R.length ≤ 565) (er : z_rows = nI R.length) (ea : z_at = nI a) (Y : yr_ok R y_senders y_receivers y_told y_values y_isSent y_isReceived)
    (h1 : ∀ y, y ∈ R → ro_u r y = false) (hn : ∀ i, ¬ pg_c g r (pr_it (pg_w g) i a)) (h : ∀ M : Nat → Int32, post (-3) (z_made, z_depth, z_size, z_rows, z_at, z_sendings, y_sorts, y_froms, y_tos, y_labels, y_firsts, y_seconds, y_around, y_stack, y_senders, y_receivers, y_told, y_values, y_isSent, y_isReceived, y_last, M)) : wpY_next post (z_made, z_depth, z_size, z_rows, z_at, z_sendings, y_sorts, y_froms, y_tos, y_labels, y_firsts, y_seconds, y_around, y_stack, y_senders, y_receivers, y_told, y_values, y_isSent, y_isReceived, y_last, y_met) (nI r) := by
  refine ys_nextB hr hrun.2.2.2.2.2.1 (by omega) er Y h1 ?_
  intro M hM
  obtain ⟨j, h0, hj, hd, hi, hcov⟩ := pr_orb (g := pg_w g) (fun _ => pg_wlt ok) hrun.1
  subst ea
  exact ⟨j + 1, ys_38n ok U P hr hrun.1 hrun.2.1 hn hd hi h j 0 M (by omega) (fun j hj => by omega) (fun x hx _ => hM x hx) (fun j hj => by omega)⟩
theorem ys_nextM {post : Int32 → SY → Prop} {r a w k : Nat} {R : List ro_T} {pl : Nat → Nat} {pk : Nat → Option Nat} (ok : pg_ok g) (U : pg_up g gx gp) (P : yr_P g gx gp z_size y_sorts y_froms y_tos y_labels y_firsts y_seconds y_around) (hr : r < 3) (hrun : pr_run g R a w pl pk) (hl : R.length ≤ 565) (er : z_rows = nI R.length) (ea : z_at = nI a) (Y : yr_ok R y_senders y_receivers y_told y_values y_isSent y_isReceived)
    (h1 : ∀ y, y ∈ R → ro_u r y = false) (hm : pg_mt g r a k)
    (hp : pg_k g (pr_it (pg_w g) k a) = 2 → pg_f g (pr_it (pg_w g) k a) = r → ∀ M : Nat → Int32, post (-1) (z_made, z_depth, z_size, z_rows, z_at, z_sendings, y_sorts, y_froms, y_tos, y_labels, y_firsts, y_seconds, y_around, y_stack, y_senders, y_receivers, y_told, y_values, y_isSent, y_isReceived, y_last, M))
    (ht : pg_k g (pr_it (pg_w g) k a) = 2 → pg_f g (pr_it (pg_w g) k a) ≠ r → ∀ M : Nat → Int32, post (-2) (z_made, z_depth, z_size, z_rows, z_at, z_sendings, y_sorts, y_froms, y_tos, y_labels, y_firsts, y_seconds, y_around, y_stack, y_senders, y_receivers, y_told, y_values, y_isSent, y_isReceived, y_last, M))
    (he : pg_k g (pr_it (pg_w g) k a) = 1 → ∀ (E : List ro_T) (v : Int32) (d1 d2 d3 d5 d6 M : Nat → Int32), E.length = k → (∀ e, e ∈ E → ro_new e ∧ ro_c r e = false) →
        pr_run g (R ++ E ++ [(pg_f g (pr_it (pg_w g) k a), pg_t g (pr_it (pg_w g) k a), pg_l g (pr_it (pg_w g) k a), v, false, false)]) (pg_w g (pr_it (pg_w g) k a)) w pl pk →
        yr_ok (R ++ E ++ [(pg_f g (pr_it (pg_w g) k a), pg_t g (pr_it (pg_w g) k a), pg_l g (pr_it (pg_w g) k a), v, false, false)]) d1 d2 d3 y_values d5 d6 →
        post (nI (R.length + k)) (z_made, z_depth, z_size, nI (R.length + k + 1), nI (pg_w g (pr_it (pg_w g) k a)), z_sendings, y_sorts, y_froms, y_tos, y_labels, y_firsts, y_seconds, y_around, y_stack, d1, d2, d3, y_values, d5, d6, y_last, M)) : wpY_next post (z_made, z_depth, z_size, z_rows, z_at, z_sendings, y_sorts, y_froms, y_tos, y_labels, y_firsts, y_seconds, y_around, y_stack, y_senders, y_receivers, y_told, y_values, y_isSent, y_isReceived, y_last, y_met) (nI r) := by
  obtain ⟨m1, m2, m3, m4, m5⟩ := hm
  have h20 := ok.2.1
  have htl := pg_itlt ok hrun.1 k
  refine ys_nextB hr hrun.2.2.2.2.2.1 (by omega) er Y h1 ?_
  intro M hM
  have ea' := ea
  subst ea
  refine ⟨k + 1, ys_38f ok U P hr hrun.1 m2 m1 m4 ?_ k 0 M (by omega) (fun x hx _ => hM x hx)⟩
  intro M' hM'
  obtain ⟨i40, i20, ec, es, b⟩ := yr_pat ok P htl
  have cf := pg_cf ok htl m1
  unfold wY_next_87
  rw [ec, es, hM']
  have kk : pg_k g (pr_it (pg_w g) k a) = 1 ∨ pg_k g (pr_it (pg_w g) k a) = 2 := by
    rcases m1 with z | ⟨z, -⟩
    · exact Or.inr z
    · exact Or.inl z
  rcases kk with k1 | k2
  · rw [k1]
    refine ⟨i40, br_f (by decide) ⟨i40, br_f (by decide) ⟨i20, br_t rfl ⟨k + 1, ?_⟩⟩⟩⟩
    exact ys_135 (y_met := M') ok U P k a R z_rows (nI a) y_senders y_receivers y_told y_isSent y_isReceived hrun er rfl Y m2 k1 (fun i hi => m4 i k hi (Nat.le_refl k)) (by omega) (fun E v d1 d2 d3 d5 d6 eE hE r1 y1 => he k1 E v d1 d2 d3 d5 d6 M' eE hE r1 y1)
  · rw [(P.2 _ htl).2.1 (by omega)]
    refine ⟨i40, br_t (by rw [k2]; rfl) ⟨i40, pk_eq (pg_f g (pr_it (pg_w g) k a)) r (fun c => hp k2 c M') (fun c => ht k2 c M')⟩⟩
end
end PRW
end
section
section PRX
/-! state and partner -/
theorem pr_nneg {a : Nat} (h : a < 2 ^ 31) {x : Int32} (hx : x < 0) : ¬ nI a = x := by
  intro e
  have h1 := nI_pos (n := a) h
  rw [e] at h1
  exact h1 hx
theorem ro_f_app {R E : List ro_T} (h : ∀ e, e ∈ E → ro_new e) : (R ++ E).countP ro_f = R.countP ro_f := by
  rw [List.countP_append]
  have : E.countP ro_f = 0 := by
    rw [List.countP_eq_zero]
    intro e he
    unfold ro_f
    simp [(h e he).1]
  omega
theorem pg_si_s {g : pg_T} {pk0 : Option Nat} {W : Nat → Nat → Nat} {r t o : Nat} (hf : pg_f g t = r) (ho : pg_o g pk0 r t = o) : pg_si g pk0 W r t = if 4 ≤ W r o then 2 else 1 := by
  unfold pg_si
  rw [if_pos hf, ho]
theorem pg_si_r {g : pg_T} {pk0 : Option Nat} {W : Nat → Nat → Nat} {r t o : Nat} (hf : pg_f g t ≠ r) (ho : pg_o g pk0 r t = o) : pg_si g pk0 W r t = if W o r = 0 then 4 else 3 := by
  unfold pg_si
  rw [if_neg hf, ho]
/-- the run goes on by a message that r meets -/
theorem rl_ext {d : dd_T} {m e : Nat} {st : Nat → Nat} {g : pg_T} {gx : Nat → Nat} {gp : Nat → Option Nat} {R E : List ro_T} {a a' w r k : Nat} {pl : Nat → Nat} {pk : Nat → Option Nat} {y : ro_T} (G : rl_G d m e st g gx gp R a w pl pk) (hr : r < 3) (h0 : ∀ x, x ∈ R → ro_u r x = false) (hk : k + 1 < pg_n g) (eE : E.length = k) (hE : ∀ e, e ∈ E → ro_new e ∧ ro_c r e = false) (hy : ro_new y) (hc : ro_c r y = true) (hrun : pr_run g (R ++ E ++ [y]) a' w pl pk) :
    rl_G d m e st g gx gp (R ++ E ++ [y]) a' w pl pk ∧ (∀ p q, (R ++ E ++ [y]).filter (ro_w p q) = R.filter (ro_w p q)) ∧ (∀ z, z ∈ R ++ E → ro_u r z = false) ∧ ro_u r y = true := by
  obtain ⟨o1, o2, o3, o4, o5, o6⟩ := G
  have h20 := o2.2.1
  have hn : ∀ e, e ∈ E ++ [y] → ro_new e := by
    intro e he
    rcases List.mem_append.mp he with z | z
    · exact (hE e z).1
    · rw [List.mem_singleton] at z; rw [z]; exact hy
  have hu : ro_u r y = true := by rw [ro_new_u hy]; exact hc
  refine ⟨⟨o1, o2, o3, hrun, ?_, ?_⟩, ?_, ?_, hu⟩
  · rw [List.append_assoc]
    exact ro_app_B o5 hr h0 (by rw [List.length_append, List.length_singleton, eE]; omega) hu
  · rw [List.append_assoc, ro_f_app hn]
    exact o6
  · intro p q
    rw [List.append_assoc, ro_app_w hn]
  · intro z hz
    rcases List.mem_append.mp hz with c | c
    · exact h0 z c
    · rw [ro_new_u (hE z c).1]; exact (hE z c).2
theorem i_vc_state {k : Nat} {u : SX} {v : SY} (I : i_Rel k u v) (hk : k + 4 ≤ 2048) (v1 : Int32) : wpX_state (fun r => wpY_state (fun r' v' => r' = r ∧ i_Rel (k + 4) u v') v v1) u v1 := by
  obtain ⟨f_draftCount, f_stackCount, f_termCount, f_root, f_sentCount, f_walkedFrom, a_draftKind, a_draftFrom, a_draftTo, a_draftNumber, a_draftFirst, a_draftSecond, a_draftParent, a_stack, a_kind, a_from, a_to, a_number, a_first, a_second, a_place, a_picked, a_lastGot, a_oldest, a_waiting, a_slotLabel, a_slotValue⟩ := u
  obtain ⟨z_made, z_depth, z_size, z_rows, z_at, z_sendings, y_sorts, y_froms, y_tos, y_labels, y_firsts, y_seconds, y_around, y_stack, y_senders, y_receivers, y_told, y_values, y_isSent, y_isReceived, y_last, y_met⟩ := v
  have I0 := I
  obtain ⟨d, m, e, st, g, gx, gp, R, a, w, pl, pk, la, G, xD, xP, xR, yD, yP, yR, es⟩ := I
  have G0 := G
  obtain ⟨o1, o2, o3, o4, o5, o6⟩ := G
  have hAok := o4.2.2.2.2.2.1
  have hl6 := ro_585 hAok o5 o4.2.2.2.2.2.2.2 o6
  have h20 := o2.2.1
  rcases pr_role v1 with h | ⟨r, hr, e1⟩
  · unfold wpX_state wpY_state
    exact xs_noRole h (br_t rfl (ys_noRole h (br_f (by decide) ⟨rfl, I0⟩)))
  · subst e1
    have hW : ∀ p q, p < 3 → q < 3 → a_waiting (p * 3 + q) = nI ((fun p q => (R.filter (ro_w p q)).length) p q) ∧ (fun p q => (R.filter (ro_w p q)).length) p q ≤ 4 := by
      intro p q hp hq
      obtain ⟨o, -, -, hw, -⟩ := xR.2.2 p q hp hq
      exact ⟨hw, o4.2.2.2.2.2.2.2 p q⟩
    obtain ⟨hpl, hpi, -⟩ := xR.2.1 r hr
    obtain ⟨ht0, hpth⟩ := o4.2.2.2.2.2.2.1 r hr
    have hpk2 : ∀ c, pk r = some c → c < 2 := fun c ec => by rw [ec] at hpth; exact pr_pth_pk hpth
    rcases ro_split r R with hnone | ⟨A, x, C, eR, hA, hu⟩
    · rw [ro_fil0 hnone] at hpth
      obtain ⟨epk, hsk⟩ := hpth
      have hl := ro_565 hr hAok o5 o4.2.2.2.2.2.2.2 o6 hnone
      by_cases hx : ∃ j, pg_c g r (pr_it (pg_w g) j a)
      · obtain ⟨j, hm⟩ := pg_meet o2 o4.1 o4.2.1 r hx
        have htl := pg_itlt o2 o4.1 j
        refine xs_state o2 xP hr hpl ht0 (pr_sk_tr hsk hm.2.2.2.2) hm.1 hpi hpk2 hW ?_
        unfold wpY_state
        refine ys_isRole hr (br_t rfl (ys_nextM o2 o3 yP hr o4 hl yR.1 yR.2.1 yR.2.2.1 hnone hm ?_ ?_ ?_))
        · intro k2 fr M
          refine br_f (by decide) (br_f (by decide) (br_t (by decide) (br_t rfl ?_)))
          have ho : pg_o g (pk r) r (pr_it (pg_w g) j a) = pr_les r := by
            unfold pg_o
            rw [if_pos fr, if_neg (by omega), if_pos epk]
          rw [pg_si_s fr ho]
          refine ys_lesser hr ?_
          unfold wY_state_80
          refine ys_counted hr (pr_les_ok hr).1 hAok (by omega) yR.1 yR.2.2.1 ?_
          have w4 := o4.2.2.2.2.2.2.2 r (pr_les r)
          refine pk_le 4 (R.filter (ro_w r (pr_les r))).length (fun c => ⟨?_, rl_met I0 M⟩) (fun c => ⟨?_, rl_met I0 M⟩)
          · rw [if_pos c]; rfl
          · rw [if_neg (by omega)]; rfl
        · intro k2 fr M
          have ho : pg_o g (pk r) r (pr_it (pg_w g) j a) = pg_f g (pr_it (pg_w g) j a) := by
            unfold pg_o
            rw [if_neg fr]
          rw [pg_si_r fr ho]
          refine br_f (by decide) (br_t rfl ⟨?_, rl_met I0 M⟩)
          rw [if_pos (by show (R.filter (ro_w _ r)).length = 0; rw [ro_none_w hnone]; rfl)]
          rfl
        · intro k1 E v d1 d2 d3 d5 d6 M eE hE hrun hY
          have cf := pg_cf o2 htl hm.1
          have hft : pg_f g (pr_it (pg_w g) j a) = r ∨ pg_t g (pr_it (pg_w g) j a) = r := by
            rcases hm.1 with z | ⟨-, z⟩
            · omega
            · exact z
          obtain ⟨G1, hwe, hun, huy⟩ := rl_ext G0 hr hnone hm.2.2.1 eE hE ⟨rfl, rfl⟩ (by show (pg_f g (pr_it (pg_w g) j a) == r || pg_t g (pr_it (pg_w g) j a) == r) = true; simpa using hft) hrun
          have hlen : (R ++ E ++ [((pg_f g (pr_it (pg_w g) j a), pg_t g (pr_it (pg_w g) j a), pg_l g (pr_it (pg_w g) j a), v, false, false) : ro_T)]).length = R.length + j + 1 := by
            rw [List.length_append, List.length_append, eE]; rfl
          have I1 : i_Rel (k + 4) (f_draftCount, f_stackCount, f_termCount, f_root, f_sentCount, f_walkedFrom, a_draftKind, a_draftFrom, a_draftTo, a_draftNumber, a_draftFirst, a_draftSecond, a_draftParent, a_stack, a_kind, a_from, a_to, a_number, a_first, a_second, a_place, a_picked, a_lastGot, a_oldest, a_waiting, a_slotLabel, a_slotValue) (z_made, z_depth, z_size, nI (R.length + j + 1), nI (pg_w g (pr_it (pg_w g) j a)), z_sendings, y_sorts, y_froms, y_tos, y_labels, y_firsts, y_seconds, y_around, y_stack, d1, d2, d3, y_values, d5, d6, y_last, M) :=
            ⟨d, m, e, st, g, gx, gp, _, _, w, pl, pk, la, G1, xD, xP, ⟨xR.1, xR.2.1, pr_ring_eq xR.2.2 hwe⟩, yD, yP, ⟨by rw [hlen], rfl, hY, yR.2.2.2⟩, es⟩
          obtain ⟨q1, q2, q3, q4, q5, q6⟩ := hY (R.length + j) (pg_f g (pr_it (pg_w g) j a), pg_t g (pr_it (pg_w g) j a), pg_l g (pr_it (pg_w g) j a), v, false, false) (by
            have := yr_here (A := R ++ E) (C := []) (x := (pg_f g (pr_it (pg_w g) j a), pg_t g (pr_it (pg_w g) j a), pg_l g (pr_it (pg_w g) j a), v, false, false))
            rw [List.length_append, eE] at this
            exact this)
          have i6 : vp_in (nI (R.length + j)) 600 := vp_in_nI (by omega) (by decide)
          refine br_f (pr_nneg (by omega) (by decide)) (br_f (pr_nneg (by omega) (by decide)) (br_f (nI_pos (by omega)) ⟨i6, ?_⟩))
          dsimp only
          rw [nI_clamp (n := R.length + j) (by omega), q2, q5]
          have c1 := cf.1
          have c2 := cf.2 k1
          refine pk_eq (pg_t g (pr_it (pg_w g) j a)) r (fun c => ⟨i6, br_t rfl ⟨?_, I1⟩⟩) (fun c => br_f (pr_nneg (by omega) (by decide)) ⟨i6, ?_⟩) rfl rfl
          · have nf : pg_f g (pr_it (pg_w g) j a) ≠ r := by omega
            have ho : pg_o g (pk r) r (pr_it (pg_w g) j a) = pg_f g (pr_it (pg_w g) j a) := by
              unfold pg_o
              rw [if_neg nf]
            rw [pg_si_r nf ho, if_pos (by show (R.filter (ro_w _ r)).length = 0; rw [ro_none_w hnone]; rfl)]
            rfl
          · have fr : pg_f g (pr_it (pg_w g) j a) = r := by omega
            have ho : pg_o g (pk r) r (pr_it (pg_w g) j a) = pg_t g (pr_it (pg_w g) j a) := by
              unfold pg_o
              rw [if_pos fr, if_pos k1]
            rw [pg_si_s fr ho, nI_clamp (n := R.length + j) (by omega), q2]
            unfold wY_state_80
            refine ys_counted hr c2.1 G1.2.2.2.1.2.2.2.2.2.1 (by rw [hlen]; omega) (by rw [hlen]) hY ?_
            have w4 := o4.2.2.2.2.2.2.2 r (pg_t g (pr_it (pg_w g) j a))
            rw [hwe]
            refine pk_le 4 (R.filter (ro_w r (pg_t g (pr_it (pg_w g) j a)))).length (fun c => ⟨?_, I1⟩) (fun c => ⟨?_, I1⟩)
            · rw [if_pos c]; rfl
            · rw [if_neg (by omega)]; rfl
      · have hn : ∀ j, ¬ pg_c g r (pr_it (pg_w g) j a) := fun j z => hx ⟨j, z⟩
        refine xs_stateO o2 xP hr hpl ht0 (pr_nv_sk hsk (pg_never o2 o4.1 o4.2.1 r hn)) ?_
        unfold wpY_state
        exact ys_isRole hr (br_t rfl (ys_nextO o2 o3 yP hr o4 hl yR.1 yR.2.1 yR.2.2.1 hnone hn (fun M => br_t rfl ⟨rfl, rl_met I0 M⟩)))
    · subst eR
      rw [ro_own hA hu, List.map_cons] at hpth
      have kx := hAok x (by simp)
      obtain ⟨t, y, ht, hy, hs, hc, -, -, hcase⟩ := pr_head o2 kx ht0 hpth
      refine xs_state o2 xP hr hpl ht0 hs hc hpi hpk2 hW ?_
      unfold wpY_state
      have hlA : A.length < 600 := by
        have := hl6
        rw [List.length_append, List.length_cons] at this
        omega
      refine ys_isRole hr (br_t rfl (ys_nextA hr hAok (by omega) yR.1 yR.2.2.1 hA hu ?_))
      obtain ⟨q1, q2, q3, q4, q5, q6⟩ := yR.2.2.1 A.length x yr_here
      have i6 : vp_in (nI A.length) 600 := vp_in_nI hlA (by decide)
      have kx1 := kx.1
      have kx2 := kx.2.1
      refine br_f (pr_nneg (by omega) (by decide)) (br_f (pr_nneg (by omega) (by decide)) (br_f (nI_pos (by omega)) ⟨i6, ?_⟩))
      dsimp only
      rw [nI_clamp (n := A.length) (by omega), q2, q5]
      rcases hcase with ⟨p1, p2, p3, -⟩ | ⟨p1, p2, p3, p4⟩
      · rw [pg_si_s p2 p3]
        have nq : ro_q x ≠ r := fun z => kx.2.2.1 (by omega)
        refine br_f (fun z => nq ((nI_eq (by omega) (by omega)).mp z)) (br_f (pr_nneg (by omega) (by decide)) ⟨i6, ?_⟩)
        rw [nI_clamp (n := A.length) (by omega), q2]
        unfold wY_state_80
        refine ys_counted hr kx2 hAok (by omega) yR.1 yR.2.2.1 ?_
        have w4 := o4.2.2.2.2.2.2.2 r (ro_q x)
        refine pk_le 4 ((A ++ x :: C).filter (ro_w r (ro_q x))).length (fun c => ⟨?_, I0⟩) (fun c => ⟨?_, I0⟩)
        · rw [if_pos c]; rfl
        · rw [if_neg (by omega)]; rfl
      · have nf : pg_f g t ≠ r := by omega
        rw [pg_si_r nf p4]
        refine br_t (by rw [p1]) ⟨i6, ?_⟩
        have hrw := ro_rcv_w o4.2.2.2.2.1 hAok hA p1 hu
        cases hsx : ro_s x
        · refine br_t rfl ⟨?_, I0⟩
          rw [if_pos (by show ((A ++ x :: C).filter (ro_w (ro_p x) r)).length = 0; rw [hrw.2 hsx]; rfl)]
          rfl
        · refine br_f (by decide) ⟨?_, I0⟩
          rw [if_neg (by show ¬ ((A ++ x :: C).filter (ro_w (ro_p x) r)).length = 0; rw [hrw.1 hsx, List.length_cons]; omega)]
          rfl
end PRX
end
section
section PRY
/-! partner -/
theorem i_vc_partner {k : Nat} {u : SX} {v : SY} (I : i_Rel k u v) (hk : k + 4 ≤ 2048) (v1 : Int32) : wpX_partner (fun r => wpY_partner (fun r' v' => r' = r ∧ i_Rel (k + 4) u v') v v1) u v1 := by
  obtain ⟨f_draftCount, f_stackCount, f_termCount, f_root, f_sentCount, f_walkedFrom, a_draftKind, a_draftFrom, a_draftTo, a_draftNumber, a_draftFirst, a_draftSecond, a_draftParent, a_stack, a_kind, a_from, a_to, a_number, a_first, a_second, a_place, a_picked, a_lastGot, a_oldest, a_waiting, a_slotLabel, a_slotValue⟩ := u
  obtain ⟨z_made, z_depth, z_size, z_rows, z_at, z_sendings, y_sorts, y_froms, y_tos, y_labels, y_firsts, y_seconds, y_around, y_stack, y_senders, y_receivers, y_told, y_values, y_isSent, y_isReceived, y_last, y_met⟩ := v
  have I0 := I
  obtain ⟨d, m, e, st, g, gx, gp, R, a, w, pl, pk, la, G, xD, xP, xR, yD, yP, yR, es⟩ := I
  have G0 := G
  obtain ⟨o1, o2, o3, o4, o5, o6⟩ := G
  have hAok := o4.2.2.2.2.2.1
  have hl6 := ro_585 hAok o5 o4.2.2.2.2.2.2.2 o6
  have h20 := o2.2.1
  rcases pr_role v1 with h | ⟨r, hr, e1⟩
  · unfold wpX_partner wpY_partner
    exact xs_noRole h (br_t rfl (ys_noRole h (br_f (by decide) ⟨rfl, I0⟩)))
  · subst e1
    obtain ⟨hpl, hpi, -⟩ := xR.2.1 r hr
    obtain ⟨ht0, hpth⟩ := o4.2.2.2.2.2.2.1 r hr
    have hpk2 : ∀ c, pk r = some c → c < 2 := fun c ec => by rw [ec] at hpth; exact pr_pth_pk hpth
    rcases ro_split r R with hnone | ⟨A, x, C, eR, hA, hu⟩
    · rw [ro_fil0 hnone] at hpth
      obtain ⟨epk, hsk⟩ := hpth
      have hl := ro_565 hr hAok o5 o4.2.2.2.2.2.2.2 o6 hnone
      by_cases hx : ∃ j, pg_c g r (pr_it (pg_w g) j a)
      · obtain ⟨j, hm⟩ := pg_meet o2 o4.1 o4.2.1 r hx
        have htl := pg_itlt o2 o4.1 j
        refine xs_partner o2 xP hr hpl ht0 (pr_sk_tr hsk hm.2.2.2.2) hm.1 hpi hpk2 ?_
        unfold wpY_partner
        refine ys_isRole hr (br_t rfl (ys_nextM o2 o3 yP hr o4 hl yR.1 yR.2.1 yR.2.2.1 hnone hm ?_ ?_ ?_))
        · intro k2 fr M
          have ho : pg_o g (pk r) r (pr_it (pg_w g) j a) = pr_les r := by
            unfold pg_o
            rw [if_pos fr, if_neg (by omega), if_pos epk]
          rw [ho]
          exact br_f (by decide) (br_f (by decide) (br_t rfl (ys_lesser hr ⟨rfl, rl_met I0 M⟩)))
        · intro k2 fr M
          have ho : pg_o g (pk r) r (pr_it (pg_w g) j a) = pg_f g (pr_it (pg_w g) j a) := by
            unfold pg_o
            rw [if_neg fr]
          rw [ho]
          exact br_f (by decide) (br_t rfl (ys_picker o2 o3 yP o4.1 yR.2.1 (fun i hi => (hm.2.1 i hi).1) k2 ⟨rfl, rl_met I0 M⟩))
        · intro k1 E v d1 d2 d3 d5 d6 M eE hE hrun hY
          have cf := pg_cf o2 htl hm.1
          have hft : pg_f g (pr_it (pg_w g) j a) = r ∨ pg_t g (pr_it (pg_w g) j a) = r := by
            rcases hm.1 with z | ⟨-, z⟩
            · omega
            · exact z
          obtain ⟨G1, hwe, hun, huy⟩ := rl_ext G0 hr hnone hm.2.2.1 eE hE ⟨rfl, rfl⟩ (by show (pg_f g (pr_it (pg_w g) j a) == r || pg_t g (pr_it (pg_w g) j a) == r) = true; simpa using hft) hrun
          have hlen : (R ++ E ++ [((pg_f g (pr_it (pg_w g) j a), pg_t g (pr_it (pg_w g) j a), pg_l g (pr_it (pg_w g) j a), v, false, false) : ro_T)]).length = R.length + j + 1 := by
            rw [List.length_append, List.length_append, eE]; rfl
          have I1 : i_Rel (k + 4) (f_draftCount, f_stackCount, f_termCount, f_root, f_sentCount, f_walkedFrom, a_draftKind, a_draftFrom, a_draftTo, a_draftNumber, a_draftFirst, a_draftSecond, a_draftParent, a_stack, a_kind, a_from, a_to, a_number, a_first, a_second, a_place, a_picked, a_lastGot, a_oldest, a_waiting, a_slotLabel, a_slotValue) (z_made, z_depth, z_size, nI (R.length + j + 1), nI (pg_w g (pr_it (pg_w g) j a)), z_sendings, y_sorts, y_froms, y_tos, y_labels, y_firsts, y_seconds, y_around, y_stack, d1, d2, d3, y_values, d5, d6, y_last, M) :=
            ⟨d, m, e, st, g, gx, gp, _, _, w, pl, pk, la, G1, xD, xP, ⟨xR.1, xR.2.1, pr_ring_eq xR.2.2 hwe⟩, yD, yP, ⟨by rw [hlen], rfl, hY, yR.2.2.2⟩, es⟩
          obtain ⟨q1, q2, q3, q4, q5, q6⟩ := hY (R.length + j) (pg_f g (pr_it (pg_w g) j a), pg_t g (pr_it (pg_w g) j a), pg_l g (pr_it (pg_w g) j a), v, false, false) (by
            have := yr_here (A := R ++ E) (C := []) (x := (pg_f g (pr_it (pg_w g) j a), pg_t g (pr_it (pg_w g) j a), pg_l g (pr_it (pg_w g) j a), v, false, false))
            rw [List.length_append, eE] at this
            exact this)
          have i6 : vp_in (nI (R.length + j)) 600 := vp_in_nI (by omega) (by decide)
          refine br_f (pr_nneg (by omega) (by decide)) (br_f (pr_nneg (by omega) (by decide)) (br_f (pr_nneg (by omega) (by decide)) ⟨i6, ?_⟩))
          dsimp only
          rw [nI_clamp (n := R.length + j) (by omega), q1, q2]
          have c1 := cf.1
          have c2 := cf.2 k1
          refine pk_eq (pg_f g (pr_it (pg_w g) j a)) r (fun c => ⟨i6, ?_, I1⟩) (fun c => ⟨i6, ?_, I1⟩) rfl rfl
          · unfold pg_o
            rw [if_pos c, if_pos k1]
            rfl
          · unfold pg_o
            rw [if_neg c]
            rfl
      · have hn : ∀ j, ¬ pg_c g r (pr_it (pg_w g) j a) := fun j z => hx ⟨j, z⟩
        refine xs_partnerO o2 xP hr hpl ht0 (pr_nv_sk hsk (pg_never o2 o4.1 o4.2.1 r hn)) ?_
        unfold wpY_partner
        exact ys_isRole hr (br_t rfl (ys_nextO o2 o3 yP hr o4 hl yR.1 yR.2.1 yR.2.2.1 hnone hn (fun M => br_t rfl ⟨rfl, rl_met I0 M⟩)))
    · subst eR
      rw [ro_own hA hu, List.map_cons] at hpth
      have kx := hAok x (by simp)
      obtain ⟨t, y, ht, hy, hs, hc, -, -, hcase⟩ := pr_head o2 kx ht0 hpth
      refine xs_partner o2 xP hr hpl ht0 hs hc hpi hpk2 ?_
      unfold wpY_partner
      have hlA : A.length < 600 := by
        have := hl6
        rw [List.length_append, List.length_cons] at this
        omega
      refine ys_isRole hr (br_t rfl (ys_nextA hr hAok (by omega) yR.1 yR.2.2.1 hA hu ?_))
      obtain ⟨q1, q2, q3, q4, q5, q6⟩ := yR.2.2.1 A.length x yr_here
      have i6 : vp_in (nI A.length) 600 := vp_in_nI hlA (by decide)
      have kx1 := kx.1
      have kx2 := kx.2.1
      refine br_f (pr_nneg (by omega) (by decide)) (br_f (pr_nneg (by omega) (by decide)) (br_f (pr_nneg (by omega) (by decide)) ⟨i6, ?_⟩))
      dsimp only
      rw [nI_clamp (n := A.length) (by omega), q1, q2]
      rcases hcase with ⟨p1, p2, p3, -⟩ | ⟨p1, p2, p3, p4⟩
      · rw [p3]
        exact br_t (by rw [p1]) ⟨i6, rfl, I0⟩
      · rw [p4]
        exact br_f (fun z => p2 ((nI_eq (by omega) (by omega)).mp z)) ⟨i6, rfl, I0⟩
end PRY
end
section
section PRZ
/-! receive -/
theorem ro_fk0 (R : List ro_T) : (R.filter ro_k).countP ro_f = 0 := by
  rw [List.countP_eq_zero]
  intro x hx
  have := (List.mem_filter.mp hx).2
  unfold ro_k at this
  intro z
  unfold ro_f at z
  rw [z] at this
  exact absurd this (by decide)
theorem pg_si4 {g : pg_T} {pk0 : Option Nat} {W : Nat → Nat → Nat} {r t : Nat} : pg_si g pk0 W r t ≤ 4 := by
  unfold pg_si
  split <;> split <;> omega
section
variable {f_draftCount f_stackCount f_termCount f_root f_sentCount f_walkedFrom : Int32} {a_draftKind a_draftFrom a_draftTo a_draftNumber a_draftFirst a_draftSecond a_draftParent a_stack a_kind a_from a_to a_number a_first a_second a_place a_picked a_lastGot a_oldest a_waiting a_slotLabel a_slotValue : Nat → Int32} {g : pg_T}
theorem xs_recvN {post : Int32 → SX → Prop} {r t0 t : Nat} {pk0 : Option Nat} {W : Nat → Nat → Nat} (ok : pg_ok g) (P : xr_P g f_termCount f_root a_kind a_from a_to a_number a_first a_second) (hr : r < 3) (hpl : a_place r = nI t0) (ht0 : t0 < pg_n g) (hs : pr_sk (pg_c g r) (pg_1 g) t0 t) (hc : pg_c g r t) (hp : a_picked r = pr_oI pk0) (hpk : ∀ c, pk0 = some c → c < 2)
    (hw : ∀ p q, p < 3 → q < 3 → a_waiting (p * 3 + q) = nI (W p q) ∧ W p q ≤ 4) (hne : pg_si g pk0 W r t ≠ 3) (h : post (-4) (f_draftCount, f_stackCount, f_termCount, f_root, f_sentCount, f_walkedFrom, a_draftKind, a_draftFrom, a_draftTo, a_draftNumber, a_draftFirst, a_draftSecond, a_draftParent, a_stack, a_kind, a_from, a_to, a_number, a_first, a_second, a_place, a_picked, a_lastGot, a_oldest, a_waiting, a_slotLabel, a_slotValue)) : wpX_receive post (f_draftCount, f_stackCount, f_termCount, f_root, f_sentCount, f_walkedFrom, a_draftKind, a_draftFrom, a_draftTo, a_draftNumber, a_draftFirst, a_draftSecond, a_draftParent, a_stack, a_kind, a_from, a_to, a_number, a_first, a_second, a_place, a_picked, a_lastGot, a_oldest, a_waiting, a_slotLabel, a_slotValue) (nI r) := by
  have ht := pr_sk_lt ok ht0 hs
  have h20 := ok.2.1
  have h4 := pg_si4 (g := g) (pk0 := pk0) (W := W) (r := r) (t := t)
  unfold wpX_receive
  refine xs_isRole hr (br_f (by decide) (xs_nextTerm ok P hr hpl ht0 hs hc (br_f (pr_nm1 (by omega)) (xs_situation ok P ht hr hc hp hpk hw (br_f ?_ h)))))
  intro z
  exact hne ((nI_eq (b := 3) (by omega) (by decide)).mp z)
theorem xs_recvO {post : Int32 → SX → Prop} {r t0 : Nat} (ok : pg_ok g) (P : xr_P g f_termCount f_root a_kind a_from a_to a_number a_first a_second) (hr : r < 3) (hpl : a_place r = nI t0) (ht0 : t0 < pg_n g) (hn : ∀ j, ¬ pg_c g r (pr_it (pg_1 g) j t0)) (h : post (-4) (f_draftCount, f_stackCount, f_termCount, f_root, f_sentCount, f_walkedFrom, a_draftKind, a_draftFrom, a_draftTo, a_draftNumber, a_draftFirst, a_draftSecond, a_draftParent, a_stack, a_kind, a_from, a_to, a_number, a_first, a_second, a_place, a_picked, a_lastGot, a_oldest, a_waiting, a_slotLabel, a_slotValue)) : wpX_receive post (f_draftCount, f_stackCount, f_termCount, f_root, f_sentCount, f_walkedFrom, a_draftKind, a_draftFrom, a_draftTo, a_draftNumber, a_draftFirst, a_draftSecond, a_draftParent, a_stack, a_kind, a_from, a_to, a_number, a_first, a_second, a_place, a_picked, a_lastGot, a_oldest, a_waiting, a_slotLabel, a_slotValue) (nI r) := by
  unfold wpX_receive
  exact xs_isRole hr (br_f (by decide) (xs_nowhere ok P hr hpl ht0 hn (br_t rfl h)))
theorem xs_recvY {post : Int32 → SX → Prop} {r t0 t p o n y : Nat} {pk0 : Option Nat} {W : Nat → Nat → Nat} (ok : pg_ok g) (P : xr_P g f_termCount f_root a_kind a_from a_to a_number a_first a_second) (hr : r < 3) (hpl : a_place r = nI t0) (ht0 : t0 < pg_n g) (hs : pr_sk (pg_c g r) (pg_1 g) t0 t) (hc : pg_c g r t) (hp : a_picked r = pr_oI pk0) (hpk : ∀ c, pk0 = some c → c < 2)
    (hw : ∀ p q, p < 3 → q < 3 → a_waiting (p * 3 + q) = nI (W p q) ∧ W p q ≤ 4) (he : pg_si g pk0 W r t = 3) (hf : pg_f g t = p) (hp3 : p < 3) (ho : a_oldest (p * 3 + r) = nI o) (ho4 : o < 4) (hn : a_waiting (p * 3 + r) = nI (n + 1)) (hn4 : n < 4)
    (hy : pg_k g t = 1 ∧ y = pg_1 g t ∨ pg_k g t = 2 ∧ ∃ c, c < 2 ∧ a_slotLabel ((p * 3 + r) * 4 + o) = nI c ∧ y = pg_b g t c)
    (h : post (a_slotLabel ((p * 3 + r) * 4 + o)) (f_draftCount, f_stackCount, f_termCount, f_root, f_sentCount, f_walkedFrom, a_draftKind, a_draftFrom, a_draftTo, a_draftNumber, a_draftFirst, a_draftSecond, a_draftParent, a_stack, a_kind, a_from, a_to, a_number, a_first, a_second, upd a_place r (nI y), upd a_picked r (-1), upd a_lastGot r (a_slotValue ((p * 3 + r) * 4 + o)), upd a_oldest (p * 3 + r) (nI ((o + 1) % 4)), upd a_waiting (p * 3 + r) (nI n), a_slotLabel, a_slotValue)) : wpX_receive post (f_draftCount, f_stackCount, f_termCount, f_root, f_sentCount, f_walkedFrom, a_draftKind, a_draftFrom, a_draftTo, a_draftNumber, a_draftFirst, a_draftSecond, a_draftParent, a_stack, a_kind, a_from, a_to, a_number, a_first, a_second, a_place, a_picked, a_lastGot, a_oldest, a_waiting, a_slotLabel, a_slotValue) (nI r) := by
  have ht := pr_sk_lt ok ht0 hs
  have h20 := ok.2.1
  obtain ⟨i20, ek, ef, et, el, e1, e2⟩ := xr_at ok P ht
  unfold wpX_receive
  refine xs_isRole hr (br_f (by decide) (xs_nextTerm ok P hr hpl ht0 hs hc (br_f (pr_nm1 (by omega)) (xs_situation ok P ht hr hc hp hpk hw (br_t ?_ ⟨i20, ?_⟩)))))
  · rw [he]; rfl
  · rw [ef, hf]
    refine xs_takeOffWay hp3 hr ho ho4 hn hn4 (xs_goOn hr ?_ h)
    intro Q hQ
    rcases hy with ⟨k1, ey⟩ | ⟨k2, c, hc2, el2, ey⟩
    · rw [ey] at hQ
      exact xs_followm ok P ht k1 hQ
    · rw [ey] at hQ
      rw [el2]
      exact xs_following ok P ht k2 hc2 hQ
end
theorem i_vc_receive {k : Nat} {u : SX} {v : SY} (I : i_Rel k u v) (hk : k + 4 ≤ 2048) (v1 : Int32) : wpX_receive (fun r u' => wpY_receive (fun r' v' => r' = r ∧ i_Rel (k + 4) u' v') v v1) u v1 := by
  obtain ⟨f_draftCount, f_stackCount, f_termCount, f_root, f_sentCount, f_walkedFrom, a_draftKind, a_draftFrom, a_draftTo, a_draftNumber, a_draftFirst, a_draftSecond, a_draftParent, a_stack, a_kind, a_from, a_to, a_number, a_first, a_second, a_place, a_picked, a_lastGot, a_oldest, a_waiting, a_slotLabel, a_slotValue⟩ := u
  obtain ⟨z_made, z_depth, z_size, z_rows, z_at, z_sendings, y_sorts, y_froms, y_tos, y_labels, y_firsts, y_seconds, y_around, y_stack, y_senders, y_receivers, y_told, y_values, y_isSent, y_isReceived, y_last, y_met⟩ := v
  have I0 := I
  obtain ⟨d, m, e, st, g, gx, gp, R0, a, w, pl, pk, la, ⟨o1, o2, o3, p4, p5, p6⟩, xD, xP, xR0, yD, yP, yR0, es⟩ := I
  have h20 := o2.2.1
  have hl0 := ro_585 p4.2.2.2.2.2.1 p5 p4.2.2.2.2.2.2.2 p6
  rcases pr_role v1 with h | ⟨r, hr, e1⟩
  · unfold wpX_receive wpY_receive
    exact xs_noRole h (br_t rfl (ys_noRole h (br_f (by decide) ⟨rfl, I0⟩)))
  · subst e1
    -- what is done is forgotten
    have o4 := pr_run_fg p4
    have o5 := ro_fB p4.2.2.2.2.1 p4.2.2.2.2.2.1 p5
    have f0 := ro_fk0 R0
    have xR : xr_R (R0.filter ro_k) w pl pk la f_walkedFrom a_place a_picked a_lastGot a_oldest a_waiting a_slotLabel a_slotValue := ⟨xR0.1, xR0.2.1, pr_ring_eq xR0.2.2 (fun p q => ro_fw p q R0)⟩
    have fg : ∀ (post : SY → Prop), (∀ c1 c2 c3 c4 c5 c6 : Nat → Int32, yr_ok (R0.filter ro_k) c1 c2 c3 c4 c5 c6 → post (z_made, z_depth, z_size, nI (R0.filter ro_k).length, z_at, z_sendings, y_sorts, y_froms, y_tos, y_labels, y_firsts, y_seconds, y_around, y_stack, c1, c2, c3, c4, c5, c6, y_last, y_met)) → wpY_forget post (z_made, z_depth, z_size, z_rows, z_at, z_sendings, y_sorts, y_froms, y_tos, y_labels, y_firsts, y_seconds, y_around, y_stack, y_senders, y_receivers, y_told, y_values, y_isSent, y_isReceived, y_last, y_met) := fun post h => ys_forget (by omega) yR0.1 yR0.2.2.1 h
    have ea := yR0.2.1
    have hla := yR0.2.2.2
    generalize R0.filter ro_k = R at o4 o5 f0 xR fg
    have o6 : R.countP ro_f ≤ 1 := by omega
    have G0 : rl_G d m e st g gx gp R a w pl pk := ⟨o1, o2, o3, o4, o5, o6⟩
    have hAok := o4.2.2.2.2.2.1
    have hl6 := ro_585 hAok o5 o4.2.2.2.2.2.2.2 o6
    have hW : ∀ p q, p < 3 → q < 3 → a_waiting (p * 3 + q) = nI ((fun p q => (R.filter (ro_w p q)).length) p q) ∧ (fun p q => (R.filter (ro_w p q)).length) p q ≤ 4 := by
      intro p q hp hq
      obtain ⟨o, -, -, hw, -⟩ := xR.2.2 p q hp hq
      exact ⟨hw, o4.2.2.2.2.2.2.2 p q⟩
    obtain ⟨hpl, hpi, -⟩ := xR.2.1 r hr
    obtain ⟨ht0, hpth⟩ := o4.2.2.2.2.2.2.1 r hr
    have hpk2 : ∀ c, pk r = some c → c < 2 := fun c ec => by rw [ec] at hpth; exact pr_pth_pk hpth
    have Ir : ∀ (c1 c2 c3 c4 c5 c6 M : Nat → Int32), yr_ok R c1 c2 c3 c4 c5 c6 → i_Rel (k + 4) (f_draftCount, f_stackCount, f_termCount, f_root, f_sentCount, f_walkedFrom, a_draftKind, a_draftFrom, a_draftTo, a_draftNumber, a_draftFirst, a_draftSecond, a_draftParent, a_stack, a_kind, a_from, a_to, a_number, a_first, a_second, a_place, a_picked, a_lastGot, a_oldest, a_waiting, a_slotLabel, a_slotValue) (z_made, z_depth, z_size, nI R.length, z_at, z_sendings, y_sorts, y_froms, y_tos, y_labels, y_firsts, y_seconds, y_around, y_stack, c1, c2, c3, c4, c5, c6, y_last, M) := fun c1 c2 c3 c4 c5 c6 M hY =>
      ⟨d, m, e, st, g, gx, gp, R, a, w, pl, pk, la, G0, xD, xP, xR, yD, yP, ⟨rfl, ea, hY, hla⟩, es⟩
    rcases ro_split r R with hnone | ⟨A, x, C, eR, hA, hu⟩
    · rw [ro_fil0 hnone] at hpth
      obtain ⟨epk, hsk⟩ := hpth
      have hl := ro_565 hr hAok o5 o4.2.2.2.2.2.2.2 o6 hnone
      by_cases hx : ∃ j, pg_c g r (pr_it (pg_w g) j a)
      · obtain ⟨j, hm⟩ := pg_meet o2 o4.1 o4.2.1 r hx
        have htl := pg_itlt o2 o4.1 j
        have hne : pg_si g (pk r) (fun p q => (R.filter (ro_w p q)).length) r (pr_it (pg_w g) j a) ≠ 3 := by
          by_cases fr : pg_f g (pr_it (pg_w g) j a) = r
          · rw [pg_si_s fr rfl]
            split <;> decide
          · rw [pg_si_r fr rfl, if_pos (by show (R.filter (ro_w _ r)).length = 0; rw [ro_none_w hnone]; rfl)]
            decide
        refine xs_recvN o2 xP hr hpl ht0 (pr_sk_tr hsk hm.2.2.2.2) hm.1 hpi hpk2 hW hne ?_
        unfold wpY_receive
        refine ys_isRole hr (br_t rfl (fg _ ?_))
        intro c1 c2 c3 c4 c5 c6 hY
        refine ys_nextM o2 o3 yP hr o4 hl rfl ea hY hnone hm ?_ ?_ ?_
        · intro k2 fr M
          exact br_t (by decide) ⟨rfl, Ir _ _ _ _ _ _ M hY⟩
        · intro k2 fr M
          exact br_t (by decide) ⟨rfl, Ir _ _ _ _ _ _ M hY⟩
        · intro k1 E v d1 d2 d3 d5 d6 M eE hE hrun hY1
          have cf := pg_cf o2 htl hm.1
          have hft : pg_f g (pr_it (pg_w g) j a) = r ∨ pg_t g (pr_it (pg_w g) j a) = r := by
            rcases hm.1 with z | ⟨-, z⟩
            · omega
            · exact z
          obtain ⟨G1, hwe, hun, huy⟩ := rl_ext G0 hr hnone hm.2.2.1 eE hE ⟨rfl, rfl⟩ (by show (pg_f g (pr_it (pg_w g) j a) == r || pg_t g (pr_it (pg_w g) j a) == r) = true; simpa using hft) hrun
          have hlen : (R ++ E ++ [((pg_f g (pr_it (pg_w g) j a), pg_t g (pr_it (pg_w g) j a), pg_l g (pr_it (pg_w g) j a), v, false, false) : ro_T)]).length = R.length + j + 1 := by
            rw [List.length_append, List.length_append, eE]; rfl
          have I1 : i_Rel (k + 4) (f_draftCount, f_stackCount, f_termCount, f_root, f_sentCount, f_walkedFrom, a_draftKind, a_draftFrom, a_draftTo, a_draftNumber, a_draftFirst, a_draftSecond, a_draftParent, a_stack, a_kind, a_from, a_to, a_number, a_first, a_second, a_place, a_picked, a_lastGot, a_oldest, a_waiting, a_slotLabel, a_slotValue) (z_made, z_depth, z_size, nI (R.length + j + 1), nI (pg_w g (pr_it (pg_w g) j a)), z_sendings, y_sorts, y_froms, y_tos, y_labels, y_firsts, y_seconds, y_around, y_stack, d1, d2, d3, c4, d5, d6, y_last, M) :=
            ⟨d, m, e, st, g, gx, gp, _, _, w, pl, pk, la, G1, xD, xP, ⟨xR.1, xR.2.1, pr_ring_eq xR.2.2 hwe⟩, yD, yP, ⟨by rw [hlen], rfl, hY1, hla⟩, es⟩
          obtain ⟨q1, q2, q3, q4, q5, q6⟩ := hY1 (R.length + j) (pg_f g (pr_it (pg_w g) j a), pg_t g (pr_it (pg_w g) j a), pg_l g (pr_it (pg_w g) j a), v, false, false) (by
            have := yr_here (A := R ++ E) (C := []) (x := (pg_f g (pr_it (pg_w g) j a), pg_t g (pr_it (pg_w g) j a), pg_l g (pr_it (pg_w g) j a), v, false, false))
            rw [List.length_append, eE] at this
            exact this)
          have i6 : vp_in (nI (R.length + j)) 600 := vp_in_nI (by omega) (by decide)
          refine br_f (nI_pos (by omega)) ⟨i6, ?_⟩
          dsimp only
          rw [nI_clamp (n := R.length + j) (by omega), q2, q5]
          have c2' := cf.2 k1
          exact pk_eq (pg_t g (pr_it (pg_w g) j a)) r (fun c => ⟨i6, br_t rfl ⟨rfl, I1⟩⟩) (fun c => ⟨rfl, I1⟩) rfl rfl
      · have hn : ∀ j, ¬ pg_c g r (pr_it (pg_w g) j a) := fun j z => hx ⟨j, z⟩
        refine xs_recvO o2 xP hr hpl ht0 (pr_nv_sk hsk (pg_never o2 o4.1 o4.2.1 r hn)) ?_
        unfold wpY_receive
        refine ys_isRole hr (br_t rfl (fg _ ?_))
        intro c1 c2 c3 c4 c5 c6 hY
        exact ys_nextO o2 o3 yP hr o4 hl rfl ea hY hnone hn (fun M => br_t (by decide) ⟨rfl, Ir _ _ _ _ _ _ M hY⟩)
    · subst eR
      rw [ro_own hA hu, List.map_cons] at hpth
      have kx := hAok x (by simp)
      have kx1 := kx.1
      have kx2 := kx.2.1
      obtain ⟨t, y, ht, hy, hs, hc, hrest, hyk, hcase⟩ := pr_head o2 kx ht0 hpth
      have hlA : A.length < 600 := by
        have := hl6
        rw [List.length_append, List.length_cons] at this
        omega
      have i6 : vp_in (nI A.length) 600 := vp_in_nI hlA (by decide)
      rcases hcase with ⟨p1, p2, p3, -⟩ | ⟨p1, p2, p3, p4'⟩
      · have hne : pg_si g (pk r) (fun p q => ((A ++ x :: C).filter (ro_w p q)).length) r t ≠ 3 := by
          rw [pg_si_s p2 rfl]
          split <;> decide
        refine xs_recvN o2 xP hr hpl ht0 hs hc hpi hpk2 hW hne ?_
        unfold wpY_receive
        refine ys_isRole hr (br_t rfl (fg _ ?_))
        intro c1 c2 c3 c4 c5 c6 hY
        obtain ⟨q1, q2, q3, q4, q5, q6⟩ := hY A.length x yr_here
        have nq : ro_q x ≠ r := fun z => kx.2.2.1 (by omega)
        refine ys_nextA hr hAok (by omega) rfl hY hA hu (br_f (nI_pos (by omega)) ⟨i6, br_f ?_ ⟨rfl, Ir _ _ _ _ _ _ _ hY⟩⟩)
        rw [nI_clamp (n := A.length) (by omega), q2]
        exact fun z => nq ((nI_eq (by omega) (by omega)).mp z)
      · have nf : pg_f g t ≠ r := by omega
        have hrw := ro_rcv_w o4.2.2.2.2.1 hAok hA p1 hu
        cases hsx : ro_s x
        · have hne : pg_si g (pk r) (fun p q => ((A ++ x :: C).filter (ro_w p q)).length) r t ≠ 3 := by
            rw [pg_si_r nf p4', if_pos (by show ((A ++ x :: C).filter (ro_w (ro_p x) r)).length = 0; rw [hrw.2 hsx]; rfl)]
            decide
          refine xs_recvN o2 xP hr hpl ht0 hs hc hpi hpk2 hW hne ?_
          unfold wpY_receive
          refine ys_isRole hr (br_t rfl (fg _ ?_))
          intro c1 c2 c3 c4 c5 c6 hY
          obtain ⟨q1, q2, q3, q4, q5, q6⟩ := hY A.length x yr_here
          refine ys_nextA hr hAok (by omega) rfl hY hA hu (br_f (nI_pos (by omega)) ⟨i6, br_t ?_ ⟨i6, br_t ?_ ⟨rfl, Ir _ _ _ _ _ _ _ hY⟩⟩⟩)
          · rw [nI_clamp (n := A.length) (by omega), q2, p1]
          · rw [nI_clamp (n := A.length) (by omega), q5, hsx]; rfl
        · have ewx := hrw.1 hsx
          have he3 : pg_si g (pk r) (fun p q => ((A ++ x :: C).filter (ro_w p q)).length) r t = 3 := by
            rw [pg_si_r nf p4', if_neg (by show ¬ ((A ++ x :: C).filter (ro_w (ro_p x) r)).length = 0; rw [ewx, List.length_cons]; omega)]
          obtain ⟨o, ho4, ho, hwo, -⟩ := xR.2.2 (ro_p x) r kx1 hr
          have hcap := o4.2.2.2.2.2.2.2 (ro_p x) r
          rw [ewx, List.length_cons] at hcap hwo
          have hro : ∀ p' q', ¬ (p' = ro_p x ∧ q' = r) → (A ++ ro_rcv x :: C).filter (ro_w p' q') = (A ++ x :: C).filter (ro_w p' q') := fun p' q' hne => ro_rcv_wo p1 hne
          obtain ⟨ring, esl, esv⟩ := pr_ring_pop xR.2.2 kx1 hr ho ho4 ewx hro
          refine xs_recvY o2 xP hr hpl ht0 hs hc hpi hpk2 hW he3 p3 kx1 ho ho4 hwo (by omega) (by rw [esl]; exact hyk) ?_
          unfold wpY_receive
          refine ys_isRole hr (br_t rfl (fg _ ?_))
          intro c1 c2 c3 c4 c5 c6 hY
          obtain ⟨q1, q2, q3, q4, q5, q6⟩ := hY A.length x yr_here
          refine ys_nextA hr hAok (by omega) rfl hY hA hu (br_f (nI_pos (by omega)) ⟨i6, ?_⟩)
          dsimp only
          rw [nI_clamp (n := A.length) (by omega), nI_clamp (n := r) (by omega), q2, q3, q4, q5, p1, hsx, show vp_nar .boolean 1 = 1 from pr_bIn true]
          refine br_t rfl ⟨i6, br_f (by decide) ⟨i6, nm_e ⟨i6, vp_in_nI hr (by decide), nm_e ⟨i6, esl.symm, ?_⟩⟩⟩⟩
          have run2 := pr_run_rcv o4 hr hA hu p1 hsx hy hrest
          have fA : A.countP ro_f = 0 ∧ C.countP ro_f = 0 := by
            rw [List.countP_append, List.countP_cons] at f0
            omega
          refine ⟨d, m, e, st, g, gx, gp, A ++ ro_rcv x :: C, a, w, pr_fu pl r y, pr_fu pk r none, pr_fu la r (ro_v x), ⟨o1, o2, o3, run2, ro_rcv_B o5 run2.2.2.2.2.1 run2.2.2.2.2.2.1 hsx, ?_⟩, xD, xP, ⟨xR.1, ?_, ring⟩, yD, yP, ⟨?_, ea, yr_rcv hY, ?_⟩, es⟩
          · rw [List.countP_append, List.countP_cons, fA.1, fA.2]
            split <;> omega
          · intro z hz
            by_cases c : z = r
            · subst c
              rw [pk_us, pk_us, pk_us, pr_fus, pr_fus, pr_fus]
              exact ⟨rfl, rfl, esv⟩
            · rw [pk_un c, pk_un c, pk_un c, pr_fun _ _ c, pr_fun _ _ c, pr_fun _ _ c]
              exact xR.2.1 z hz
          · rw [List.length_append, List.length_append, List.length_cons, List.length_cons]
          · intro z hz
            by_cases c : z = r
            · subst c
              rw [pk_us, pr_fus]
            · rw [pk_un c, pr_fun _ _ c]
              exact hla z hz
end PRZ
end
section
section PSA
/-! the component's send -/
section
variable {f_draftCount f_stackCount f_termCount f_root f_sentCount f_walkedFrom : Int32} {a_draftKind a_draftFrom a_draftTo a_draftNumber a_draftFirst a_draftSecond a_draftParent a_stack a_kind a_from a_to a_number a_first a_second a_place a_picked a_lastGot a_oldest a_waiting a_slotLabel a_slotValue : Nat → Int32} {g : pg_T}
theorem xs_label {post : Int32 → Prop} {r t : Nat} {pk0 : Option Nat} {l : Int32} (ok : pg_ok g) (P : xr_P g f_termCount f_root a_kind a_from a_to a_number a_first a_second) (ht : t < pg_n g) (hr : r < 3) (hp : a_picked r = pr_oI pk0) (hl : (pg_k g t = 1 → l = pg_l g t) ∧ (pg_k g t ≠ 1 → pr_oI pk0 = l ∧ pk0 ≠ none)) (h : post l) : wpX_labelToSend post (f_draftCount, f_stackCount, f_termCount, f_root, f_sentCount, f_walkedFrom, a_draftKind, a_draftFrom, a_draftTo, a_draftNumber, a_draftFirst, a_draftSecond, a_draftParent, a_stack, a_kind, a_from, a_to, a_number, a_first, a_second, a_place, a_picked, a_lastGot, a_oldest, a_waiting, a_slotLabel, a_slotValue) (nI t) (nI r) := by
  obtain ⟨i20, ek, ef, et, el, e1, e2⟩ := xr_at ok P ht
  have b := (ok.2.2.1 t ht).1
  refine ⟨i20, pk_eq (pg_k g t) 1 (fun c => ⟨i20, ?_⟩) (fun c => ⟨vp_in_nI hr (by decide), ?_⟩) ek⟩
  · rw [el, ← hl.1 c]; exact h
  · rw [nI_clamp (n := r) (by omega), hp, (hl.2 c).1]; exact h
theorem xs_sendO {post : Int32 → SX → Prop} {r t0 : Nat} {p1 v : Int32} (ok : pg_ok g) (P : xr_P g f_termCount f_root a_kind a_from a_to a_number a_first a_second) (hr : r < 3) (hpl : a_place r = nI t0) (ht0 : t0 < pg_n g) (hn : ∀ j, ¬ pg_c g r (pr_it (pg_1 g) j t0)) (h : post (-4) (f_draftCount, f_stackCount, f_termCount, f_root, f_sentCount, f_walkedFrom, a_draftKind, a_draftFrom, a_draftTo, a_draftNumber, a_draftFirst, a_draftSecond, a_draftParent, a_stack, a_kind, a_from, a_to, a_number, a_first, a_second, a_place, a_picked, a_lastGot, a_oldest, a_waiting, a_slotLabel, a_slotValue)) : wpX_send post (f_draftCount, f_stackCount, f_termCount, f_root, f_sentCount, f_walkedFrom, a_draftKind, a_draftFrom, a_draftTo, a_draftNumber, a_draftFirst, a_draftSecond, a_draftParent, a_stack, a_kind, a_from, a_to, a_number, a_first, a_second, a_place, a_picked, a_lastGot, a_oldest, a_waiting, a_slotLabel, a_slotValue) (nI r) p1 v := by
  unfold wpX_send
  exact xs_isRole hr (br_f (by decide) (xs_nowhere ok P hr hpl ht0 hn (br_t rfl h)))
theorem xs_sendN {post : Int32 → SX → Prop} {r t0 t : Nat} {p1 v : Int32} {pk0 : Option Nat} {W : Nat → Nat → Nat} (ok : pg_ok g) (P : xr_P g f_termCount f_root a_kind a_from a_to a_number a_first a_second) (hr : r < 3) (hpl : a_place r = nI t0) (ht0 : t0 < pg_n g) (hs : pr_sk (pg_c g r) (pg_1 g) t0 t) (hc : pg_c g r t) (hp : a_picked r = pr_oI pk0) (hpk : ∀ c, pk0 = some c → c < 2)
    (hw : ∀ p q, p < 3 → q < 3 → a_waiting (p * 3 + q) = nI (W p q) ∧ W p q ≤ 4) (hne : pg_si g pk0 W r t ≠ 1) (h : post (-4) (f_draftCount, f_stackCount, f_termCount, f_root, f_sentCount, f_walkedFrom, a_draftKind, a_draftFrom, a_draftTo, a_draftNumber, a_draftFirst, a_draftSecond, a_draftParent, a_stack, a_kind, a_from, a_to, a_number, a_first, a_second, a_place, a_picked, a_lastGot, a_oldest, a_waiting, a_slotLabel, a_slotValue)) : wpX_send post (f_draftCount, f_stackCount, f_termCount, f_root, f_sentCount, f_walkedFrom, a_draftKind, a_draftFrom, a_draftTo, a_draftNumber, a_draftFirst, a_draftSecond, a_draftParent, a_stack, a_kind, a_from, a_to, a_number, a_first, a_second, a_place, a_picked, a_lastGot, a_oldest, a_waiting, a_slotLabel, a_slotValue) (nI r) p1 v := by
  have ht := pr_sk_lt ok ht0 hs
  have h20 := ok.2.1
  have h4 := pg_si4 (g := g) (pk0 := pk0) (W := W) (r := r) (t := t)
  unfold wpX_send
  refine xs_isRole hr (br_f (by decide) (xs_nextTerm ok P hr hpl ht0 hs hc (br_f (pr_nm1 (by omega)) (xs_situation ok P ht hr hc hp hpk hw (br_f ?_ h)))))
  intro z
  exact hne ((nI_eq (b := 1) (by omega) (by decide)).mp z)
theorem xs_sendM {post : Int32 → SX → Prop} {r t0 t q y o : Nat} {p1 v l : Int32} {pk0 : Option Nat} {W : Nat → Nat → Nat} (ok : pg_ok g) (P : xr_P g f_termCount f_root a_kind a_from a_to a_number a_first a_second) (hr : r < 3) (hpl : a_place r = nI t0) (ht0 : t0 < pg_n g) (hs : pr_sk (pg_c g r) (pg_1 g) t0 t) (hc : pg_c g r t) (hp : a_picked r = pr_oI pk0) (hpk : ∀ c, pk0 = some c → c < 2)
    (hw : ∀ p q, p < 3 → q < 3 → a_waiting (p * 3 + q) = nI (W p q) ∧ W p q ≤ 4) (hf : pg_f g t = r) (ho : pg_o g pk0 r t = q) (hq : q < 3) (hcap : W r q < 4) (hoo : a_oldest (r * 3 + q) = nI o) (ho4 : o < 4)
    (hl : (pg_k g t = 1 → l = pg_l g t) ∧ (pg_k g t ≠ 1 → pr_oI pk0 = l ∧ pk0 ≠ none)) (hy : pg_k g t = 1 ∧ y = pg_1 g t ∨ pg_k g t = 2 ∧ ∃ c, c < 2 ∧ l = nI c ∧ y = pg_b g t c)
    (h : post l (f_draftCount, f_stackCount, f_termCount, f_root, f_sentCount + 1, f_walkedFrom, a_draftKind, a_draftFrom, a_draftTo, a_draftNumber, a_draftFirst, a_draftSecond, a_draftParent, a_stack, a_kind, a_from, a_to, a_number, a_first, a_second, upd a_place r (nI y), upd a_picked r (-1), a_lastGot, a_oldest, upd a_waiting (r * 3 + q) (nI (W r q + 1)), upd a_slotLabel ((r * 3 + q) * 4 + (o + W r q) % 4) l, upd a_slotValue ((r * 3 + q) * 4 + (o + W r q) % 4) v)) : wpX_send post (f_draftCount, f_stackCount, f_termCount, f_root, f_sentCount, f_walkedFrom, a_draftKind, a_draftFrom, a_draftTo, a_draftNumber, a_draftFirst, a_draftSecond, a_draftParent, a_stack, a_kind, a_from, a_to, a_number, a_first, a_second, a_place, a_picked, a_lastGot, a_oldest, a_waiting, a_slotLabel, a_slotValue) (nI r) p1 v := by
  have ht := pr_sk_lt ok ht0 hs
  have h20 := ok.2.1
  have b := (ok.2.2.1 t ht).1
  obtain ⟨i20, ek, ef, et, el, e1, e2⟩ := xr_at ok P ht
  have hsi : pg_si g pk0 W r t = 1 := by rw [pg_si_s hf ho, if_neg (by omega)]
  have key : wX_send_61 post (nI r) p1 v (nI t) f_draftCount f_stackCount f_termCount f_root f_sentCount f_walkedFrom a_draftKind a_draftFrom a_draftTo a_draftNumber a_draftFirst a_draftSecond a_draftParent a_stack a_kind a_from a_to a_number a_first a_second a_place a_picked a_lastGot a_oldest a_waiting a_slotLabel a_slotValue := by
    unfold wX_send_61 wX_send_62 wX_send_78
    refine br_t rfl (br_t rfl (xs_label ok P ht hr hp hl ?_))
    refine xs_send94 (q := q) (y := y) hr hq (fun Q hQ => xs_otherSide ok P ht hr hc hp hpk (by rw [ho]; exact hQ)) ?_ hoo ho4 (hw r q hr hq).1 hcap h
    intro Q f1 w1 w2 w3 hQ
    rcases hy with ⟨k1, ey⟩ | ⟨k2, c, hc2, el2, ey⟩
    · rw [ey] at hQ
      exact xs_followm ok P ht k1 hQ
    · rw [ey] at hQ
      rw [el2]
      exact xs_following ok P ht k2 hc2 hQ
  unfold wpX_send
  refine xs_isRole hr (br_f (by decide) (xs_nextTerm ok P hr hpl ht0 hs hc (br_f (pr_nm1 (by omega)) (xs_situation ok P ht hr hc hp hpk hw (br_t ?_ ⟨i20, ?_⟩)))))
  · rw [hsi]; rfl
  · refine pk_eq (pg_k g t) 2 (fun c => ⟨vp_in_nI hr (by decide), br_f ?_ key⟩) (fun c => key) ek
    rw [nI_clamp (n := r) (by omega), hp]
    have hn := (hl.2 (by omega)).2
    cases pk0 with
    | none => exact absurd rfl hn
    | some c => exact pr_nm1 (by have := hpk c rfl; omega)
theorem xs_sendB {post : Int32 → SX → Prop} {r t0 t : Nat} {p1 v : Int32} {pk0 : Option Nat} {W : Nat → Nat → Nat} (ok : pg_ok g) (P : xr_P g f_termCount f_root a_kind a_from a_to a_number a_first a_second) (hr : r < 3) (hpl : a_place r = nI t0) (ht0 : t0 < pg_n g) (hs : pr_sk (pg_c g r) (pg_1 g) t0 t) (hc : pg_c g r t) (hp : a_picked r = pr_oI pk0) (hpk : ∀ c, pk0 = some c → c < 2)
    (hw : ∀ p q, p < 3 → q < 3 → a_waiting (p * 3 + q) = nI (W p q) ∧ W p q ≤ 4) (hsi : pg_si g pk0 W r t = 1) (k2 : pg_k g t = 2) (hn : pk0 = none) (h0 : ¬ p1 = 0) (h1 : ¬ p1 = 1) (h : post (-1) (f_draftCount, f_stackCount, f_termCount, f_root, f_sentCount, f_walkedFrom, a_draftKind, a_draftFrom, a_draftTo, a_draftNumber, a_draftFirst, a_draftSecond, a_draftParent, a_stack, a_kind, a_from, a_to, a_number, a_first, a_second, a_place, a_picked, a_lastGot, a_oldest, a_waiting, a_slotLabel, a_slotValue)) : wpX_send post (f_draftCount, f_stackCount, f_termCount, f_root, f_sentCount, f_walkedFrom, a_draftKind, a_draftFrom, a_draftTo, a_draftNumber, a_draftFirst, a_draftSecond, a_draftParent, a_stack, a_kind, a_from, a_to, a_number, a_first, a_second, a_place, a_picked, a_lastGot, a_oldest, a_waiting, a_slotLabel, a_slotValue) (nI r) p1 v := by
  have ht := pr_sk_lt ok ht0 hs
  have h20 := ok.2.1
  obtain ⟨i20, ek, ef, et, el, e1, e2⟩ := xr_at ok P ht
  unfold wpX_send
  refine xs_isRole hr (br_f (by decide) (xs_nextTerm ok P hr hpl ht0 hs hc (br_f (pr_nm1 (by omega)) (xs_situation ok P ht hr hc hp hpk hw (br_t ?_ ⟨i20, br_t ?_ ⟨vp_in_nI hr (by decide), br_t ?_ (br_f (by decide) (br_f h0 (br_f h1 (br_t rfl h))))⟩⟩)))))
  · rw [hsi]; rfl
  · rw [ek, k2]; rfl
  · rw [nI_clamp (n := r) (by omega), hp, hn]; rfl
theorem xs_sendPk {post : Int32 → SX → Prop} {r t0 t c o : Nat} {v : Int32} {pk0 : Option Nat} {W : Nat → Nat → Nat} (ok : pg_ok g) (P : xr_P g f_termCount f_root a_kind a_from a_to a_number a_first a_second) (hr : r < 3) (hpl : a_place r = nI t0) (ht0 : t0 < pg_n g) (hs : pr_sk (pg_c g r) (pg_1 g) t0 t) (hc : pg_c g r t) (hp : a_picked r = pr_oI pk0) (hpk : ∀ c, pk0 = some c → c < 2)
    (hw : ∀ p q, p < 3 → q < 3 → a_waiting (p * 3 + q) = nI (W p q) ∧ W p q ≤ 4) (k2 : pg_k g t = 2) (hf : pg_f g t = r) (hn : pk0 = none) (hcap : W r (pr_les r) < 4) (hoo : a_oldest (r * 3 + pr_les r) = nI o) (ho4 : o < 4) (hc2 : c < 2)
    (h : post (nI c) (f_draftCount, f_stackCount, f_termCount, f_root, f_sentCount + 1, nI (pg_b g t c), a_draftKind, a_draftFrom, a_draftTo, a_draftNumber, a_draftFirst, a_draftSecond, a_draftParent, a_stack, a_kind, a_from, a_to, a_number, a_first, a_second, a_place, upd a_picked r (nI c), a_lastGot, a_oldest, upd a_waiting (r * 3 + pr_les r) (nI (W r (pr_les r) + 1)), upd a_slotLabel ((r * 3 + pr_les r) * 4 + (o + W r (pr_les r)) % 4) (nI c), upd a_slotValue ((r * 3 + pr_les r) * 4 + (o + W r (pr_les r)) % 4) v)) : wpX_send post (f_draftCount, f_stackCount, f_termCount, f_root, f_sentCount, f_walkedFrom, a_draftKind, a_draftFrom, a_draftTo, a_draftNumber, a_draftFirst, a_draftSecond, a_draftParent, a_stack, a_kind, a_from, a_to, a_number, a_first, a_second, a_place, a_picked, a_lastGot, a_oldest, a_waiting, a_slotLabel, a_slotValue) (nI r) (nI c) v := by
  have ht := pr_sk_lt ok ht0 hs
  have h20 := ok.2.1
  obtain ⟨i20, ek, ef, et, el, e1, e2⟩ := xr_at ok P ht
  have ho : pg_o g pk0 r t = pr_les r := by
    unfold pg_o
    rw [if_pos hf, if_neg (by omega), if_pos hn]
  have hsi : pg_si g pk0 W r t = 1 := by rw [pg_si_s hf ho, if_neg (by omega)]
  have key : wX_send_78 post (nI r) (nI c) v (nI t) 1 f_draftCount f_stackCount f_termCount f_root f_sentCount f_walkedFrom a_draftKind a_draftFrom a_draftTo a_draftNumber a_draftFirst a_draftSecond a_draftParent a_stack a_kind a_from a_to a_number a_first a_second a_place a_picked a_lastGot a_oldest a_waiting a_slotLabel a_slotValue := by
    unfold wX_send_78
    refine br_f (by decide) ?_
    refine xs_sendPick (q := pr_les r) (y := pg_b g t c) hr (pr_les_ok hr).1 (fun Q hQ => xs_otherSide ok P ht hr hc hp hpk (by rw [ho]; exact hQ)) ?_ hoo ho4 (hw r (pr_les r) hr (pr_les_ok hr).1).1 hcap h
    intro Q f1 w1 w2 w3 w4 hQ
    exact xs_following ok P ht k2 hc2 hQ
  unfold wpX_send
  refine xs_isRole hr (br_f (by decide) (xs_nextTerm ok P hr hpl ht0 hs hc (br_f (pr_nm1 (by omega)) (xs_situation ok P ht hr hc hp hpk hw (br_t ?_ ⟨i20, br_t ?_ ⟨vp_in_nI hr (by decide), br_t ?_ (br_f (by decide) ?_)⟩⟩)))))
  · rw [hsi]; rfl
  · rw [ek, k2]; rfl
  · rw [nI_clamp (n := r) (by omega), hp, hn]; rfl
  · have : c = 0 ∨ c = 1 := by omega
    rcases this with z | z
    · subst z
      exact br_t rfl (br_f (by decide) key)
    · subst z
      exact br_f (by decide) (br_t rfl (br_f (by decide) key))
end
/-- the component's state after a sending -/
theorem xr_snd {R R' : List ro_T} {w w' r q o y : Nat} {pl : Nat → Nat} {pk : Nat → Option Nat} {la : Nat → Int32} {x : ro_T} {f_walkedFrom : Int32} {a_place a_picked a_lastGot a_oldest a_waiting a_slotLabel a_slotValue : Nat → Int32} (xR : xr_R R w pl pk la f_walkedFrom a_place a_picked a_lastGot a_oldest a_waiting a_slotLabel a_slotValue) (hr : r < 3) (hq : q < 3) (hoo : a_oldest (r * 3 + q) = nI o) (ho4 : o < 4) (hcap : (R.filter (ro_w r q)).length < 4)
    (e : R'.filter (ro_w r q) = R.filter (ro_w r q) ++ [x]) (eo : ∀ p' q', ¬ (p' = r ∧ q' = q) → R'.filter (ro_w p' q') = R.filter (ro_w p' q')) :
    xr_R R' w (pr_fu pl r y) (pr_fu pk r none) la f_walkedFrom (upd a_place r (nI y)) (upd a_picked r (-1)) a_lastGot a_oldest (upd a_waiting (r * 3 + q) (nI ((R.filter (ro_w r q)).length + 1))) (upd a_slotLabel ((r * 3 + q) * 4 + (o + (R.filter (ro_w r q)).length) % 4) (ro_l x)) (upd a_slotValue ((r * 3 + q) * 4 + (o + (R.filter (ro_w r q)).length) % 4) (ro_v x)) := by
  refine ⟨xR.1, ?_, pr_ring_push xR.2.2 hr hq hoo ho4 rfl hcap e eo⟩
  intro z hz
  by_cases c : z = r
  · subst c
    rw [pk_us, pk_us, pr_fus, pr_fus]
    exact ⟨rfl, rfl, (xR.2.1 z hz).2.2⟩
  · rw [pk_un c, pk_un c, pr_fun _ _ c, pr_fun _ _ c]
    exact xR.2.1 z hz
theorem xr_pck {R R' : List ro_T} {w w' r q o c : Nat} {pl : Nat → Nat} {pk : Nat → Option Nat} {la : Nat → Int32} {x : ro_T} {f_walkedFrom : Int32} {a_place a_picked a_lastGot a_oldest a_waiting a_slotLabel a_slotValue : Nat → Int32} (xR : xr_R R w pl pk la f_walkedFrom a_place a_picked a_lastGot a_oldest a_waiting a_slotLabel a_slotValue) (hr : r < 3) (hq : q < 3) (hoo : a_oldest (r * 3 + q) = nI o) (ho4 : o < 4) (hcap : (R.filter (ro_w r q)).length < 4)
    (e : R'.filter (ro_w r q) = R.filter (ro_w r q) ++ [x]) (eo : ∀ p' q', ¬ (p' = r ∧ q' = q) → R'.filter (ro_w p' q') = R.filter (ro_w p' q')) :
    xr_R R' w' pl (pr_fu pk r (some c)) la (nI w') a_place (upd a_picked r (nI c)) a_lastGot a_oldest (upd a_waiting (r * 3 + q) (nI ((R.filter (ro_w r q)).length + 1))) (upd a_slotLabel ((r * 3 + q) * 4 + (o + (R.filter (ro_w r q)).length) % 4) (ro_l x)) (upd a_slotValue ((r * 3 + q) * 4 + (o + (R.filter (ro_w r q)).length) % 4) (ro_v x)) := by
  refine ⟨rfl, ?_, pr_ring_push xR.2.2 hr hq hoo ho4 rfl hcap e eo⟩
  intro z hz
  by_cases cz : z = r
  · subst cz
    rw [pk_us, pr_fus]
    exact ⟨(xR.2.1 z hz).1, rfl, (xR.2.1 z hz).2.2⟩
  · rw [pk_un cz, pr_fun _ _ cz]
    exact xR.2.1 z hz
section
variable {z_made z_depth z_size z_rows z_at z_sendings : Int32} {y_sorts y_froms y_tos y_labels y_firsts y_seconds y_around y_stack y_senders y_receivers y_told y_values y_isSent y_isReceived y_last y_met : Nat → Int32}
theorem ys_128 {post : Int32 → SY → Prop} {i : Nat} {l v : Int32} (hi : i < 600) (ht : y_told i = l) (h : post l (z_made, z_depth, z_size, z_rows, z_at, z_sendings + 1, y_sorts, y_froms, y_tos, y_labels, y_firsts, y_seconds, y_around, y_stack, y_senders, y_receivers, y_told, upd y_values i v, upd y_isSent i 1, y_isReceived, y_last, y_met)) : wY_send_128 post v (nI i) z_made z_depth z_size z_rows z_at z_sendings y_sorts y_froms y_tos y_labels y_firsts y_seconds y_around y_stack y_senders y_receivers y_told y_values y_isSent y_isReceived y_last y_met := by
  have i6 : vp_in (nI i) 600 := vp_in_nI hi (by decide)
  unfold wY_send_128
  rw [nI_clamp (n := i) (by omega), ht, show vp_nar .boolean 1 = 1 from pr_bIn true]
  exact ⟨i6, nm_e ⟨i6, nm_e (nm_e ⟨i6, h⟩)⟩⟩
/-- the reference's send of a row that stands -/
theorem ys_57 {post : Int32 → SY → Prop} {r : Nat} {p1 v : Int32} {A C : List ro_T} {x : ro_T} (hr : r < 3) (hA : ro_A (A ++ x :: C)) (hl : (A ++ x :: C).length ≤ 600) (er : z_rows = nI (A ++ x :: C).length) (Y : yr_ok (A ++ x :: C) y_senders y_receivers y_told y_values y_isSent y_isReceived) (hw4 : ((A ++ x :: C).filter (ro_w r (ro_q x))).length ≤ 4)
    (h4 : ((A ++ x :: C).filter (ro_w r (ro_q x))).length = 4 → post (-4) (z_made, z_depth, z_size, z_rows, z_at, z_sendings, y_sorts, y_froms, y_tos, y_labels, y_firsts, y_seconds, y_around, y_stack, y_senders, y_receivers, y_told, y_values, y_isSent, y_isReceived, y_last, y_met)) (h : ((A ++ x :: C).filter (ro_w r (ro_q x))).length < 4 → post (ro_l x) (z_made, z_depth, z_size, z_rows, z_at, z_sendings + 1, y_sorts, y_froms, y_tos, y_labels, y_firsts, y_seconds, y_around, y_stack, y_senders, y_receivers, y_told, upd y_values A.length v, upd y_isSent A.length 1, y_isReceived, y_last, y_met)) : wY_send_57 post (nI r) p1 v (nI A.length) z_made z_depth z_size z_rows z_at z_sendings y_sorts y_froms y_tos y_labels y_firsts y_seconds y_around y_stack y_senders y_receivers y_told y_values y_isSent y_isReceived y_last y_met := by
  have hlA : A.length < 600 := by
    have := hl
    rw [List.length_append, List.length_cons] at this
    omega
  have i6 : vp_in (nI A.length) 600 := vp_in_nI hlA (by decide)
  obtain ⟨q1, q2, q3, q4, q5, q6⟩ := Y A.length x yr_here
  have kx := hA x (by simp)
  have nm := pr_nm1 (a := A.length) (by omega)
  refine br_f nm ⟨i6, ?_⟩
  rw [nI_clamp (n := A.length) (by omega), q2]
  unfold wY_send_78
  refine ys_counted hr kx.2.1 hA hl er Y ?_
  refine pk_lt _ 4 (fun c => br_f nm (br_f nm (ys_128 hlA q3 (h c)))) (fun c => h4 (by omega)) rfl rfl
end
end PSA
end
section
section PSB
/-! send -/
theorem i_vc_send {k : Nat} {u : SX} {v : SY} (I : i_Rel k u v) (hk : k + 4 ≤ 2048) (v1 : Int32) (v2 : Int32) (v3 : Int32) : wpX_send (fun r u' => wpY_send (fun r' v' => r' = r ∧ i_Rel (k + 4) u' v') v v1 v2 v3) u v1 v2 v3 := by
  obtain ⟨f_draftCount, f_stackCount, f_termCount, f_root, f_sentCount, f_walkedFrom, a_draftKind, a_draftFrom, a_draftTo, a_draftNumber, a_draftFirst, a_draftSecond, a_draftParent, a_stack, a_kind, a_from, a_to, a_number, a_first, a_second, a_place, a_picked, a_lastGot, a_oldest, a_waiting, a_slotLabel, a_slotValue⟩ := u
  obtain ⟨z_made, z_depth, z_size, z_rows, z_at, z_sendings, y_sorts, y_froms, y_tos, y_labels, y_firsts, y_seconds, y_around, y_stack, y_senders, y_receivers, y_told, y_values, y_isSent, y_isReceived, y_last, y_met⟩ := v
  have I0 := I
  obtain ⟨d, m, e, st, g, gx, gp, R0, a, w, pl, pk, la, ⟨o1, o2, o3, p4, p5, p6⟩, xD, xP, xR0, yD, yP, yR0, es⟩ := I
  have h20 := o2.2.1
  have hl0 := ro_585 p4.2.2.2.2.2.1 p5 p4.2.2.2.2.2.2.2 p6
  rcases pr_role v1 with h | ⟨r, hr, e1⟩
  · unfold wpX_send wpY_send
    exact xs_noRole h (br_t rfl (ys_noRole h (br_f (by decide) ⟨rfl, I0⟩)))
  · subst e1
    have o4 := pr_run_fg p4
    have o5 := ro_fB p4.2.2.2.2.1 p4.2.2.2.2.2.1 p5
    have f0 := ro_fk0 R0
    have xR : xr_R (R0.filter ro_k) w pl pk la f_walkedFrom a_place a_picked a_lastGot a_oldest a_waiting a_slotLabel a_slotValue := ⟨xR0.1, xR0.2.1, pr_ring_eq xR0.2.2 (fun p q => ro_fw p q R0)⟩
    have fg : ∀ (post : SY → Prop), (∀ c1 c2 c3 c4 c5 c6 : Nat → Int32, yr_ok (R0.filter ro_k) c1 c2 c3 c4 c5 c6 → post (z_made, z_depth, z_size, nI (R0.filter ro_k).length, z_at, z_sendings, y_sorts, y_froms, y_tos, y_labels, y_firsts, y_seconds, y_around, y_stack, c1, c2, c3, c4, c5, c6, y_last, y_met)) → wpY_forget post (z_made, z_depth, z_size, z_rows, z_at, z_sendings, y_sorts, y_froms, y_tos, y_labels, y_firsts, y_seconds, y_around, y_stack, y_senders, y_receivers, y_told, y_values, y_isSent, y_isReceived, y_last, y_met) := fun post h => ys_forget (by omega) yR0.1 yR0.2.2.1 h
    have ea := yR0.2.1
    have hla := yR0.2.2.2
    generalize R0.filter ro_k = R at o4 o5 f0 xR fg
    have o6 : R.countP ro_f ≤ 1 := by omega
    have G0 : rl_G d m e st g gx gp R a w pl pk := ⟨o1, o2, o3, o4, o5, o6⟩
    have hAok := o4.2.2.2.2.2.1
    have hl6 := ro_585 hAok o5 o4.2.2.2.2.2.2.2 o6
    have hW : ∀ p q, p < 3 → q < 3 → a_waiting (p * 3 + q) = nI ((fun p q => (R.filter (ro_w p q)).length) p q) ∧ (fun p q => (R.filter (ro_w p q)).length) p q ≤ 4 := by
      intro p q hp hq
      obtain ⟨o, -, -, hw, -⟩ := xR.2.2 p q hp hq
      exact ⟨hw, o4.2.2.2.2.2.2.2 p q⟩
    obtain ⟨hpl, hpi, -⟩ := xR.2.1 r hr
    obtain ⟨ht0, hpth⟩ := o4.2.2.2.2.2.2.1 r hr
    have hpk2 : ∀ c, pk r = some c → c < 2 := fun c ec => by rw [ec] at hpth; exact pr_pth_pk hpth
    have Ir : ∀ (c1 c2 c3 c4 c5 c6 M : Nat → Int32), yr_ok R c1 c2 c3 c4 c5 c6 → i_Rel (k + 4) (f_draftCount, f_stackCount, f_termCount, f_root, f_sentCount, f_walkedFrom, a_draftKind, a_draftFrom, a_draftTo, a_draftNumber, a_draftFirst, a_draftSecond, a_draftParent, a_stack, a_kind, a_from, a_to, a_number, a_first, a_second, a_place, a_picked, a_lastGot, a_oldest, a_waiting, a_slotLabel, a_slotValue) (z_made, z_depth, z_size, nI R.length, z_at, z_sendings, y_sorts, y_froms, y_tos, y_labels, y_firsts, y_seconds, y_around, y_stack, c1, c2, c3, c4, c5, c6, y_last, M) := fun c1 c2 c3 c4 c5 c6 M hY =>
      ⟨d, m, e, st, g, gx, gp, R, a, w, pl, pk, la, G0, xD, xP, xR, yD, yP, ⟨rfl, ea, hY, hla⟩, es⟩
    rcases ro_split r R with hnone | ⟨A, x, C, eR, hA, hu⟩
    · rw [ro_fil0 hnone] at hpth
      obtain ⟨epk, hsk⟩ := hpth
      have hl := ro_565 hr hAok o5 o4.2.2.2.2.2.2.2 o6 hnone
      by_cases hx : ∃ j, pg_c g r (pr_it (pg_w g) j a)
      · obtain ⟨j, hm⟩ := pg_meet o2 o4.1 o4.2.1 r hx
        have htl := pg_itlt o2 o4.1 j
        have hj := hm.2.2.1
        have cf := pg_cf o2 htl hm.1
        have hsk2 := pr_sk_tr hsk hm.2.2.2.2
        -- the reference's walk, with what is met
        have nxt : ∀ (post : Int32 → SY → Prop) (c1 c2 c3 c4 c5 c6 : Nat → Int32), yr_ok R c1 c2 c3 c4 c5 c6 →
            (pg_k g (pr_it (pg_w g) j a) = 2 → pg_f g (pr_it (pg_w g) j a) = r → ∀ M : Nat → Int32, post (-1) (z_made, z_depth, z_size, nI R.length, z_at, z_sendings, y_sorts, y_froms, y_tos, y_labels, y_firsts, y_seconds, y_around, y_stack, c1, c2, c3, c4, c5, c6, y_last, M)) →
            (pg_k g (pr_it (pg_w g) j a) = 2 → pg_f g (pr_it (pg_w g) j a) ≠ r → ∀ M : Nat → Int32, post (-2) (z_made, z_depth, z_size, nI R.length, z_at, z_sendings, y_sorts, y_froms, y_tos, y_labels, y_firsts, y_seconds, y_around, y_stack, c1, c2, c3, c4, c5, c6, y_last, M)) →
            (pg_k g (pr_it (pg_w g) j a) = 1 → ∀ (E : List ro_T) (v : Int32) (d1 d2 d3 d5 d6 M : Nat → Int32), E.length = j → (∀ e, e ∈ E → ro_new e ∧ ro_c r e = false) →
              pr_run g (R ++ E ++ [(pg_f g (pr_it (pg_w g) j a), pg_t g (pr_it (pg_w g) j a), pg_l g (pr_it (pg_w g) j a), v, false, false)]) (pg_w g (pr_it (pg_w g) j a)) w pl pk →
              yr_ok (R ++ E ++ [(pg_f g (pr_it (pg_w g) j a), pg_t g (pr_it (pg_w g) j a), pg_l g (pr_it (pg_w g) j a), v, false, false)]) d1 d2 d3 c4 d5 d6 →
              post (nI (R.length + j)) (z_made, z_depth, z_size, nI (R.length + j + 1), nI (pg_w g (pr_it (pg_w g) j a)), z_sendings, y_sorts, y_froms, y_tos, y_labels, y_firsts, y_seconds, y_around, y_stack, d1, d2, d3, c4, d5, d6, y_last, M)) →
            wpY_next post (z_made, z_depth, z_size, nI R.length, z_at, z_sendings, y_sorts, y_froms, y_tos, y_labels, y_firsts, y_seconds, y_around, y_stack, c1, c2, c3, c4, c5, c6, y_last, y_met) (nI r) :=
          fun post c1 c2 c3 c4 c5 c6 hY h1 h2 h3 => ys_nextM o2 o3 yP hr o4 hl rfl ea hY hnone hm h1 h2 h3
        by_cases k1 : pg_k g (pr_it (pg_w g) j a) = 1
        · have hft : pg_f g (pr_it (pg_w g) j a) = r ∨ pg_t g (pr_it (pg_w g) j a) = r := by
            rcases hm.1 with z | ⟨-, z⟩
            · omega
            · exact z
          have cf2 := cf.2 k1
          have hcy : ∀ v : Int32, ro_c r (pg_f g (pr_it (pg_w g) j a), pg_t g (pr_it (pg_w g) j a), pg_l g (pr_it (pg_w g) j a), v, false, false) = true := by
            intro v
            show (pg_f g (pr_it (pg_w g) j a) == r || pg_t g (pr_it (pg_w g) j a) == r) = true
            simpa using hft
          have hlen : ∀ (E : List ro_T) (v : Int32), E.length = j → (R ++ E ++ [((pg_f g (pr_it (pg_w g) j a), pg_t g (pr_it (pg_w g) j a), pg_l g (pr_it (pg_w g) j a), v, false, false) : ro_T)]).length = R.length + j + 1 := by
            intro E v eE
            rw [List.length_append, List.length_append, eE]; rfl
          have i6 : vp_in (nI (R.length + j)) 600 := vp_in_nI (by omega) (by decide)
          have hrow : ∀ (E : List ro_T) (v : Int32) (d1 d2 d3 d4 d5 d6 : Nat → Int32), E.length = j → yr_ok (R ++ E ++ [(pg_f g (pr_it (pg_w g) j a), pg_t g (pr_it (pg_w g) j a), pg_l g (pr_it (pg_w g) j a), v, false, false)]) d1 d2 d3 d4 d5 d6 → d1 (R.length + j) = nI (pg_f g (pr_it (pg_w g) j a)) := by
            intro E v d1 d2 d3 d4 d5 d6 eE hY1
            have := yr_here (A := R ++ E) (C := []) (x := (pg_f g (pr_it (pg_w g) j a), pg_t g (pr_it (pg_w g) j a), pg_l g (pr_it (pg_w g) j a), v, false, false))
            rw [List.length_append, eE] at this
            exact (hY1 _ _ this).1
          have I1 : ∀ (E : List ro_T) (v : Int32) (d1 d2 d3 d4 d5 d6 M : Nat → Int32), E.length = j → rl_G d m e st g gx gp (R ++ E ++ [(pg_f g (pr_it (pg_w g) j a), pg_t g (pr_it (pg_w g) j a), pg_l g (pr_it (pg_w g) j a), v, false, false)]) (pg_w g (pr_it (pg_w g) j a)) w pl pk → (∀ p q, (R ++ E ++ [((pg_f g (pr_it (pg_w g) j a), pg_t g (pr_it (pg_w g) j a), pg_l g (pr_it (pg_w g) j a), v, false, false) : ro_T)]).filter (ro_w p q) = R.filter (ro_w p q)) → yr_ok (R ++ E ++ [(pg_f g (pr_it (pg_w g) j a), pg_t g (pr_it (pg_w g) j a), pg_l g (pr_it (pg_w g) j a), v, false, false)]) d1 d2 d3 d4 d5 d6 →
              i_Rel (k + 4) (f_draftCount, f_stackCount, f_termCount, f_root, f_sentCount, f_walkedFrom, a_draftKind, a_draftFrom, a_draftTo, a_draftNumber, a_draftFirst, a_draftSecond, a_draftParent, a_stack, a_kind, a_from, a_to, a_number, a_first, a_second, a_place, a_picked, a_lastGot, a_oldest, a_waiting, a_slotLabel, a_slotValue) (z_made, z_depth, z_size, nI (R.length + j + 1), nI (pg_w g (pr_it (pg_w g) j a)), z_sendings, y_sorts, y_froms, y_tos, y_labels, y_firsts, y_seconds, y_around, y_stack, d1, d2, d3, d4, d5, d6, y_last, M) := fun E v d1 d2 d3 d4 d5 d6 M eE G1 hwe hY1 =>
            ⟨d, m, e, st, g, gx, gp, _, _, w, pl, pk, la, G1, xD, xP, ⟨xR.1, xR.2.1, pr_ring_eq xR.2.2 hwe⟩, yD, yP, ⟨by rw [hlen E v eE], rfl, hY1, hla⟩, es⟩
          by_cases fr : pg_f g (pr_it (pg_w g) j a) = r
          · have ho : pg_o g (pk r) r (pr_it (pg_w g) j a) = pg_t g (pr_it (pg_w g) j a) := by
              unfold pg_o
              rw [if_pos fr, if_pos k1]
            have w4 := o4.2.2.2.2.2.2.2 r (pg_t g (pr_it (pg_w g) j a))
            by_cases full : 4 ≤ (R.filter (ro_w r (pg_t g (pr_it (pg_w g) j a)))).length
            · refine xs_sendN o2 xP hr hpl ht0 hsk2 hm.1 hpi hpk2 hW ?_ ?_
              · rw [pg_si_s fr ho, if_pos full]; decide
              · unfold wpY_send
                refine ys_isRole hr (br_t rfl (fg _ ?_))
                intro c1 c2 c3 c4 c5 c6 hY
                refine nxt _ c1 c2 c3 c4 c5 c6 hY (fun z => by omega) (fun z => by omega) ?_
                intro _ E v d1 d2 d3 d5 d6 M eE hE hrun hY1
                obtain ⟨G1, hwe, hun, huy⟩ := rl_ext G0 hr hnone hj eE hE ⟨rfl, rfl⟩ (hcy v) hrun
                refine br_f (pr_nneg (by omega) (by decide)) (br_f (pr_nneg (by omega) (by decide)) (br_f (nI_pos (by omega)) ⟨i6, br_t ?_ ?_⟩))
                · rw [nI_clamp (n := R.length + j) (by omega), hrow E v _ _ _ _ _ _ eE hY1, fr]
                · have idx : R.length + j = (R ++ E).length := by rw [List.length_append, eE]
                  rw [idx]
                  refine ys_57 (C := []) hr G1.2.2.2.1.2.2.2.2.2.1 (by rw [show (R ++ E ++ [((pg_f g (pr_it (pg_w g) j a), pg_t g (pr_it (pg_w g) j a), pg_l g (pr_it (pg_w g) j a), v, false, false) : ro_T)]).length = _ from hlen E v eE]; omega) (by rw [← idx]; exact congrArg nI (hlen E v eE).symm) hY1 (by rw [hwe]; exact w4) (fun _ => ⟨rfl, ?_⟩) (fun z => ?_)
                  · rw [← idx]
                    exact I1 E v d1 d2 d3 c4 d5 d6 M eE G1 hwe hY1
                  · rw [hwe] at z
                    have z' : (R.filter (ro_w r (pg_t g (pr_it (pg_w g) j a)))).length < 4 := z
                    omega
            · obtain ⟨o, ho4, hoo, -, -⟩ := xR.2.2 r (pg_t g (pr_it (pg_w g) j a)) hr cf2.1
              refine xs_sendM (l := pg_l g (pr_it (pg_w g) j a)) (y := pg_1 g (pr_it (pg_w g) j a)) o2 xP hr hpl ht0 hsk2 hm.1 hpi hpk2 hW fr ho cf2.1 (by show (R.filter (ro_w r (pg_t g (pr_it (pg_w g) j a)))).length < 4; omega) hoo ho4 ⟨fun _ => rfl, fun z => absurd k1 z⟩ (Or.inl ⟨k1, rfl⟩) ?_
              unfold wpY_send
              refine ys_isRole hr (br_t rfl (fg _ ?_))
              intro c1 c2 c3 c4 c5 c6 hY
              refine nxt _ c1 c2 c3 c4 c5 c6 hY (fun z => by omega) (fun z => by omega) ?_
              intro _ E v d1 d2 d3 d5 d6 M eE hE hrun hY1
              obtain ⟨G1, hwe, hun, huy⟩ := rl_ext G0 hr hnone hj eE hE ⟨rfl, rfl⟩ (hcy v) hrun
              refine br_f (pr_nneg (by omega) (by decide)) (br_f (pr_nneg (by omega) (by decide)) (br_f (nI_pos (by omega)) ⟨i6, br_t ?_ ?_⟩))
              · rw [nI_clamp (n := R.length + j) (by omega), hrow E v _ _ _ _ _ _ eE hY1, fr]
              · have idx : R.length + j = (R ++ E).length := by rw [List.length_append, eE]
                rw [idx]
                refine ys_57 (C := []) hr G1.2.2.2.1.2.2.2.2.2.1 (by rw [show (R ++ E ++ [((pg_f g (pr_it (pg_w g) j a), pg_t g (pr_it (pg_w g) j a), pg_l g (pr_it (pg_w g) j a), v, false, false) : ro_T)]).length = _ from hlen E v eE]; omega) (by rw [← idx]; exact congrArg nI (hlen E v eE).symm) hY1 (by rw [hwe]; exact w4) (fun z => ?_) (fun z => ⟨rfl, ?_⟩)
                · rw [hwe] at z
                  have z' : (R.filter (ro_w r (pg_t g (pr_it (pg_w g) j a)))).length = 4 := z
                  omega
                · have kx := G1.2.2.2.1.2.2.2.2.2.1 (pg_f g (pr_it (pg_w g) j a), pg_t g (pr_it (pg_w g) j a), pg_l g (pr_it (pg_w g) j a), v, false, false) (by simp)
                  have hpt : pr_pth g r (pg_w g (pr_it (pg_w g) j a)) ((([] : List ro_T).filter (ro_u r)).map ro_t) (pg_1 g (pr_it (pg_w g) j a)) none := ⟨rfl, pg_ssk r _⟩
                  have run2 := pr_run_snd (C := []) G1.2.2.2.1 hr hun huy fr z (pg_1lt o2 htl) hpt v3
                  have ew := ro_snd_w (C := []) (v := v3) G1.2.2.2.1.2.2.2.2.1 G1.2.2.2.1.2.2.2.2.2.1 hr fr huy
                  have ewo : ∀ p' q', ¬ (p' = r ∧ q' = pg_t g (pr_it (pg_w g) j a)) → (R ++ E ++ [ro_snd (pg_f g (pr_it (pg_w g) j a), pg_t g (pr_it (pg_w g) j a), pg_l g (pr_it (pg_w g) j a), v, false, false) v3]).filter (ro_w p' q') = R.filter (ro_w p' q') := fun p' q' hne => by
                    rw [← hwe p' q']
                    exact ro_snd_wo (C := []) kx fr huy hne
                  have ew' : (R ++ E ++ [ro_snd (pg_f g (pr_it (pg_w g) j a), pg_t g (pr_it (pg_w g) j a), pg_l g (pr_it (pg_w g) j a), v, false, false) v3]).filter (ro_w r (pg_t g (pr_it (pg_w g) j a))) = R.filter (ro_w r (pg_t g (pr_it (pg_w g) j a))) ++ [ro_snd (pg_f g (pr_it (pg_w g) j a), pg_t g (pr_it (pg_w g) j a), pg_l g (pr_it (pg_w g) j a), v, false, false) v3] := by
                    rw [← hwe r (pg_t g (pr_it (pg_w g) j a))]
                    exact ew
                  have xR2 := xr_snd (y := pg_1 g (pr_it (pg_w g) j a)) (w' := w) xR hr cf2.1 hoo ho4 (by omega) ew' ewo
                  refine ⟨d, m, e, st, g, gx, gp, R ++ E ++ [ro_snd (pg_f g (pr_it (pg_w g) j a), pg_t g (pr_it (pg_w g) j a), pg_l g (pr_it (pg_w g) j a), v, false, false) v3], _, w, _, _, la, ⟨o1, o2, o3, run2, ro_snd_B (C := []) hr G1.2.2.2.2.1 kx fr huy, ?_⟩, xD, xP, xR2, yD, yP, ⟨?_, rfl, ?_, hla⟩, by rw [es]⟩
                  · have c1' := G1.2.2.2.2.2
                    rw [List.countP_append, List.countP_cons] at c1' ⊢
                    exact c1'
                  · rw [← idx]
                    rw [List.length_append, List.length_append, eE]; rfl
                  · exact yr_snd (C := []) hY1 v3
          · have nr : pg_t g (pr_it (pg_w g) j a) = r := by omega
            refine xs_sendN o2 xP hr hpl ht0 hsk2 hm.1 hpi hpk2 hW ?_ ?_
            · rw [pg_si_r fr rfl]
              split <;> decide
            · unfold wpY_send
              refine ys_isRole hr (br_t rfl (fg _ ?_))
              intro c1 c2 c3 c4 c5 c6 hY
              refine nxt _ c1 c2 c3 c4 c5 c6 hY (fun z => by omega) (fun z => by omega) ?_
              intro _ E v d1 d2 d3 d5 d6 M eE hE hrun hY1
              obtain ⟨G1, hwe, hun, huy⟩ := rl_ext G0 hr hnone hj eE hE ⟨rfl, rfl⟩ (hcy v) hrun
              refine br_f (pr_nneg (by omega) (by decide)) (br_f (pr_nneg (by omega) (by decide)) (br_f (nI_pos (by omega)) ⟨i6, br_f ?_ ⟨rfl, I1 E v d1 d2 d3 c4 d5 d6 M eE G1 hwe hY1⟩⟩))
              rw [nI_clamp (n := R.length + j) (by omega), hrow E v _ _ _ _ _ _ eE hY1]
              exact fun z => fr ((nI_eq (by omega) (by omega)).mp z)
        · have k2 : pg_k g (pr_it (pg_w g) j a) = 2 := by
            rcases hm.1 with z | ⟨z, -⟩
            · exact z
            · exact absurd z k1
          by_cases fr : pg_f g (pr_it (pg_w g) j a) = r
          · have ho : pg_o g (pk r) r (pr_it (pg_w g) j a) = pr_les r := by
              unfold pg_o
              rw [if_pos fr, if_neg k1, if_pos epk]
            have hles := (pr_les_ok hr).1
            have w4 := o4.2.2.2.2.2.2.2 r (pr_les r)
            have yto : ∀ (post : Int32 → SY → Prop) (c1 c2 c3 c4 c5 c6 M : Nat → Int32) (p1 : Int32), yr_ok R c1 c2 c3 c4 c5 c6 →
                ((R.filter (ro_w r (pr_les r))).length = 4 → post (-4) (z_made, z_depth, z_size, nI R.length, z_at, z_sendings, y_sorts, y_froms, y_tos, y_labels, y_firsts, y_seconds, y_around, y_stack, c1, c2, c3, c4, c5, c6, y_last, M)) →
                ((R.filter (ro_w r (pr_les r))).length < 4 → ((p1 = 0 → wY_send_111 post (nI r) p1 v3 (-1) z_made z_depth z_size (nI R.length) z_at z_sendings y_sorts y_froms y_tos y_labels y_firsts y_seconds y_around y_stack c1 c2 c3 c4 c5 c6 y_last M) ∧ (¬ p1 = 0 → ((p1 = 1 → wY_send_111 post (nI r) p1 v3 (-1) z_made z_depth z_size (nI R.length) z_at z_sendings y_sorts y_froms y_tos y_labels y_firsts y_seconds y_around y_stack c1 c2 c3 c4 c5 c6 y_last M) ∧ (¬ p1 = 1 → post (-1) (z_made, z_depth, z_size, nI R.length, z_at, z_sendings, y_sorts, y_froms, y_tos, y_labels, y_firsts, y_seconds, y_around, y_stack, c1, c2, c3, c4, c5, c6, y_last, M)))))) →
                wY_send_57 post (nI r) p1 v3 (-1) z_made z_depth z_size (nI R.length) z_at z_sendings y_sorts y_froms y_tos y_labels y_firsts y_seconds y_around y_stack c1 c2 c3 c4 c5 c6 y_last M := by
              intro post c1 c2 c3 c4 c5 c6 M p1 hY h4 h3
              refine br_t rfl (ys_lesser hr ?_)
              unfold wY_send_78
              refine ys_counted hr hles hAok (by omega) rfl hY ?_
              exact pk_lt _ 4 (fun c => br_t rfl (h3 c)) (fun c => h4 (by omega)) rfl rfl
            by_cases full : 4 ≤ (R.filter (ro_w r (pr_les r))).length
            · refine xs_sendN o2 xP hr hpl ht0 hsk2 hm.1 hpi hpk2 hW ?_ ?_
              · rw [pg_si_s fr ho, if_pos full]; decide
              · unfold wpY_send
                refine ys_isRole hr (br_t rfl (fg _ ?_))
                intro c1 c2 c3 c4 c5 c6 hY
                refine nxt _ c1 c2 c3 c4 c5 c6 hY ?_ (fun _ z => absurd fr z) (fun z => absurd z k1)
                intro _ _ M
                exact br_f (by decide) (br_f (by decide) (br_t (by decide) (yto _ c1 c2 c3 c4 c5 c6 M v2 hY (fun _ => ⟨rfl, Ir _ _ _ _ _ _ M hY⟩) (fun z => by omega))))
            · by_cases cp : v2 = 0 ∨ v2 = 1
              · obtain ⟨c, hc2, ec⟩ : ∃ c, c < 2 ∧ v2 = nI c := by
                  rcases cp with z | z
                  · exact ⟨0, by decide, z⟩
                  · exact ⟨1, by decide, z⟩
                subst ec
                obtain ⟨o, ho4, hoo, -, -⟩ := xR.2.2 r (pr_les r) hr hles
                refine xs_sendPk o2 xP hr hpl ht0 hsk2 hm.1 hpi hpk2 hW k2 fr epk (by show (R.filter (ro_w r (pr_les r))).length < 4; omega) hoo ho4 hc2 ?_
                unfold wpY_send
                refine ys_isRole hr (br_t rfl (fg _ ?_))
                intro c1 c2 c3 c4 c5 c6 hY
                refine nxt _ c1 c2 c3 c4 c5 c6 hY ?_ (fun _ z => absurd fr z) (fun z => absurd z k1)
                intro _ _ M
                refine br_f (by decide) (br_f (by decide) (br_t (by decide) (yto _ c1 c2 c3 c4 c5 c6 M (nI c) hY (fun z => by omega) (fun _ => ?_))))
                have pck : ∀ post : Int32 → SY → Prop, (∀ (E : List ro_T) (w1 w2 : Int32) (d1 d2 d3 d5 d6 : Nat → Int32), E.length = j → (∀ e, e ∈ E → ro_new e ∧ ro_c r e = false) →
                    pr_run g (R ++ E) (pr_it (pg_w g) j a) w pl pk →
                    yr_ok (R ++ E ++ (r, pr_les r, nI c, w1, false, false) :: [(r, pr_gre r, nI c, w2, false, false)]) d1 d2 d3 c4 d5 d6 →
                    wY_send_128 post v3 (nI (R.length + j)) z_made z_depth z_size (nI (R.length + j + 2)) (nI (pg_s g (pg_b g (pr_it (pg_w g) j a) c))) z_sendings y_sorts y_froms y_tos y_labels y_firsts y_seconds y_around y_stack d1 d2 d3 c4 d5 d6 y_last M) →
                    wY_send_111 post (nI r) (nI c) v3 (-1) z_made z_depth z_size (nI R.length) z_at z_sendings y_sorts y_froms y_tos y_labels y_firsts y_seconds y_around y_stack c1 c2 c3 c4 c5 c6 y_last M := by
                  intro post hpost
                  refine br_t rfl ⟨j + 1, ?_⟩
                  exact ys_pick0 (y_met := M) o2 o3 yP hr hc2 j a R (nI R.length) z_at c1 c2 c3 c5 c6 o4 rfl ea hY hm.2.1 k2 (by omega) hpost
                have fin := pck (fun r' v' => r' = nI c ∧ i_Rel (k + 4) (f_draftCount, f_stackCount, f_termCount, f_root, f_sentCount + 1, nI (pg_b g (pr_it (pg_w g) j a) c), a_draftKind, a_draftFrom, a_draftTo, a_draftNumber, a_draftFirst, a_draftSecond, a_draftParent, a_stack, a_kind, a_from, a_to, a_number, a_first, a_second, a_place, upd a_picked r (nI c), a_lastGot, a_oldest, upd a_waiting (r * 3 + pr_les r) (nI ((R.filter (ro_w r (pr_les r))).length + 1)), upd a_slotLabel ((r * 3 + pr_les r) * 4 + (o + (R.filter (ro_w r (pr_les r))).length) % 4) (nI c), upd a_slotValue ((r * 3 + pr_les r) * 4 + (o + (R.filter (ro_w r (pr_les r))).length) % 4) v3) v') ?_
                · have : c = 0 ∨ c = 1 := by omega
                  rcases this with z | z
                  · subst z; exact br_t rfl fin
                  · subst z; exact br_f (by decide) (br_t rfl fin)
                · intro E w1 w2 d1 d2 d3 d5 d6 eE hE hrun hY1
                  have idx : R.length + j = (R ++ E).length := by rw [List.length_append, eE]
                  have hY1' := hY1 (R ++ E).length _ yr_here
                  have hnE : ∀ e, e ∈ E → ro_new e := fun e he => (hE e he).1
                  have hRE : ∀ z, z ∈ R ++ E → ro_u r z = false := by
                    intro z hz
                    rcases List.mem_append.mp hz with y | y
                    · exact hnone z y
                    · rw [ro_new_u (hE z y).1]; exact (hE z y).2
                  have cap : ((R ++ E).filter (ro_w r (pr_les r))).length < 4 := by rw [ro_app_w hnE]; omega
                  have run2 := pr_run_pick o2 hrun k2 fr hc2 hRE cap v3 w1 w2
                  refine ys_128 (l := nI c) (by omega) (by rw [idx]; exact hY1'.2.2.1) ⟨rfl, ?_⟩
                  have kx : ro_ok (r, pr_les r, nI c, w1, false, false) := ⟨hr, hles, (pr_les_ok hr).2, fun z => z⟩
                  have ux : ro_u r (r, pr_les r, nI c, w1, false, false) = true := by rw [ro_new_u ⟨rfl, rfl⟩]; simp [ro_c, ro_p]
                  have uy : ro_u r (r, pr_gre r, nI c, w2, false, false) = true := by rw [ro_new_u ⟨rfl, rfl⟩]; simp [ro_c, ro_p]
                  have hn2 : ∀ e, e ∈ (r, pr_les r, nI c, w1, false, false) :: [((r, pr_gre r, nI c, w2, false, false) : ro_T)] → ro_new e := by
                    intro e he
                    rw [List.mem_cons, List.mem_singleton] at he
                    rcases he with he | he <;> subst he <;> exact ⟨rfl, rfl⟩
                  have ok2 : ∀ e, e ∈ (r, pr_les r, nI c, w1, false, false) :: [((r, pr_gre r, nI c, w2, false, false) : ro_T)] → ro_ok e := by
                    intro e he
                    rw [List.mem_cons, List.mem_singleton] at he
                    rcases he with he | he <;> subst he
                    · exact kx
                    · exact ⟨hr, (pr_gre_ok hr).1, (pr_gre_ok hr).2, fun z => z⟩
                  have b1 : ro_B (R ++ E ++ (r, pr_les r, nI c, w1, false, false) :: [(r, pr_gre r, nI c, w2, false, false)]) := by
                    have := ro_app_B (E := E ++ [(r, pr_les r, nI c, w1, false, false)]) (e := (r, pr_gre r, nI c, w2, false, false)) o5 hr hnone (by rw [List.length_append, List.length_append, eE, List.length_singleton, List.length_singleton]; omega) uy
                    rw [show R ++ E ++ (r, pr_les r, nI c, w1, false, false) :: [((r, pr_gre r, nI c, w2, false, false) : ro_T)] = R ++ (E ++ [(r, pr_les r, nI c, w1, false, false)] ++ [(r, pr_gre r, nI c, w2, false, false)]) from by simp]
                    exact this
                  have oo1 : ro_O (R ++ E ++ (r, pr_les r, nI c, w1, false, false) :: [(r, pr_gre r, nI c, w2, false, false)]) := ro_app_O hrun.2.2.2.2.1 hn2
                  have aa1 : ro_A (R ++ E ++ (r, pr_les r, nI c, w1, false, false) :: [(r, pr_gre r, nI c, w2, false, false)]) := ro_app_A hrun.2.2.2.2.2.1 ok2
                  have fl : ∀ p q, (R ++ E ++ (r, pr_les r, nI c, w1, false, false) :: [((r, pr_gre r, nI c, w2, false, false) : ro_T)]).filter (ro_w p q) = R.filter (ro_w p q) := fun p q => by rw [ro_app_w hn2, ro_app_w hnE]
                  have ew : (R ++ E ++ ro_snd (r, pr_les r, nI c, w1, false, false) v3 :: [((r, pr_gre r, nI c, w2, false, false) : ro_T)]).filter (ro_w r (pr_les r)) = R.filter (ro_w r (pr_les r)) ++ [ro_snd (r, pr_les r, nI c, w1, false, false) v3] := by
                    rw [← fl r (pr_les r)]
                    exact ro_snd_w oo1 aa1 hr rfl ux
                  have ewo : ∀ p' q', ¬ (p' = r ∧ q' = pr_les r) → (R ++ E ++ ro_snd (r, pr_les r, nI c, w1, false, false) v3 :: [((r, pr_gre r, nI c, w2, false, false) : ro_T)]).filter (ro_w p' q') = R.filter (ro_w p' q') := fun p' q' hne => by
                    rw [← fl p' q']
                    exact ro_snd_wo kx rfl ux hne
                  have xR2 := xr_pck (w' := pg_b g (pr_it (pg_w g) j a) c) (c := c) xR hr hles hoo ho4 (by omega) ew ewo
                  refine ⟨d, m, e, st, g, gx, gp, _, _, _, _, _, la, ⟨o1, o2, o3, run2, ro_snd_B hr b1 kx rfl ux, ?_⟩, xD, xP, xR2, yD, yP, ⟨?_, rfl, ?_, hla⟩, by rw [es]⟩
                  · rw [List.countP_append, ro_f_app hnE, f0]
                    have : (ro_snd (r, pr_les r, nI c, w1, false, false) v3 :: [((r, pr_gre r, nI c, w2, false, false) : ro_T)]).countP ro_f = 0 := by
                      rw [List.countP_eq_zero]
                      intro e he
                      rw [List.mem_cons, List.mem_singleton] at he
                      rcases he with he | he <;> subst he <;> simp [ro_f, ro_snd, ro_s, ro_d]
                    omega
                  · rw [List.length_append, ← idx]; rfl
                  · rw [idx]
                    exact yr_snd hY1 v3
              · have n0 : ¬ v2 = 0 := fun z => cp (Or.inl z)
                have n1 : ¬ v2 = 1 := fun z => cp (Or.inr z)
                refine xs_sendB o2 xP hr hpl ht0 hsk2 hm.1 hpi hpk2 hW (by rw [pg_si_s fr ho, if_neg full]) k2 epk n0 n1 ?_
                unfold wpY_send
                refine ys_isRole hr (br_t rfl (fg _ ?_))
                intro c1 c2 c3 c4 c5 c6 hY
                refine nxt _ c1 c2 c3 c4 c5 c6 hY ?_ (fun _ z => absurd fr z) (fun z => absurd z k1)
                intro _ _ M
                exact br_f (by decide) (br_f (by decide) (br_t (by decide) (yto _ c1 c2 c3 c4 c5 c6 M v2 hY (fun z => by omega) (fun _ => br_f n0 (br_f n1 ⟨rfl, Ir _ _ _ _ _ _ M hY⟩)))))
          · refine xs_sendN o2 xP hr hpl ht0 hsk2 hm.1 hpi hpk2 hW ?_ ?_
            · rw [pg_si_r fr rfl]
              split <;> decide
            · unfold wpY_send
              refine ys_isRole hr (br_t rfl (fg _ ?_))
              intro c1 c2 c3 c4 c5 c6 hY
              refine nxt _ c1 c2 c3 c4 c5 c6 hY (fun _ z => absurd z fr) ?_ (fun z => absurd z k1)
              intro _ _ M
              exact br_t rfl ⟨rfl, Ir _ _ _ _ _ _ M hY⟩
      · have hn : ∀ j, ¬ pg_c g r (pr_it (pg_w g) j a) := fun j z => hx ⟨j, z⟩
        refine xs_sendO o2 xP hr hpl ht0 (pr_nv_sk hsk (pg_never o2 o4.1 o4.2.1 r hn)) ?_
        unfold wpY_send
        refine ys_isRole hr (br_t rfl (fg _ ?_))
        intro c1 c2 c3 c4 c5 c6 hY
        exact ys_nextO o2 o3 yP hr o4 hl rfl ea hY hnone hn (fun M => br_f (by decide) (br_t rfl ⟨rfl, Ir _ _ _ _ _ _ M hY⟩))
    · subst eR
      rw [ro_own hA hu, List.map_cons] at hpth
      have kx := hAok x (by simp)
      have kx1 := kx.1
      have kx2 := kx.2.1
      obtain ⟨t, y, ht, hy, hs, hc, hrest, hyk, hcase⟩ := pr_head o2 kx ht0 hpth
      have hlA : A.length < 600 := by
        have := hl6
        rw [List.length_append, List.length_cons] at this
        omega
      have i6 : vp_in (nI A.length) 600 := vp_in_nI hlA (by decide)
      rcases hcase with ⟨p1, p2, p3, p5', p6'⟩ | ⟨p1, p2, p3, p4'⟩
      · have w4 := o4.2.2.2.2.2.2.2 r (ro_q x)
        by_cases full : 4 ≤ ((A ++ x :: C).filter (ro_w r (ro_q x))).length
        · refine xs_sendN o2 xP hr hpl ht0 hs hc hpi hpk2 hW ?_ ?_
          · rw [pg_si_s p2 p3, if_pos full]; decide
          · unfold wpY_send
            refine ys_isRole hr (br_t rfl (fg _ ?_))
            intro c1 c2 c3 c4 c5 c6 hY
            obtain ⟨q1, q2, q3, q4, q5, q6⟩ := hY A.length x yr_here
            refine ys_nextA hr hAok (by omega) rfl hY hA hu (br_f (pr_nneg (by omega) (by decide)) (br_f (pr_nneg (by omega) (by decide)) (br_f (nI_pos (by omega)) ⟨i6, br_t ?_ ?_⟩)))
            · rw [nI_clamp (n := A.length) (by omega), q1, p1]
            · exact ys_57 hr hAok (by omega) rfl hY w4 (fun _ => ⟨rfl, Ir _ _ _ _ _ _ _ hY⟩) (fun z => by omega)
        · obtain ⟨o, ho4, hoo, -, -⟩ := xR.2.2 r (ro_q x) hr kx2
          refine xs_sendM (l := ro_l x) (y := y) o2 xP hr hpl ht0 hs hc hpi hpk2 hW p2 p3 kx2 (by show ((A ++ x :: C).filter (ro_w r (ro_q x))).length < 4; omega) hoo ho4 ⟨p5', p6'⟩ hyk ?_
          unfold wpY_send
          refine ys_isRole hr (br_t rfl (fg _ ?_))
          intro c1 c2 c3 c4 c5 c6 hY
          obtain ⟨q1, q2, q3, q4, q5, q6⟩ := hY A.length x yr_here
          refine ys_nextA hr hAok (by omega) rfl hY hA hu (br_f (pr_nneg (by omega) (by decide)) (br_f (pr_nneg (by omega) (by decide)) (br_f (nI_pos (by omega)) ⟨i6, br_t ?_ ?_⟩)))
          · rw [nI_clamp (n := A.length) (by omega), q1, p1]
          · refine ys_57 hr hAok (by omega) rfl hY w4 (fun z => by omega) (fun z => ⟨rfl, ?_⟩)
            have run2 := pr_run_snd o4 hr hA hu p1 z hy hrest v3
            have ew := ro_snd_w (v := v3) o4.2.2.2.2.1 hAok hr p1 hu
            have ewo : ∀ p' q', ¬ (p' = r ∧ q' = ro_q x) → (A ++ ro_snd x v3 :: C).filter (ro_w p' q') = (A ++ x :: C).filter (ro_w p' q') := fun p' q' hne => ro_snd_wo kx p1 hu hne
            have xR2 := xr_snd (y := y) (w' := w) xR hr kx2 hoo ho4 z ew ewo
            refine ⟨d, m, e, st, g, gx, gp, A ++ ro_snd x v3 :: C, a, w, _, _, la, ⟨o1, o2, o3, run2, ro_snd_B hr o5 kx p1 hu, ?_⟩, xD, xP, xR2, yD, yP, ⟨?_, ea, yr_snd hY v3, hla⟩, by rw [es]⟩
            · have hd := (ro_snd0 kx p1 hu).2
              rw [List.countP_append, List.countP_cons] at f0 ⊢
              have : ro_f (ro_snd x v3) = false := by show (true && ro_d x) = false; rw [hd]; rfl
              rw [this]
              simp only [Bool.false_eq_true, if_false]
              omega
            · rw [List.length_append, List.length_append, List.length_cons, List.length_cons]
      · have nf : pg_f g t ≠ r := by omega
        refine xs_sendN o2 xP hr hpl ht0 hs hc hpi hpk2 hW ?_ ?_
        · rw [pg_si_r nf p4']
          split <;> decide
        · unfold wpY_send
          refine ys_isRole hr (br_t rfl (fg _ ?_))
          intro c1 c2 c3 c4 c5 c6 hY
          obtain ⟨q1, q2, q3, q4, q5, q6⟩ := hY A.length x yr_here
          refine ys_nextA hr hAok (by omega) rfl hY hA hu (br_f (pr_nneg (by omega) (by decide)) (br_f (pr_nneg (by omega) (by decide)) (br_f (nI_pos (by omega)) ⟨i6, br_f ?_ ⟨rfl, Ir _ _ _ _ _ _ _ hY⟩⟩)))
          rw [nI_clamp (n := A.length) (by omega), q1]
          exact fun z => p2 ((nI_eq (by omega) (by omega)).mp z)
end PSB
end
