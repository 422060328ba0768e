section PRB
/-! the protocol as a graph: count, kinds, senders, receivers, first, second, labels -/
abbrev pg_T : Type := Nat × (Nat → Nat) × (Nat → Nat) × (Nat → Nat) × (Nat → Nat) × (Nat → Nat) × (Nat → Int32)
def pg_n (g : pg_T) : Nat := g.1
def pg_k (g : pg_T) : Nat → Nat := g.2.1
def pg_f (g : pg_T) : Nat → Nat := g.2.2.1
def pg_t (g : pg_T) : Nat → Nat := g.2.2.2.1
def pg_1 (g : pg_T) : Nat → Nat := g.2.2.2.2.1
def pg_2 (g : pg_T) : Nat → Nat := g.2.2.2.2.2.1
def pg_l (g : pg_T) : Nat → Int32 := g.2.2.2.2.2.2
def pg_s (g : pg_T) (t : Nat) : Nat := pr_sg (pg_k g) (pg_1 g) 42 t
/-- one step of the walk behind a message -/
def pg_w (g : pg_T) (t : Nat) : Nat := pg_s g (pg_1 g t)
def pg_c (g : pg_T) (r t : Nat) : Prop := pg_k g t = 2 ∨ pg_k g t = 1 ∧ (pg_f g t = r ∨ pg_t g t = r)
def pg_ok (g : pg_T) : Prop :=
  0 < pg_n g ∧ pg_n g ≤ 20 ∧ (∀ i, i < pg_n g → pg_k g i ≤ 4 ∧ pg_1 g i < pg_n g ∧ pg_2 g i < pg_n g ∧ (pg_k g i = 1 → pg_f g i < 3 ∧ pg_t g i < 3 ∧ pg_f g i ≠ pg_t g i) ∧ (pg_k g i = 2 → pg_f g i < 3) ∧ (pg_k g i = 0 → pg_1 g i = i) ∧ (pg_k g i ≠ 2 → pg_2 g i = pg_1 g i) ∧ pg_k g (pg_s g i) ≤ 2) ∧ (pg_k g 0 = 0 ∨ pg_k g 0 = 4)
theorem pg_c2 {g : pg_T} {r t : Nat} (h : pg_c g r t) : pg_k g t ≤ 2 := by
  rcases h with h | ⟨h, -⟩ <;> omega
theorem pg_1lt {g : pg_T} (ok : pg_ok g) {t : Nat} (h : t < pg_n g) : pg_1 g t < pg_n g := (ok.2.2.1 t h).2.1
theorem pg_2lt {g : pg_T} (ok : pg_ok g) {t : Nat} (h : t < pg_n g) : pg_2 g t < pg_n g := (ok.2.2.1 t h).2.2.1
theorem pg_slt {g : pg_T} (ok : pg_ok g) {t : Nat} (h : t < pg_n g) : pg_s g t < pg_n g := pr_sg_lt (fun _ => pg_1lt ok) 42 t h
theorem pg_s2 {g : pg_T} (ok : pg_ok g) {t : Nat} (h : t < pg_n g) : pg_k g (pg_s g t) ≤ 2 := (ok.2.2.1 t h).2.2.2.2.2.2.2
theorem pg_ss {g : pg_T} {t : Nat} (h : pg_k g t ≤ 2) : pg_s g t = t := pr_sg_s h 42
theorem pg_sf {g : pg_T} (ok : pg_ok g) {t : Nat} (h : t < pg_n g) (c : ¬ pg_k g t ≤ 2) : pg_s g t = pg_s g (pg_1 g t) := pr_sg_f c (pg_s2 ok h)
theorem pg_ssk {g : pg_T} (r t : Nat) : pr_sk (pg_c g r) (pg_1 g) t (pg_s g t) := pr_sg_sk (fun _ c => pg_c2 c) 42 t
theorem pg_wlt {g : pg_T} (ok : pg_ok g) {t : Nat} (h : t < pg_n g) : pg_w g t < pg_n g := pg_slt ok (pg_1lt ok h)
theorem pg_w2 {g : pg_T} (ok : pg_ok g) {t : Nat} (h : t < pg_n g) : pg_k g (pg_w g t) ≤ 2 := pg_s2 ok (pg_1lt ok h)
theorem pg_wsk {g : pg_T} {r t : Nat} (h : ¬ pg_c g r t) : pr_sk (pg_c g r) (pg_1 g) t (pg_w g t) := pr_sk_st h (pg_ssk r _)
theorem pg_w0 {g : pg_T} (ok : pg_ok g) {t : Nat} (h : t < pg_n g) (z : pg_k g t = 0) : pg_w g t = t := by
  show pg_s g (pg_1 g t) = t
  rw [(ok.2.2.1 t h).2.2.2.2.2.1 z]
  exact pg_ss (by omega)
theorem pg_itlt {g : pg_T} (ok : pg_ok g) {a : Nat} (h : a < pg_n g) (i : Nat) : pr_it (pg_w g) i a < pg_n g := pr_it_lt (fun _ => pg_wlt ok) i a h
theorem pg_it2 {g : pg_T} (ok : pg_ok g) {a : Nat} (h : a < pg_n g) (h2 : pg_k g a ≤ 2) (i : Nat) : pg_k g (pr_it (pg_w g) i a) ≤ 2 := by
  cases i with
  | zero => exact h2
  | succ i => rw [pr_it_s]; exact pg_w2 ok (pg_itlt ok h i)
theorem pg_it0 {g : pg_T} (ok : pg_ok g) {a : Nat} (h : a < pg_n g) (i : Nat) (z : pg_k g (pr_it (pg_w g) i a) = 0) : ∀ m, pr_it (pg_w g) (i + m) a = pr_it (pg_w g) i a := by
  intro m
  induction m with
  | zero => rfl
  | succ m ih =>
    rw [← Nat.add_assoc, pr_it_s, ih]
    exact pg_w0 ok (pg_itlt ok h i) z
/-- where the walk from a meets a term of the role -/
theorem pg_meet {g : pg_T} (ok : pg_ok g) {a : Nat} (h : a < pg_n g) (h2 : pg_k g a ≤ 2) (r : Nat) (hx : ∃ k, pg_c g r (pr_it (pg_w g) k a)) :
    ∃ k, pg_c g r (pr_it (pg_w g) k a) ∧ (∀ i, i < k → pg_k g (pr_it (pg_w g) i a) = 1 ∧ ¬ pg_c g r (pr_it (pg_w g) i a)) ∧ k + 1 < pg_n g
      ∧ (∀ i j, i < j → j ≤ k → pr_it (pg_w g) i a ≠ pr_it (pg_w g) j a) ∧ pr_sk (pg_c g r) (pg_1 g) a (pr_it (pg_w g) k a) := by
  obtain ⟨k, hk, hmin⟩ := pk_least _ hx
  have h1 : ∀ i, i < k → pg_k g (pr_it (pg_w g) i a) = 1 ∧ ¬ pg_c g r (pr_it (pg_w g) i a) := by
    intro i hi
    refine ⟨?_, hmin i hi⟩
    have a1 := pg_it2 ok h h2 i
    have a2 : pg_k g (pr_it (pg_w g) i a) ≠ 2 := fun e => hmin i hi (Or.inl e)
    have a3 : pg_k g (pr_it (pg_w g) i a) ≠ 0 := by
      intro z
      have e := pg_it0 ok h i z (k - i)
      rw [show i + (k - i) = k from by omega] at e
      rw [e] at hk
      exact hmin i hi hk
    omega
  obtain ⟨j, h0, hj, hd, -, hc⟩ := pr_orb (fun _ => pg_wlt ok) h
  have hkj : k < j := by
    obtain ⟨i, hi, ei⟩ := hc k
    have : ¬ i < k := fun z => hmin i z (by rw [← ei]; exact hk)
    omega
  have hdis : ∀ i j, i < j → j ≤ k → pr_it (pg_w g) i a ≠ pr_it (pg_w g) j a := fun i b hib hb => hd i b hib (by omega)
  refine ⟨k, hk, h1, ?_, hdis, ?_⟩
  · by_cases hlt : k + 1 < pg_n g
    · exact hlt
    · exfalso
      have hnz : ∀ i, i ≤ k → pr_it (pg_w g) i a ≠ 0 := by
        intro i hi e
        have h3 : 1 ≤ pg_k g (pr_it (pg_w g) i a) ∧ pg_k g (pr_it (pg_w g) i a) ≤ 2 := by
          by_cases c : i < k
          · have := (h1 i c).1; omega
          · have : i = k := by omega
            subst this
            rcases hk with z | ⟨z, -⟩ <;> omega
        rw [e] at h3
        have h4 := ok.2.2.2
        omega
      obtain ⟨x, y, hxy, hy, e⟩ := pr_pig (pg_n g - 1) (fun i => pr_it (pg_w g) i a - 1) (by
        intro i hi
        have a1 := pg_itlt ok h i
        have a2 := hnz i (by omega)
        show pr_it (pg_w g) i a - 1 < pg_n g - 1
        omega)
      have e' : pr_it (pg_w g) x a - 1 = pr_it (pg_w g) y a - 1 := e
      have a1 := hnz x (by omega)
      have a2 := hnz y (by omega)
      exact hdis x y hxy (by omega) (by omega)
  · have : ∀ m, m ≤ k → pr_sk (pg_c g r) (pg_1 g) a (pr_it (pg_w g) m a) := by
      intro m
      induction m with
      | zero => intro _; exact pr_sk_rf a
      | succ m ih =>
        intro hm
        rw [pr_it_s]
        exact pr_sk_tr (ih (by omega)) (pg_wsk (h1 m (by omega)).2)
    exact this k (Nat.le_refl k)
/-- no term of the role on the walk: none on the way by single steps -/
theorem pg_never {g : pg_T} (ok : pg_ok g) {a : Nat} (h : a < pg_n g) (h2 : pg_k g a ≤ 2) (r : Nat) (hn : ∀ k, ¬ pg_c g r (pr_it (pg_w g) k a)) : ∀ j, ¬ pg_c g r (pr_it (pg_1 g) j a) := by
  have key : ∀ j, pr_it (pg_1 g) j a < pg_n g ∧ ∃ k, pg_s g (pr_it (pg_1 g) j a) = pr_it (pg_w g) k a := by
    intro j
    induction j with
    | zero => exact ⟨h, 0, pg_ss h2⟩
    | succ j ih =>
      obtain ⟨hl, k, e⟩ := ih
      rw [pr_it_s]
      refine ⟨pg_1lt ok hl, ?_⟩
      by_cases c : pg_k g (pr_it (pg_1 g) j a) ≤ 2
      · refine ⟨k + 1, ?_⟩
        rw [pr_it_s, ← e, pg_ss c]
        rfl
      · exact ⟨k, by rw [← pg_sf ok hl c, e]⟩
  intro j c
  obtain ⟨hl, k, e⟩ := key j
  rw [pg_ss (pg_c2 c)] at e
  exact hn k (by rw [← e]; exact c)
def pr_les (r : Nat) : Nat := if r = 0 then 1 else 0
def pr_gre (r : Nat) : Nat := if r = 2 then 1 else 2
/-- the branch -/
def pg_b (g : pg_T) (x c : Nat) : Nat := if c = 1 then pg_2 g x else pg_1 g x
theorem pg_blt {g : pg_T} (ok : pg_ok g) {x : Nat} (h : x < pg_n g) (c : Nat) : pg_b g x c < pg_n g := by
  unfold pg_b
  split
  · exact pg_2lt ok h
  · exact pg_1lt ok h
abbrev pr_T : Type := Nat × Nat × Int32
/-- the role r, at place t with its pick pk, has the messages L of the path still before it, and the path's end stands at a -/
def pr_pth (g : pg_T) (r a : Nat) : List pr_T → Nat → Option Nat → Prop
  | [], t, pk => pk = none ∧ pr_sk (pg_c g r) (pg_1 g) t a
  | y :: L, t, none => ∃ x, pr_sk (pg_c g r) (pg_1 g) t x ∧ pg_c g r x ∧
      ((pg_k g x = 1 ∧ y = (pg_f g x, pg_t g x, pg_l g x) ∧ pr_pth g r a L (pg_1 g x) none)
      ∨ (pg_k g x = 2 ∧ pg_f g x ≠ r ∧ ∃ c, c < 2 ∧ y = (pg_f g x, r, nI c) ∧ pr_pth g r a L (pg_b g x c) none))
  | y :: L, t, some c => ∃ x, pr_sk (pg_c g r) (pg_1 g) t x ∧ pg_c g r x ∧ pg_k g x = 2 ∧ pg_f g x = r ∧ c < 2 ∧ y = (r, pr_gre r, nI c) ∧ pr_pth g r a L (pg_b g x c) none
theorem pr_pth_app {g : pg_T} {r a a' : Nat} {E : List pr_T} (hE : ∀ t, pr_sk (pg_c g r) (pg_1 g) t a → pr_pth g r a' E t none) : ∀ (L : List pr_T) (t : Nat) (pk : Option Nat), pr_pth g r a L t pk → pr_pth g r a' (L ++ E) t pk := by
  intro L
  induction L with
  | nil =>
    intro t pk h
    obtain ⟨rfl, h⟩ := h
    exact hE t h
  | cons y L ih =>
    intro t pk h
    cases pk with
    | none =>
      obtain ⟨x, hs, hc, h⟩ := h
      refine ⟨x, hs, hc, ?_⟩
      rcases h with ⟨k1, e, h⟩ | ⟨k2, hr, c, hc2, e, h⟩
      · exact Or.inl ⟨k1, e, ih _ _ h⟩
      · exact Or.inr ⟨k2, hr, c, hc2, e, ih _ _ h⟩
    | some c =>
      obtain ⟨x, hs, hc, k2, hr, hc2, e, h⟩ := h
      exact ⟨x, hs, hc, k2, hr, hc2, e, ih _ _ h⟩
theorem pr_pth_msg {g : pg_T} {r a : Nat} (ka : pg_k g a = 1) {L : List pr_T} {t : Nat} {pk : Option Nat} (h : pr_pth g r a L t pk) :
    pr_pth g r (pg_w g a) (L ++ (if pg_f g a = r ∨ pg_t g a = r then [(pg_f g a, pg_t g a, pg_l g a)] else [])) t pk := by
  refine pr_pth_app ?_ L t pk h
  intro t hs
  split
  · rename_i hc
    exact ⟨a, hs, Or.inr ⟨ka, hc⟩, Or.inl ⟨ka, rfl, rfl, pg_ssk r _⟩⟩
  · rename_i hc
    refine ⟨rfl, pr_sk_tr hs (pg_wsk ?_)⟩
    intro z
    rcases z with z | ⟨-, z⟩
    · omega
    · exact hc z
theorem pr_pth_own {g : pg_T} {r a c : Nat} (ka : pg_k g a = 2) (hr : pg_f g a = r) (hc : c < 2) {t : Nat} (hs : pr_sk (pg_c g r) (pg_1 g) t a) :
    pr_pth g r (pg_s g (pg_b g a c)) [(r, pr_gre r, nI c)] t (some c) :=
  ⟨a, hs, Or.inl ka, ka, hr, hc, rfl, rfl, pg_ssk r _⟩
theorem pr_pth_oth {g : pg_T} {r a c : Nat} (ka : pg_k g a = 2) (hr : pg_f g a ≠ r) (hc : c < 2) {L : List pr_T} {t : Nat} {pk : Option Nat} (h : pr_pth g r a L t pk) :
    pr_pth g r (pg_s g (pg_b g a c)) (L ++ [(pg_f g a, r, nI c)]) t pk := by
  refine pr_pth_app ?_ L t pk h
  intro t hs
  exact ⟨a, hs, Or.inl ka, Or.inr ⟨ka, hr, c, hc, rfl, rfl, pg_ssk r _⟩⟩
/-- w goes on, without a pick and without an end, to a -/
def pg_dr (g : pg_T) (w a : Nat) : Prop := pr_sk (fun t => pg_k g t = 0 ∨ pg_k g t = 2) (pg_1 g) w a
theorem pg_dr_s (g : pg_T) (t : Nat) : pg_dr g t (pg_s g t) := pr_sg_sk (fun _ c => by rcases c with c | c <;> omega) 42 t
theorem pg_dr_m {g : pg_T} {w a : Nat} (h : pg_dr g w a) (ka : pg_k g a = 1) : pg_dr g w (pg_w g a) :=
  pr_sk_tr h (pr_sk_st (fun c => by rcases c with c | c <;> omega) (pg_dr_s g _))
end PRB
