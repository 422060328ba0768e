section PRG
/-! bits (rows pasted from the kit), counts, what can be reached -/
def bt (x : Int32) (i : Nat) : Bool := x.toBitVec.getLsbD i
theorem b_ext {x y : Int32} (h : ∀ i, i < 32 → bt x i = bt y i) : x = y := Int32.toBitVec_inj.mp (BitVec.eq_of_getLsbD_eq (fun i hi => h i hi))
theorem b_or (x y : Int32) (i : Nat) : bt (x ||| y) i = (bt x i || bt y i) := by unfold bt; rw [Int32.toBitVec_or, BitVec.getLsbD_or]
theorem b_and (x y : Int32) (i : Nat) : bt (x &&& y) i = (bt x i && bt y i) := by unfold bt; rw [Int32.toBitVec_and, BitVec.getLsbD_and]
theorem b_big {x : Int32} {i : Nat} (h : 32 ≤ i) : bt x i = false := BitVec.getLsbD_of_ge _ _ h
theorem b_0 (i : Nat) : bt 0 i = false := BitVec.getLsbD_zero
theorem s_l : ∀ n, n < 32 → ((nI n &&& 31).toBitVec.smod 32).toNat = n := by decide +kernel
theorem s_u : ∀ n, n < 32 → (((nI n).toUInt32 &&& Int32.toUInt32 31).toBitVec % 32).toNat = n := by decide +kernel
theorem b_shl (n : Nat) (hn : n < 32) (x : Int32) {i : Nat} (hi : i < 32) : bt (x <<< (nI n &&& 31)) i = (decide (n ≤ i) && bt x (i - n)) := by
  unfold bt
  rw [Int32.toBitVec_shiftLeft]
  show (x.toBitVec <<< ((nI n &&& 31).toBitVec.smod 32).toNat).getLsbD i = _
  rw [s_l n hn, BitVec.getLsbD_shiftLeft]
  rcases Nat.lt_or_ge i n with h | h
  · simp [h, Nat.not_le.mpr h]
  · simp [hi, h, Nat.not_lt.mpr h]
theorem b_sshr (n : Nat) (hn : n < 32) (x : Int32) {i : Nat} (hi : i < 32) : bt (x >>> (nI n &&& 31)) i = if n + i < 32 then bt x (n + i) else bt x 31 := by
  unfold bt
  rw [Int32.toBitVec_shiftRight]
  show (x.toBitVec.sshiftRight ((nI n &&& 31).toBitVec.smod 32).toNat).getLsbD i = _
  rw [s_l n hn, BitVec.getLsbD_sshiftRight, BitVec.msb_eq_getLsbD_last]
  simp [hi]
theorem pr_b1 : ∀ i, i < 32 → bt 1 i = decide (i = 0) := by decide
theorem pr_bit1 (y : Int32) : (y &&& 1 = 1) ↔ bt y 0 = true := by
  constructor
  · intro h
    have := congrArg (fun z => bt z 0) h
    simp only [b_and] at this
    rw [pr_b1 0 (by decide)] at this
    simpa using this
  · intro h
    apply b_ext
    intro i hi
    rw [b_and, pr_b1 i hi]
    by_cases c : i = 0
    · subst c; simp [h]
    · simp [c]
theorem pr_sh1 {n i : Nat} (hn : n < 32) (hi : i < 32) : bt ((1 : Int32) <<< (nI n &&& 31)) i = decide (i = n) := by
  rw [b_shl n hn 1 hi]
  by_cases c : n ≤ i
  · rw [pr_b1 (i - n) (by omega)]
    by_cases e : i = n
    · subst e; simp
    · have : ¬ i - n = 0 := by omega
      simp [c, e, this]
  · have : ¬ i = n := by omega
    simp [c, this]
theorem pr_get {x : Int32} {n : Nat} (hn : n < 32) : (x >>> (nI n &&& 31) &&& 1 = 1) ↔ bt x n = true := by
  rw [pr_bit1, b_sshr n hn x (by decide : 0 < 32)]
  simp [hn]
/-- how many i below m have P -/
def pr_cn (P : Nat → Bool) : Nat → Nat
  | 0 => 0
  | m + 1 => pr_cn P m + (if P m then 1 else 0)
theorem pr_cn_le (P : Nat → Bool) : ∀ m, pr_cn P m ≤ m := by
  intro m
  induction m with
  | zero => exact Nat.le_refl 0
  | succ m ih =>
    show pr_cn P m + (if P m then 1 else 0) ≤ m + 1
    split <;> omega
theorem pr_cn_mo {P Q : Nat → Bool} : ∀ m, (∀ i, i < m → P i = true → Q i = true) → pr_cn P m ≤ pr_cn Q m := by
  intro m
  induction m with
  | zero => intro _; exact Nat.le_refl 0
  | succ m ih =>
    intro h
    have := ih (fun i hi => h i (by omega))
    have hm := h m (by omega)
    show pr_cn P m + (if P m then 1 else 0) ≤ pr_cn Q m + (if Q m then 1 else 0)
    cases hp : P m
    · simp; omega
    · rw [hm hp]; simp; omega
theorem pr_cn_eq {P Q : Nat → Bool} : ∀ m, (∀ i, i < m → P i = true → Q i = true) → pr_cn Q m ≤ pr_cn P m → ∀ i, i < m → Q i = true → P i = true := by
  intro m
  induction m with
  | zero => intro _ _ i hi; omega
  | succ m ih =>
    intro h hle i hi hq
    have h1 := pr_cn_mo m (fun i hi => h i (by omega))
    have hm := h m (by omega)
    have hle' : pr_cn Q m + (if Q m then 1 else 0) ≤ pr_cn P m + (if P m then 1 else 0) := hle
    have hc : pr_cn Q m ≤ pr_cn P m ∧ (Q m = true → P m = true) := by
      cases hp : P m
      · cases hqm : Q m
        · rw [hp, hqm] at hle'; simp at hle'; exact ⟨hle', fun z => z⟩
        · rw [hp, hqm] at hle'; simp at hle'; omega
      · rw [hp, hm hp] at hle'; simp at hle'; exact ⟨hle', fun _ => rfl⟩
    by_cases c : i = m
    · subst c; exact hc.2 hq
    · exact ih (fun i hi => h i (by omega)) hc.1 i (by omega) hq
def pr_rc (f1 f2 : Nat → Nat) : Nat → Nat → Nat → Prop
  | 0, a, b => a = b
  | k + 1, a, b => pr_rc f1 f2 k (f1 a) b ∨ pr_rc f1 f2 k (f2 a) b
def pg_re (g : pg_T) (a b : Nat) : Prop := ∃ k, pr_rc (pg_1 g) (pg_2 g) k a b
theorem pg_re_rf (g : pg_T) (a : Nat) : pg_re g a a := ⟨0, rfl⟩
theorem pr_rc_t {f1 f2 : Nat → Nat} : ∀ k a b, pr_rc f1 f2 k a b → pr_rc f1 f2 (k + 1) a (f1 b) ∧ pr_rc f1 f2 (k + 1) a (f2 b) := by
  intro k
  induction k with
  | zero =>
    intro a b h
    have h : a = b := h
    subst h
    exact ⟨Or.inl rfl, Or.inr rfl⟩
  | succ k ih =>
    intro a b h
    rcases h with h | h
    · exact ⟨Or.inl (ih _ _ h).1, Or.inl (ih _ _ h).2⟩
    · exact ⟨Or.inr (ih _ _ h).1, Or.inr (ih _ _ h).2⟩
theorem pg_re_1 {g : pg_T} {a b : Nat} (h : pg_re g a b) : pg_re g a (pg_1 g b) := by
  obtain ⟨k, h⟩ := h
  exact ⟨k + 1, (pr_rc_t k a b h).1⟩
theorem pg_re_2 {g : pg_T} {a b : Nat} (h : pg_re g a b) : pg_re g a (pg_2 g b) := by
  obtain ⟨k, h⟩ := h
  exact ⟨k + 1, (pr_rc_t k a b h).2⟩
theorem pg_re_s {g : pg_T} {a b : Nat} (h : pg_re g a b) : pg_re g a (pg_s g b) := by
  have : ∀ m b, pg_re g a b → pg_re g a (pr_sg (pg_k g) (pg_1 g) m b) := by
    intro m
    induction m with
    | zero => intro b h; exact h
    | succ m ih =>
      intro b h
      show pg_re g a (if pg_k g b ≤ 2 then b else pr_sg (pg_k g) (pg_1 g) m (pg_1 g b))
      split
      · exact h
      · exact ih _ (pg_re_1 h)
  exact this 42 b h
theorem pg_re_cl {g : pg_T} {C : Nat → Prop} (hC : ∀ x, C x → C (pg_1 g x) ∧ C (pg_2 g x)) {a b : Nat} (h : pg_re g a b) (ha : C a) : C b := by
  obtain ⟨k, h⟩ := h
  have : ∀ k a, C a → pr_rc (pg_1 g) (pg_2 g) k a b → C b := by
    intro k
    induction k with
    | zero => intro a ha h; have h : a = b := h; rw [← h]; exact ha
    | succ k ih =>
      intro a ha h
      rcases h with h | h
      · exact ih _ (hC a ha).1 h
      · exact ih _ (hC a ha).2 h
  exact this k a ha h
/-- an end can be reached -/
def pg_fin (g : pg_T) (a : Nat) : Prop := ∃ b, pg_re g a b ∧ pg_k g b = 0
theorem pg_fin_st {g : pg_T} (ok : pg_ok g) {x : Nat} (hx : x < pg_n g) (h0 : pg_k g x ≠ 0) (h2 : pg_k g x ≠ 2) : pg_fin g x ↔ pg_fin g (pg_1 g x) := by
  have e := (ok.2.2.1 x hx).2.2.2.2.2.2.1 h2
  constructor
  · rintro ⟨b, ⟨k, h⟩, hb⟩
    cases k with
    | zero => have h : x = b := h; rw [← h] at hb; exact absurd hb h0
    | succ k =>
      rcases h with h | h
      · exact ⟨b, ⟨k, h⟩, hb⟩
      · rw [e] at h; exact ⟨b, ⟨k, h⟩, hb⟩
  · rintro ⟨b, ⟨k, h⟩, hb⟩
    exact ⟨b, ⟨k + 1, Or.inl h⟩, hb⟩
theorem pg_fin_dr {g : pg_T} (ok : pg_ok g) {w a : Nat} (hw : w < pg_n g) (h : pg_dr g w a) : pg_fin g w ↔ pg_fin g a := by
  obtain ⟨k, e, hk⟩ := h
  subst e
  have : ∀ k w, w < pg_n g → (∀ j, j < k → ¬ (pg_k g (pr_it (pg_1 g) j w) = 0 ∨ pg_k g (pr_it (pg_1 g) j w) = 2)) → (pg_fin g w ↔ pg_fin g (pr_it (pg_1 g) k w)) := by
    intro k
    induction k with
    | zero => intro w _ _; exact Iff.rfl
    | succ k ih =>
      intro w hw h
      have z := h 0 (by omega)
      have z' : ¬ (pg_k g w = 0 ∨ pg_k g w = 2) := z
      rw [pg_fin_st ok hw (fun y => z' (Or.inl y)) (fun y => z' (Or.inr y))]
      exact ih _ (pg_1lt ok hw) (fun j hj => h (j + 1) (by omega))
  exact this k w hw hk
/-- a set that holds a, whose settled followers it holds, and no end: none can be reached -/
theorem pg_fin_y {g : pg_T} (ok : pg_ok g) {M : Nat → Prop} {a : Nat} (ha : a < pg_n g) (h2 : pg_k g a ≤ 2) (hM : M a) (hc : ∀ t, t < pg_n g → M t → pg_k g t > 0 → M (pg_s g (pg_1 g t)) ∧ M (pg_s g (pg_2 g t))) : ∀ b, pg_re g a b → b < pg_n g ∧ M (pg_s g b) := by
  intro b h
  refine pg_re_cl (C := fun x => x < pg_n g ∧ M (pg_s g x)) ?_ h ⟨ha, by rw [pg_ss h2]; exact hM⟩
  rintro x ⟨hx, hm⟩
  refine ⟨⟨pg_1lt ok hx, ?_⟩, ⟨pg_2lt ok hx, ?_⟩⟩
  · by_cases c : pg_k g x ≤ 2
    · rw [pg_ss c] at hm
      by_cases z : pg_k g x = 0
      · rw [(ok.2.2.1 x hx).2.2.2.2.2.1 z, pg_ss c]; exact hm
      · exact (hc x hx hm (by omega)).1
    · rw [← pg_sf ok hx c]; exact hm
  · by_cases c : pg_k g x ≤ 2
    · rw [pg_ss c] at hm
      by_cases z : pg_k g x = 0
      · rw [(ok.2.2.1 x hx).2.2.2.2.2.2.1 (by omega), (ok.2.2.1 x hx).2.2.2.2.2.1 z, pg_ss c]; exact hm
      · exact (hc x hx hm (by omega)).2
    · rw [(ok.2.2.1 x hx).2.2.2.2.2.2.1 (by omega), ← pg_sf ok hx c]; exact hm
end PRG
