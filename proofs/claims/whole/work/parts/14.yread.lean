section PRN
/-! the reference: the relation of its state, and its reading methods -/
def yr_D (d : dd_T) (m e : Nat) (st : Nat → Nat) (z_made z_depth : Int32) (y_sorts y_froms y_tos y_labels y_firsts y_seconds y_around y_stack : Nat → Int32) : Prop :=
  z_made = nI m ∧ z_depth = nI e ∧ (∀ i, i < m → y_sorts (20 + i) = nI (dd_k d i) ∧ (dd_k d i ≤ 2 → y_froms (20 + i) = nI (dd_f d i)) ∧ (3 ≤ dd_k d i → y_froms (20 + i) = nI (dd_n d i)) ∧ y_tos (20 + i) = nI (dd_t d i) ∧ (dd_k d i = 1 → y_labels (20 + i) = nI (dd_n d i)) ∧ (1 ≤ dd_k d i → dd_k d i ≤ 3 → y_firsts (20 + i) = nI (dd_1 d i) ∧ y_seconds (20 + i) = nI (dd_2 d i)) ∧ y_around (20 + i) = pr_oI (dd_p d i)) ∧ (∀ i, i < e → y_stack i = nI (st i))
def yr_P (g : pg_T) (gx : Nat → Nat) (gp : Nat → Option Nat) (z_size : Int32) (y_sorts y_froms y_tos y_labels y_firsts y_seconds y_around : Nat → Int32) : Prop :=
  z_size = nI (pg_n g) ∧ (∀ i, i < pg_n g → y_sorts i = nI (pg_k g i) ∧ (pg_k g i ≤ 2 → y_froms i = nI (pg_f g i)) ∧ (3 ≤ pg_k g i → y_froms i = nI (gx i)) ∧ y_tos i = nI (pg_t g i) ∧ (pg_k g i = 1 → y_labels i = pg_l g i) ∧ (1 ≤ pg_k g i → pg_k g i ≤ 3 → y_firsts i = nI (pg_1 g i) ∧ y_seconds i = nI (pg_2 g i)) ∧ (∀ j, j < pg_n g → pg_k g j = 4 → y_around i = pr_oI (gp i)))
def pg_up (g : pg_T) (gx : Nat → Nat) (gp : Nat → Option Nat) : Prop :=
  dd_in (pg_k g) gp (pg_n g) ∧ (∀ i, i < pg_n g → gx i < 4) ∧ (∀ i, i < pg_n g → pg_k g i = 4 → dd_up (pg_k g) gx gp (gx i) 20 (gp i) false = some (pg_1 g i, true))
def dd_lo2 (o : Option (Nat × Bool)) : Int32 := match o with
  | some (l, _) => nI l
  | none => -1
section
variable {z_made z_depth z_size z_rows z_at z_sendings : Int32} {y_sorts y_froms y_tos y_labels y_firsts y_seconds y_around y_stack y_senders y_receivers y_told y_values y_isSent y_isReceived y_last y_met : Nat → Int32} {g : pg_T} {gx : Nat → Nat} {gp : Nat → Option Nat}
theorem ys_isRole {post : Int32 → Prop} {r : Nat} (hr : r < 3) (h : post 0) : wpY_noRole post (z_made, z_depth, z_size, z_rows, z_at, z_sendings, y_sorts, y_froms, y_tos, y_labels, y_firsts, y_seconds, y_around, y_stack, y_senders, y_receivers, y_told, y_values, y_isSent, y_isReceived, y_last, y_met) (nI r) :=
  br_f (nI_pos (by omega)) (br_t (nI_le (b := 2) (by omega) (by decide)) h)
theorem ys_noRole {post : Int32 → Prop} {x : Int32} (hx : x < 0 ∨ nI 3 ≤ x) (h : post 1) : wpY_noRole post (z_made, z_depth, z_size, z_rows, z_at, z_sendings, y_sorts, y_froms, y_tos, y_labels, y_firsts, y_seconds, y_around, y_stack, y_senders, y_receivers, y_told, y_values, y_isSent, y_isReceived, y_last, y_met) x := by
  by_cases c : x < 0
  · exact br_t c h
  · refine br_f c (br_f ?_ h)
    intro z
    obtain ⟨j, hj, rfl⟩ := nI_of c
    rcases hx with hx | hx
    · exact c hx
    · have a1 := (nI_leI (a := 3) (b := j) (by decide) hj).mp hx
      have a2 := (nI_leI (a := j) (b := 2) hj (by decide)).mp z
      omega
theorem ys_lesser {post : Int32 → Prop} {r : Nat} (hr : r < 3) (h : post (nI (pr_les r))) : wpY_lesser post (z_made, z_depth, z_size, z_rows, z_at, z_sendings, y_sorts, y_froms, y_tos, y_labels, y_firsts, y_seconds, y_around, y_stack, y_senders, y_receivers, y_told, y_values, y_isSent, y_isReceived, y_last, y_met) (nI r) := by
  have : r = 0 ∨ r = 1 ∨ r = 2 := by omega
  rcases this with e | e | e <;> subst e
  · exact br_t rfl h
  · exact br_f (by decide) h
  · exact br_f (by decide) h
theorem ys_lo9 {post : Int32 → Prop} {k x : Nat → Nat} {p : Nat → Option Nat} {m B i : Nat} (hm : m ≤ 20) (hB : B ≤ 20) (hi : i < m) (h4 : k i = 4) (hin : dd_in k p m) (hx : ∀ j, j < m → x j < 4) (hk : ∀ j, j < m → k j ≤ 4)
    (hY : ∀ j, j < m → y_sorts (B + j) = nI (k j) ∧ (3 ≤ k j → y_froms (B + j) = nI (x j)) ∧ y_around (B + j) = pr_oI (p j)) :
    ∀ (q : Nat) (o : Option Nat) (b : Bool), (∀ t, o = some t → t < m ∧ m - t ≤ q) → post (dd_lo2 (dd_up k x p (x i) q o b)) → wY_loopOf_9 post (nI B) (nI i) z_made z_depth z_size z_rows z_at z_sendings y_sorts y_froms y_tos y_labels y_firsts y_seconds y_around y_stack y_senders y_receivers y_told y_values y_isSent y_isReceived y_last y_met (q + 1) (pr_oI o) := by
  intro q
  induction q with
  | zero =>
    intro o b ho h
    cases o with
    | none => exact br_t (by decide) h
    | some t => have := ho t rfl; omega
  | succ q ih =>
    intro o b ho h
    cases o with
    | none => exact br_t (by decide) h
    | some t =>
      obtain ⟨ht, htq⟩ := ho t rfl
      obtain ⟨g1, g2, g3⟩ := hY t ht
      have gi := (hY i hi).2.1 (by omega)
      have i40 : vp_in (nI (B + t)) 40 := vp_in_nI (by omega) (by decide)
      have hx1 := hx t ht
      have hx2 := hx i hi
      have hk1 := hk t ht
      have h' : post (dd_lo2 (if k t = 3 ∧ x t = x i then some (t, b) else dd_up k x p (x i) q (p t) (b || decide (k t < 3)))) := h
      refine br_f (nI_pos (by omega)) ?_
      rw [show pr_oI (some t) = nI t from rfl, nI_add, nI_add, nI_clamp (n := B + t) (by omega), nI_clamp (n := B + i) (by omega), g1, gi]
      have key : ¬ (k t = 3 ∧ x t = x i) → wY_loopOf_44 post (wY_loopOf_9 post (nI B) (nI i) z_made z_depth z_size z_rows z_at z_sendings y_sorts y_froms y_tos y_labels y_firsts y_seconds y_around y_stack y_senders y_receivers y_told y_values y_isSent y_isReceived y_last y_met (q + 1)) (nI B) (nI i) (nI t) z_made z_depth z_size z_rows z_at z_sendings y_sorts y_froms y_tos y_labels y_firsts y_seconds y_around y_stack y_senders y_receivers y_told y_values y_isSent y_isReceived y_last y_met := by
        intro hne
        rw [if_neg hne] at h'
        unfold wY_loopOf_44
        rw [nI_add, nI_clamp (n := B + t) (by omega)]
        refine ⟨i40, nm_r g3 (ih (p t) _ ?_ h')⟩
        intro s hs
        have := hin t ht s hs
        omega
      refine ⟨i40, pk_eq (k t) 3 (fun c => ⟨i40, vp_in_nI (by omega) (by decide), ?_⟩) (fun c => key (fun z => c z.1))⟩
      rw [g2 (by omega)]
      refine pk_eq (x t) (x i) (fun c2 => ?_) (fun c2 => key (fun z => c2 z.2))
      rw [if_pos ⟨c, c2⟩] at h'
      exact h'
theorem ys_loopOf {post : Int32 → Prop} {k x : Nat → Nat} {p : Nat → Option Nat} {m B i : Nat} (hm : m ≤ 20) (hB : B ≤ 20) (hi : i < m) (h4 : k i = 4) (hin : dd_in k p m) (hx : ∀ j, j < m → x j < 4) (hk : ∀ j, j < m → k j ≤ 4)
    (hY : ∀ j, j < m → y_sorts (B + j) = nI (k j) ∧ (3 ≤ k j → y_froms (B + j) = nI (x j)) ∧ y_around (B + j) = pr_oI (p j)) (h : post (dd_lo2 (dd_up k x p (x i) 20 (p i) false))) : wpY_loopOf post (z_made, z_depth, z_size, z_rows, z_at, z_sendings, y_sorts, y_froms, y_tos, y_labels, y_firsts, y_seconds, y_around, y_stack, y_senders, y_receivers, y_told, y_values, y_isSent, y_isReceived, y_last, y_met) (nI B) (nI i) := by
  unfold wpY_loopOf
  rw [nI_add, nI_clamp (n := B + i) (by omega)]
  refine ⟨vp_in_nI (by omega) (by decide), nm_r (hY i hi).2.2 ⟨20 + 1, ?_⟩⟩
  exact ys_lo9 hm hB hi h4 hin hx hk hY 20 (p i) false (fun t ht => by have := hin i hi t ht; omega) h
theorem yr_pat {t : Nat} (ok : pg_ok g) (P : yr_P g gx gp z_size y_sorts y_froms y_tos y_labels y_firsts y_seconds y_around) (ht : t < pg_n g) :
    vp_in (nI t) 40 ∧ vp_in (nI t) 20 ∧ (nI t).toNatClampNeg = t ∧ y_sorts t = nI (pg_k g t) ∧ pg_k g t ≤ 4 := by
  have h20 := ok.2.1
  exact ⟨vp_in_nI (by omega) (by omega), vp_in_nI (by omega) (by omega), nI_clamp (by omega), (P.2 t ht).1, (ok.2.2.1 t ht).1⟩
theorem ys_st2 {post : Int32 → Prop} (ok : pg_ok g) (U : pg_up g gx gp) (P : yr_P g gx gp z_size y_sorts y_froms y_tos y_labels y_firsts y_seconds y_around) : ∀ (q t : Nat), t < pg_n g → pg_k g (pr_sg (pg_k g) (pg_1 g) q t) ≤ 2 → post (nI (pr_sg (pg_k g) (pg_1 g) q t)) → wY_settled_2 post z_made z_depth z_size z_rows z_at z_sendings y_sorts y_froms y_tos y_labels y_firsts y_seconds y_around y_stack y_senders y_receivers y_told y_values y_isSent y_isReceived y_last y_met (q + 1) (nI t) := by
  intro q
  induction q with
  | zero =>
    intro t ht h2 h
    obtain ⟨i40, i20, ec, es, b⟩ := yr_pat ok P ht
    refine ⟨i40, ?_⟩
    rw [ec, es]
    exact pk_le (pg_k g t) 2 (fun _ => h) (fun c => absurd h2 (by show ¬ pg_k g t ≤ 2; omega))
  | succ q ih =>
    intro t ht h2 h
    obtain ⟨i40, i20, ec, es, b⟩ := yr_pat ok P ht
    refine ⟨i40, ?_⟩
    rw [ec, es]
    refine pk_le (pg_k g t) 2 (fun c => ?_) (fun c => ⟨i40, ?_⟩)
    · rw [pr_sg_s c] at h; exact h
    · have e : pr_sg (pg_k g) (pg_1 g) (q + 1) t = pr_sg (pg_k g) (pg_1 g) q (pg_1 g t) := if_neg (by omega)
      rw [e] at h h2
      refine pk_eq (pg_k g t) 3 (fun c3 => ⟨i40, ?_⟩) (fun c3 => ?_)
      · exact nm_r ((P.2 t ht).2.2.2.2.2.1 (by omega) (by omega)).1 (ih _ (pg_1lt ok ht) h2 h)
      · have h4 : pg_k g t = 4 := by omega
        refine ys_loopOf (k := pg_k g) (x := gx) (p := gp) (m := pg_n g) (B := 0) ok.2.1 (by omega) ht h4 U.1 U.2.1 (fun j hj => (ok.2.2.1 j hj).1) ?_ ?_
        · intro j hj
          rw [Nat.zero_add]
          have := P.2 j hj
          exact ⟨this.1, this.2.2.1, this.2.2.2.2.2.2 t ht h4⟩
        · rw [U.2.2 t ht h4]
          exact ih _ (pg_1lt ok ht) h2 h
theorem ys_settled {post : Int32 → Prop} {t : Nat} (ok : pg_ok g) (U : pg_up g gx gp) (P : yr_P g gx gp z_size y_sorts y_froms y_tos y_labels y_firsts y_seconds y_around) (ht : t < pg_n g) (h : post (nI (pg_s g t))) : wpY_settled post (z_made, z_depth, z_size, z_rows, z_at, z_sendings, y_sorts, y_froms, y_tos, y_labels, y_firsts, y_seconds, y_around, y_stack, y_senders, y_receivers, y_told, y_values, y_isSent, y_isReceived, y_last, y_met) (nI t) :=
  ⟨42 + 1, ys_st2 ok U P 42 t ht (pg_s2 ok ht) h⟩
/-- where r's first one not done lies -/
def pr_fi (r : Nat) : List ro_T → Nat → Int32
  | [], _ => -1
  | x :: S, i => if ro_u r x then nI i else pr_fi r S (i + 1)
theorem pr_fi_n {r : Nat} : ∀ (S : List ro_T) (i : Nat), (∀ x, x ∈ S → ro_u r x = false) → pr_fi r S i = -1 := by
  intro S
  induction S with
  | nil => intro i _; rfl
  | cons x S ih =>
    intro i h
    show (if ro_u r x then nI i else pr_fi r S (i + 1)) = -1
    rw [h x (by simp)]
    exact ih (i + 1) (fun y hy => h y (by simp [hy]))
theorem pr_fi_s {r : Nat} {x : ro_T} {C : List ro_T} (hu : ro_u r x = true) : ∀ (A : List ro_T) (i : Nat), (∀ y, y ∈ A → ro_u r y = false) → pr_fi r (A ++ x :: C) i = nI (i + A.length) := by
  intro A
  induction A with
  | nil =>
    intro i _
    show (if ro_u r x then nI i else pr_fi r C (i + 1)) = nI i
    rw [hu]
    rfl
  | cons y A ih =>
    intro i h
    show (if ro_u r y then nI i else pr_fi r (A ++ x :: C) (i + 1)) = _
    rw [h y (by simp)]
    rw [List.length_cons]
    have := ih (i + 1) (fun z hz => h z (by simp [hz]))
    rw [show i + (A.length + 1) = i + 1 + A.length from by omega]
    exact this
theorem ys_left2 {post : Int32 → Prop} {r : Nat} {R : List ro_T} (hr : r < 3) (hA : ro_A R) (hl : R.length ≤ 600) (er : z_rows = nI R.length) (Y : yr_ok R y_senders y_receivers y_told y_values y_isSent y_isReceived) : ∀ (S P : List ro_T), R = P ++ S → post (pr_fi r S P.length) → wY_left_2 post (nI r) z_made z_depth z_size z_rows z_at z_sendings y_sorts y_froms y_tos y_labels y_firsts y_seconds y_around y_stack y_senders y_receivers y_told y_values y_isSent y_isReceived y_last y_met (S.length + 1) (nI P.length) := by
  subst er
  intro S
  induction S with
  | nil =>
    intro P e h
    rw [List.append_nil] at e
    subst e
    exact br_t (nI_le (by omega) (by omega)) h
  | cons x S ih =>
    intro P e h
    have hlen : P.length < R.length := by rw [e, List.length_append, List.length_cons]; omega
    obtain ⟨h1, h2, h3, h4, h5, h6⟩ := Y P.length x (by rw [e]; exact yr_here)
    obtain ⟨a1, a2, a3, a4⟩ := hA x (by rw [e]; simp)
    have i600 : vp_in (nI P.length) 600 := vp_in_nI (by omega) (by decide)
    have h' : post (if ro_u r x then nI P.length else pr_fi r S (P.length + 1)) := h
    have nx : ro_u r x = false → wY_left_2 post (nI r) z_made z_depth z_size (nI R.length) z_at z_sendings y_sorts y_froms y_tos y_labels y_firsts y_seconds y_around y_stack y_senders y_receivers y_told y_values y_isSent y_isReceived y_last y_met (S.length + 1) (nI (P.length + 1)) := by
      intro hu
      rw [hu] at h'
      have := ih (P ++ [x]) (by rw [e]; simp) (by rw [List.length_append]; exact h')
      rw [List.length_append] at this
      exact this
    have ye : ro_u r x = true → post (nI P.length) := by
      intro hu
      rw [hu] at h'
      exact h'
    refine br_f (nI_ge hlen (by omega)) ?_
    unfold wY_left_29
    rw [nI_clamp (n := P.length) (by omega), h1, h2, h5, h6]
    have tail : (ro_p x = r → ro_s x = true) → ((nI (ro_q x) = nI r → (vp_in (nI P.length) 600 ∧ ((pr_bI (ro_d x) = 0 → (post (nI P.length))) ∧ (¬ pr_bI (ro_d x) = 0 → (∀ x2_9 : Int32, x2_9 = nI P.length + 1 → (wY_left_2 post (nI r) z_made z_depth z_size (nI R.length) z_at z_sendings y_sorts y_froms y_tos y_labels y_firsts y_seconds y_around y_stack y_senders y_receivers y_told y_values y_isSent y_isReceived y_last y_met (S.length + 1) x2_9)))))) ∧ (¬ nI (ro_q x) = nI r → (∀ x2_6 : Int32, x2_6 = nI P.length + 1 → (wY_left_2 post (nI r) z_made z_depth z_size (nI R.length) z_at z_sendings y_sorts y_froms y_tos y_labels y_firsts y_seconds y_around y_stack y_senders y_receivers y_told y_values y_isSent y_isReceived y_last y_met (S.length + 1) x2_6)))) := by
      intro hs
      refine pk_eq (ro_q x) r (fun c => ⟨i600, ?_⟩) (fun c => nm_r (nI_1 _) (nx ?_))
      · cases hd : ro_d x
        · exact br_t rfl (ye (by unfold ro_u; simp [c, hd]))
        · refine br_f (by decide) (nm_r (nI_1 _) (nx ?_))
          have : ro_p x ≠ r := by omega
          unfold ro_u
          simp [this, hd]
      · unfold ro_u
        by_cases c2 : ro_p x = r
        · simp [c, hs c2]
        · simp [c, c2]
    refine ⟨i600, pk_eq (ro_p x) r (fun c => ⟨i600, ?_⟩) (fun c => ⟨i600, tail (fun z => absurd z c)⟩)⟩
    cases hs : ro_s x
    · exact br_t rfl (ye (by unfold ro_u; simp [c, hs]))
    · exact br_f (by decide) ⟨i600, tail (fun _ => hs)⟩
theorem ys_left {post : Int32 → Prop} {r : Nat} {R : List ro_T} (hr : r < 3) (hA : ro_A R) (hl : R.length ≤ 600) (er : z_rows = nI R.length) (Y : yr_ok R y_senders y_receivers y_told y_values y_isSent y_isReceived) (h : post (pr_fi r R 0)) : wpY_left post (z_made, z_depth, z_size, z_rows, z_at, z_sendings, y_sorts, y_froms, y_tos, y_labels, y_firsts, y_seconds, y_around, y_stack, y_senders, y_receivers, y_told, y_values, y_isSent, y_isReceived, y_last, y_met) (nI r) :=
  ⟨R.length + 1, ys_left2 hr hA hl er Y R [] rfl h⟩
theorem ys_cnt5 {post : Int32 → Prop} {p q : Nat} {R : List ro_T} (hp : p < 3) (hq : q < 3) (hA : ro_A R) (hl : R.length ≤ 600) (er : z_rows = nI R.length) (Y : yr_ok R y_senders y_receivers y_told y_values y_isSent y_isReceived) : ∀ (S P : List ro_T) (c : Nat), R = P ++ S → post (nI (c + (S.filter (ro_w p q)).length)) → wY_counted_5 post (nI p) (nI q) z_made z_depth z_size z_rows z_at z_sendings y_sorts y_froms y_tos y_labels y_firsts y_seconds y_around y_stack y_senders y_receivers y_told y_values y_isSent y_isReceived y_last y_met (S.length + 1) (nI c) (nI P.length) := by
  subst er
  intro S
  induction S with
  | nil =>
    intro P c e h
    rw [List.append_nil] at e
    subst e
    exact br_t (nI_le (by omega) (by omega)) h
  | cons x S ih =>
    intro P c e h
    have hlen : P.length < R.length := by rw [e, List.length_append, List.length_cons]; omega
    obtain ⟨h1, h2, h3, h4, h5, h6⟩ := Y P.length x (by rw [e]; exact yr_here)
    obtain ⟨a1, a2, a3, a4⟩ := hA x (by rw [e]; simp)
    have i600 : vp_in (nI P.length) 600 := vp_in_nI (by omega) (by decide)
    have nx : ro_w p q x = false → wY_counted_5 post (nI p) (nI q) z_made z_depth z_size (nI R.length) z_at z_sendings y_sorts y_froms y_tos y_labels y_firsts y_seconds y_around y_stack y_senders y_receivers y_told y_values y_isSent y_isReceived y_last y_met (S.length + 1) (nI c) (nI (P.length + 1)) := by
      intro hu
      rw [List.filter_cons_of_neg (by simp [hu])] at h
      have := ih (P ++ [x]) c (by rw [e]; simp) h
      rw [List.length_append] at this
      exact this
    have ye : ro_w p q x = true → wY_counted_5 post (nI p) (nI q) z_made z_depth z_size (nI R.length) z_at z_sendings y_sorts y_froms y_tos y_labels y_firsts y_seconds y_around y_stack y_senders y_receivers y_told y_values y_isSent y_isReceived y_last y_met (S.length + 1) (nI (c + 1)) (nI (P.length + 1)) := by
      intro hu
      rw [List.filter_cons_of_pos hu, List.length_cons] at h
      have := ih (P ++ [x]) (c + 1) (by rw [e]; simp) (by rw [show c + 1 + (S.filter (ro_w p q)).length = c + ((S.filter (ro_w p q)).length + 1) from by omega]; exact h)
      rw [List.length_append] at this
      exact this
    refine br_f (nI_ge hlen (by omega)) ?_
    rw [nI_clamp (n := P.length) (by omega), h1, h2, h5, h6]
    refine ⟨i600, pk_eq (ro_p x) p (fun c1 => ⟨i600, pk_eq (ro_q x) q (fun c2 => ⟨i600, ?_⟩) (fun c2 => nm_r (nI_1 _) (nx (by unfold ro_w; simp [c2])))⟩) (fun c1 => nm_r (nI_1 _) (nx (by unfold ro_w; simp [c1])))⟩
    cases hs : ro_s x
    · exact br_t rfl (nm_r (nI_1 _) (nx (by unfold ro_w; simp [hs])))
    · refine br_f (by decide) ⟨i600, ?_⟩
      cases hd : ro_d x
      · exact br_t rfl (nm_r (nI_1 _) (nm_r (nI_1 _) (ye (by unfold ro_w; simp [c1, c2, hs, hd]))))
      · exact br_f (by decide) (nm_r (nI_1 _) (nx (by unfold ro_w; simp [hd])))
theorem ys_counted {post : Int32 → Prop} {p q : Nat} {R : List ro_T} (hp : p < 3) (hq : q < 3) (hA : ro_A R) (hl : R.length ≤ 600) (er : z_rows = nI R.length) (Y : yr_ok R y_senders y_receivers y_told y_values y_isSent y_isReceived) (h : post (nI (R.filter (ro_w p q)).length)) : wpY_counted post (z_made, z_depth, z_size, z_rows, z_at, z_sendings, y_sorts, y_froms, y_tos, y_labels, y_firsts, y_seconds, y_around, y_stack, y_senders, y_receivers, y_told, y_values, y_isSent, y_isReceived, y_last, y_met) (nI p) (nI q) :=
  ⟨R.length + 1, ys_cnt5 hp hq hA hl er Y R [] 0 rfl (by rw [Nat.zero_add]; exact h)⟩
end
end PRN
