section PRQ
/-! the reference: the draft, the protocol -/
theorem dd_up_x {k x : Nat → Nat} {p : Nat → Option Nat} {tt : Nat} : ∀ (n : Nat) (o : Option Nat) (b : Bool) (l : Nat) (c : Bool), dd_up k x p tt n o b = some (l, c) → k l = 3 ∧ x l = tt := by
  intro n
  induction n with
  | zero => intro o b l c h; exact absurd h (by simp [dd_up])
  | succ n ih =>
    intro o b l c h
    cases o with
    | none => exact absurd h (by simp [dd_up])
    | some t =>
      have h' : (if k t = 3 ∧ x t = tt then some (t, b) else dd_up k x p tt n (p t) (b || decide (k t < 3))) = some (l, c) := h
      split at h'
      · rename_i hc
        have : t = l ∧ b = c := by simpa using h'
        rw [← this.1]
        exact hc
      · exact ih _ _ _ _ h'
section
variable {z_made z_depth z_size z_rows z_at z_sendings : Int32} {y_sorts y_froms y_tos y_labels y_firsts y_seconds y_around y_stack y_senders y_receivers y_told y_values y_isSent y_isReceived y_last y_met : Nat → Int32} {g : pg_T} {gx : Nat → Nat} {gp : Nat → Option Nat} {d : dd_T} {m e : Nat} {st : Nat → Nat}
theorem ys_make {post : Int32 → SY → Prop} {n e' : Nat} {p0 p1 p2 p3 : Int32} (em : z_made = nI n) (hn : n < 20) (ee : z_depth = nI e') (he : e' < 20)
    (h : post (nI (e' + 1)) (nI (n + 1), nI (e' + 1), z_size, z_rows, z_at, z_sendings, upd y_sorts (20 + n) p0, upd y_froms (20 + n) p1, upd y_tos (20 + n) p2, upd y_labels (20 + n) p3, y_firsts, y_seconds, upd y_around (20 + n) (-1), upd y_stack e' (nI n), y_senders, y_receivers, y_told, y_values, y_isSent, y_isReceived, y_last, y_met)) : wpY_make post (z_made, z_depth, z_size, z_rows, z_at, z_sendings, y_sorts, y_froms, y_tos, y_labels, y_firsts, y_seconds, y_around, y_stack, y_senders, y_receivers, y_told, y_values, y_isSent, y_isReceived, y_last, y_met) p0 p1 p2 p3 := by
  subst em ee
  refine nm_r (e' := nI (20 + n)) (nI_add 20 n) ?_
  rw [nI_clamp (n := 20 + n) (by omega), nI_clamp (n := e') (by omega)]
  have i40 : vp_in (nI (20 + n)) 40 := vp_in_nI (by omega) (by decide)
  exact ⟨i40, nm_e ⟨i40, nm_e ⟨i40, nm_e ⟨i40, nm_e ⟨i40, nm_e ⟨vp_in_nI he (by decide), nm_e (nm_r (nI_1 e') (nm_r (nI_1 n) h))⟩⟩⟩⟩⟩⟩
theorem ys_take {post : SY → Prop} {n a b : Nat} (em : z_made = nI n) (hn : n < 20) (ha : a < 20) (hb : b < 20)
    (h : post (z_made, z_depth, z_size, z_rows, z_at, z_sendings, y_sorts, y_froms, y_tos, y_labels, upd y_firsts (20 + n) (nI a), upd y_seconds (20 + n) (nI b), upd (upd y_around (20 + a) (nI n)) (20 + b) (nI n), y_stack, y_senders, y_receivers, y_told, y_values, y_isSent, y_isReceived, y_last, y_met)) : wpY_take post (z_made, z_depth, z_size, z_rows, z_at, z_sendings, y_sorts, y_froms, y_tos, y_labels, y_firsts, y_seconds, y_around, y_stack, y_senders, y_receivers, y_told, y_values, y_isSent, y_isReceived, y_last, y_met) (nI a) (nI b) := by
  subst em
  unfold wpY_take
  dsimp only
  rw [show (20 : Int32) = nI 20 from rfl, nI_add, nI_add, nI_add, nI_clamp (n := 20 + n) (by omega), nI_clamp (n := 20 + a) (by omega), nI_clamp (n := 20 + b) (by omega)]
  exact ⟨vp_in_nI (by omega) (by decide), nm_e ⟨vp_in_nI (by omega) (by decide), nm_e ⟨vp_in_nI (by omega) (by decide), nm_e ⟨vp_in_nI (by omega) (by decide), nm_e h⟩⟩⟩⟩
theorem yr_P_eq {s1 s2 s3 s4 s5 s6 s7 : Nat → Int32} (ok : pg_ok g) (P : yr_P g gx gp z_size y_sorts y_froms y_tos y_labels y_firsts y_seconds y_around) (h1 : ∀ i, i < 20 → s1 i = y_sorts i) (h2 : ∀ i, i < 20 → s2 i = y_froms i) (h3 : ∀ i, i < 20 → s3 i = y_tos i) (h4 : ∀ i, i < 20 → s4 i = y_labels i) (h5 : ∀ i, i < 20 → s5 i = y_firsts i) (h6 : ∀ i, i < 20 → s6 i = y_seconds i) (h7 : ∀ i, i < 20 → s7 i = y_around i) : yr_P g gx gp z_size s1 s2 s3 s4 s5 s6 s7 := by
  refine ⟨P.1, ?_⟩
  intro i hi
  have hi20 : i < 20 := by have := ok.2.1; omega
  rw [h1 i hi20, h2 i hi20, h3 i hi20, h4 i hi20, h5 i hi20, h6 i hi20, h7 i hi20]
  exact P.2 i hi
theorem yr_D_put0 {k f t n : Nat} {p1 p3 : Int32} (D : yr_D d m e st z_made z_depth y_sorts y_froms y_tos y_labels y_firsts y_seconds y_around y_stack) (hk : k = 0 ∨ k = 4) (hp1 : k ≤ 2 → p1 = nI f) (hp3 : 3 ≤ k → p1 = nI n) :
    yr_D (dd_put d m k f t n m m) (m + 1) (e + 1) (pr_fu st e m) (nI (m + 1)) (nI (e + 1)) (upd y_sorts (20 + m) (nI k)) (upd y_froms (20 + m) p1) (upd y_tos (20 + m) (nI t)) (upd y_labels (20 + m) p3) y_firsts y_seconds (upd y_around (20 + m) (-1)) (upd y_stack e (nI m)) := by
  obtain ⟨-, -, h1, h2⟩ := D
  refine ⟨rfl, rfl, ?_, ?_⟩
  · intro i hi
    by_cases c : i = m
    · subst c
      have ek : dd_k (dd_put d i k f t n i i) i = k := pr_fus _ _ _
      rw [ek]
      refine ⟨pk_us, ?_, ?_, ?_, ?_, ?_, ?_⟩
      · intro z; rw [pk_us, hp1 z]; exact congrArg nI (pr_fus _ _ _).symm
      · intro z; rw [pk_us, hp3 z]; exact congrArg nI (pr_fus _ _ _).symm
      · rw [pk_us]; exact congrArg nI (pr_fus _ _ _).symm
      · intro z; omega
      · intro z1 z2; omega
      · rw [pk_us]; exact congrArg pr_oI (pr_fus _ _ (none : Option Nat)).symm
    · have c' : 20 + i ≠ 20 + m := by omega
      obtain ⟨g1, g2, g3, g4, g5, g6, g7⟩ := h1 i (by omega)
      have ek : dd_k (dd_put d m k f t n m m) i = dd_k d i := pr_fun _ _ c
      have ef : dd_f (dd_put d m k f t n m m) i = dd_f d i := pr_fun _ _ c
      have et : dd_t (dd_put d m k f t n m m) i = dd_t d i := pr_fun _ _ c
      have en : dd_n (dd_put d m k f t n m m) i = dd_n d i := pr_fun _ _ c
      have e1 : dd_1 (dd_put d m k f t n m m) i = dd_1 d i := pr_fun _ _ c
      have e2 : dd_2 (dd_put d m k f t n m m) i = dd_2 d i := pr_fun _ _ c
      have ep : dd_p (dd_put d m k f t n m m) i = dd_p d i := by
        show pr_fu (pr_fu (pr_fu (dd_p d) m (some m)) m (some m)) m none i = _
        rw [pr_fun _ _ c, pr_fun _ _ c, pr_fun _ _ c]
      rw [ek, ef, et, en, e1, e2, ep, pk_un c', pk_un c', pk_un c', pk_un c', pk_un c']
      exact ⟨g1, g2, g3, g4, g5, g6, g7⟩
  · intro i hi
    by_cases c : i = e
    · rw [c, pk_us, pr_fus]
    · rw [pk_un c, pr_fun _ _ c]
      exact h2 i (by omega)
theorem yr_D_put {q k f t n a b : Nat} {p1 p3 : Int32} (D : yr_D d m e st z_made z_depth y_sorts y_froms y_tos y_labels y_firsts y_seconds y_around y_stack) (hq : q ≤ e) (hp1 : k ≤ 2 → p1 = nI f) (hp2 : 3 ≤ k → p1 = nI n) (hp3 : k = 1 → p3 = nI n) :
    yr_D (dd_put d m k f t n a b) (m + 1) (e - q + 1) (pr_fu st (e - q) m) (nI (m + 1)) (nI (e - q + 1)) (upd y_sorts (20 + m) (nI k)) (upd y_froms (20 + m) p1) (upd y_tos (20 + m) (nI t)) (upd y_labels (20 + m) p3) (upd y_firsts (20 + m) (nI a)) (upd y_seconds (20 + m) (nI b)) (upd (upd (upd y_around (20 + a) (nI m)) (20 + b) (nI m)) (20 + m) (-1)) (upd y_stack (e - q) (nI m)) := by
  obtain ⟨-, -, h1, h2⟩ := D
  refine ⟨rfl, rfl, ?_, ?_⟩
  · intro i hi
    by_cases c : i = m
    · subst c
      have ek : dd_k (dd_put d i k f t n a b) i = k := pr_fus _ _ _
      rw [ek]
      refine ⟨pk_us, ?_, ?_, ?_, ?_, ?_, ?_⟩
      · intro z; rw [pk_us, hp1 z]; exact congrArg nI (pr_fus _ _ _).symm
      · intro z; rw [pk_us, hp2 z]; exact congrArg nI (pr_fus _ _ _).symm
      · rw [pk_us]; exact congrArg nI (pr_fus _ _ _).symm
      · intro z; rw [pk_us, hp3 z]; exact congrArg nI (pr_fus _ _ _).symm
      · intro z1 z2
        rw [pk_us, pk_us]
        exact ⟨congrArg nI (pr_fus _ _ _).symm, congrArg nI (pr_fus _ _ _).symm⟩
      · rw [pk_us]; exact congrArg pr_oI (pr_fus _ _ (none : Option Nat)).symm
    · have c' : 20 + i ≠ 20 + m := by omega
      obtain ⟨g1, g2, g3, g4, g5, g6, g7⟩ := h1 i (by omega)
      have ek : dd_k (dd_put d m k f t n a b) i = dd_k d i := pr_fun _ _ c
      have ef : dd_f (dd_put d m k f t n a b) i = dd_f d i := pr_fun _ _ c
      have et : dd_t (dd_put d m k f t n a b) i = dd_t d i := pr_fun _ _ c
      have en : dd_n (dd_put d m k f t n a b) i = dd_n d i := pr_fun _ _ c
      have e1 : dd_1 (dd_put d m k f t n a b) i = dd_1 d i := pr_fun _ _ c
      have e2 : dd_2 (dd_put d m k f t n a b) i = dd_2 d i := pr_fun _ _ c
      have ep : pr_oI (dd_p (dd_put d m k f t n a b) i) = upd (upd (upd y_around (20 + a) (nI m)) (20 + b) (nI m)) (20 + m) (-1) (20 + i) := by
        show pr_oI (pr_fu (pr_fu (pr_fu (dd_p d) a (some m)) b (some m)) m none i) = _
        rw [pr_fun _ _ c, pk_un c']
        by_cases cb : i = b
        · rw [cb, pk_us, pr_fus]; rfl
        · rw [pk_un (show 20 + i ≠ 20 + b from by omega), pr_fun _ _ cb]
          by_cases ca : i = a
          · rw [ca, pk_us, pr_fus]; rfl
          · rw [pk_un (show 20 + i ≠ 20 + a from by omega), pr_fun _ _ ca, g7]
      rw [← ep, ek, ef, et, en, e1, e2, pk_un c', pk_un c', pk_un c', pk_un c', pk_un c', pk_un c']
      exact ⟨g1, g2, g3, g4, g5, g6, rfl⟩
  · intro i hi
    by_cases c : i = e - q
    · rw [c, pk_us, pr_fus]
    · rw [pk_un c, pr_fun _ _ c]
      exact h2 i (by omega)
theorem ys_lf44 {post : Int32 → Prop} {J : Int32 → Prop} {i l : Nat} {b' : Bool} (ok : dd_ok d m e st) (D : yr_D d m e st z_made z_depth y_sorts y_froms y_tos y_labels y_firsts y_seconds y_around y_stack) (tt : Nat) (h94 : wY_loopsFit_94 post J (nI i) (nI l) (pr_bI b') z_made z_depth z_size z_rows z_at z_sendings y_sorts y_froms y_tos y_labels y_firsts y_seconds y_around y_stack y_senders y_receivers y_told y_values y_isSent y_isReceived y_last y_met) :
    ∀ (q : Nat) (o : Option Nat) (b : Bool), (∀ t, o = some t → t < m ∧ m - t ≤ q) → dd_up (dd_k d) (dd_n d) (dd_p d) tt q o b = some (l, b') → wY_loopsFit_44 post J (nI i) (nI l) z_made z_depth z_size z_rows z_at z_sendings y_sorts y_froms y_tos y_labels y_firsts y_seconds y_around y_stack y_senders y_receivers y_told y_values y_isSent y_isReceived y_last y_met (q + 1) (pr_bI b) (pr_oI o) := by
  have om := ok.1
  have hin := dd_dd_in ok
  intro q
  induction q with
  | zero => intro o b _ h; exact absurd h (by simp [dd_up])
  | succ q ih =>
    intro o b ho h
    cases o with
    | none => exact absurd h (by simp [dd_up])
    | some t =>
      obtain ⟨ht, htq⟩ := ho t rfl
      obtain ⟨hl3, hlx⟩ := dd_up_x _ _ _ _ _ h
      have hlm := (dd_up_l hin _ _ _ _ _ (fun t ht => (ho t ht).1) h).1
      have h' : (if dd_k d t = 3 ∧ dd_n d t = tt then some (t, b) else dd_up (dd_k d) (dd_n d) (dd_p d) tt q (dd_p d t) (b || decide (dd_k d t < 3))) = some (l, b') := h
      have i40 : vp_in (nI (20 + t)) 40 := vp_in_nI (by omega) (by decide)
      obtain ⟨g1, -, -, -, -, -, g7⟩ := D.2.2.1 t ht
      have bk := (ok.2.2.2.2.2.2 t ht).1
      refine br_f (nI_pos (by omega)) ?_
      refine pk_eq t l (fun c => ?_) (fun c => ?_) rfl rfl
      · subst c
        rw [if_pos ⟨hl3, hlx⟩] at h'
        have : b = b' := by simpa using h'
        rw [this]
        exact h94
      · have hne : ¬ (dd_k d t = 3 ∧ dd_n d t = tt) := by
          intro z
          rw [if_pos z] at h'
          have : t = l ∧ b = b' := by simpa using h'
          exact c this.1
        rw [if_neg hne] at h'
        have hp : ∀ s, dd_p d t = some s → s < m ∧ m - s ≤ q := fun s hs => by have := hin t ht s hs; omega
        have go : ∀ z : Bool, (b || decide (dd_k d t < 3)) = z → wY_loopsFit_78 post J (wY_loopsFit_44 post J (nI i) (nI l) z_made z_depth z_size z_rows z_at z_sendings y_sorts y_froms y_tos y_labels y_firsts y_seconds y_around y_stack y_senders y_receivers y_told y_values y_isSent y_isReceived y_last y_met (q + 1)) (nI i) (nI l) (nI t) (pr_bI z) z_made z_depth z_size z_rows z_at z_sendings y_sorts y_froms y_tos y_labels y_firsts y_seconds y_around y_stack y_senders y_receivers y_told y_values y_isSent y_isReceived y_last y_met := by
          intro z hz
          rw [hz] at h'
          unfold wY_loopsFit_78
          rw [show (20 : Int32) = nI 20 from rfl, nI_add, nI_clamp (n := 20 + t) (by omega)]
          exact ⟨i40, nm_r g7 (ih (dd_p d t) z hp h')⟩
        rw [show pr_oI (some t) = nI t from rfl, show (20 : Int32) = nI 20 from rfl, nI_add, nI_clamp (n := 20 + t) (by omega), g1]
        cases b with
        | false => exact br_t rfl ⟨i40, pk_le 3 (dd_k d t) (fun z => go false (by simp; omega)) (fun z => go true (by simp; omega))⟩
        | true => exact br_f (by decide) (go true rfl)
theorem ys_lf44n {post : Int32 → Prop} {J : Int32 → Prop} {i : Nat} (ok : dd_ok d m e st) (D : yr_D d m e st z_made z_depth y_sorts y_froms y_tos y_labels y_firsts y_seconds y_around y_stack) (h : post 0) :
    ∀ (q : Nat) (o : Option Nat) (b : Bool), (∀ t, o = some t → t < m ∧ m - t ≤ q) → wY_loopsFit_44 post J (nI i) (-1) z_made z_depth z_size z_rows z_at z_sendings y_sorts y_froms y_tos y_labels y_firsts y_seconds y_around y_stack y_senders y_receivers y_told y_values y_isSent y_isReceived y_last y_met (q + 1) (pr_bI b) (pr_oI o) := by
  have om := ok.1
  have hin := dd_dd_in ok
  intro q
  induction q with
  | zero =>
    intro o b ho
    cases o with
    | none => exact br_t (by decide) (br_t (by decide) h)
    | some t => have := ho t rfl; omega
  | succ q ih =>
    intro o b ho
    cases o with
    | none => exact br_t (by decide) (br_t (by decide) h)
    | some t =>
      obtain ⟨ht, htq⟩ := ho t rfl
      have i40 : vp_in (nI (20 + t)) 40 := vp_in_nI (by omega) (by decide)
      obtain ⟨g1, -, -, -, -, -, g7⟩ := D.2.2.1 t ht
      have bk := (ok.2.2.2.2.2.2 t ht).1
      have hp : ∀ s, dd_p d t = some s → s < m ∧ m - s ≤ q := fun s hs => by have := hin t ht s hs; omega
      have go : ∀ z : Bool, wY_loopsFit_78 post J (wY_loopsFit_44 post J (nI i) (-1) z_made z_depth z_size z_rows z_at z_sendings y_sorts y_froms y_tos y_labels y_firsts y_seconds y_around y_stack y_senders y_receivers y_told y_values y_isSent y_isReceived y_last y_met (q + 1)) (nI i) (-1) (nI t) (pr_bI z) z_made z_depth z_size z_rows z_at z_sendings y_sorts y_froms y_tos y_labels y_firsts y_seconds y_around y_stack y_senders y_receivers y_told y_values y_isSent y_isReceived y_last y_met := by
        intro z
        unfold wY_loopsFit_78
        rw [show (20 : Int32) = nI 20 from rfl, nI_add, nI_clamp (n := 20 + t) (by omega)]
        exact ⟨i40, nm_r g7 (ih (dd_p d t) z hp)⟩
      refine br_f (nI_pos (by omega)) (br_f (pr_nm1 (by omega)) ?_)
      rw [show pr_oI (some t) = nI t from rfl, show (20 : Int32) = nI 20 from rfl, nI_add, nI_clamp (n := 20 + t) (by omega), g1]
      cases b with
      | false => exact br_t rfl ⟨i40, pk_le 3 (dd_k d t) (fun z => go false) (fun z => go true)⟩
      | true => exact br_f (by decide) (go true)
theorem ys_loopsFit {post : Int32 → Prop} (ok : dd_ok d m e st) (D : yr_D d m e st z_made z_depth y_sorts y_froms y_tos y_labels y_firsts y_seconds y_around y_stack) (hn : ∀ j, j < m → dd_n d j < 4) (h1 : dd_fit d m → post 1) (h0 : ¬ dd_fit d m → post 0) : wpY_loopsFit post (z_made, z_depth, z_size, z_rows, z_at, z_sendings, y_sorts, y_froms, y_tos, y_labels, y_firsts, y_seconds, y_around, y_stack, y_senders, y_receivers, y_told, y_values, y_isSent, y_isReceived, y_last, y_met) := by
  have om := ok.1
  have hin := dd_dd_in ok
  have hc := D.1
  subst hc
  refine loop_0 (fun n i (_ : Unit) => wY_loopsFit_2 post (nI m) z_depth z_size z_rows z_at z_sendings y_sorts y_froms y_tos y_labels y_firsts y_seconds y_around y_stack y_senders y_receivers y_told y_values y_isSent y_isReceived y_last y_met n (nI i))
    (fun i _ => ∀ j, j < i → dd_k d j = 4 → ∃ l, dd_up (dd_k d) (dd_n d) (dd_p d) (dd_n d j) 20 (dd_p d j) false = some (l, true)) m () ?_ ?_ ?_
  · intro j hj; omega
  · intro n s hI
    exact br_t (nI_le (by omega) (by omega)) (h1 hI)
  · intro n i s hi hI hk
    have i40 : vp_in (nI (20 + i)) 40 := vp_in_nI (by omega) (by decide)
    obtain ⟨g1, -, -, -, -, -, g7⟩ := D.2.2.1 i hi
    have bk := (ok.2.2.2.2.2.2 i hi).1
    have hp : ∀ t, dd_p d i = some t → t < m ∧ m - t ≤ 20 := fun t ht => by have := hin i hi t ht; omega
    refine br_f (nI_ge hi (by omega)) ?_
    rw [show (20 : Int32) = nI 20 from rfl, nI_add, nI_clamp (n := 20 + i) (by omega), g1]
    refine ⟨i40, pk_eq (dd_k d i) 4 (fun c => ?_) (fun c => nm_r (nI_1 i) (hk () ?_))⟩
    · refine ys_loopOf (k := dd_k d) (x := dd_n d) (p := dd_p d) (m := m) (B := 20) om (by omega) hi c hin hn (fun j hj => (ok.2.2.2.2.2.2 j hj).1) (fun j hj => ?_) ⟨i40, nm_r g7 ⟨20 + 1, ?_⟩⟩
      · obtain ⟨q1, -, q3, -, -, -, q7⟩ := D.2.2.1 j hj
        exact ⟨q1, q3, q7⟩
      · cases hu : dd_up (dd_k d) (dd_n d) (dd_p d) (dd_n d i) 20 (dd_p d i) false with
        | none => exact ys_lf44n ok D (h0 (fun F => by obtain ⟨l, hl⟩ := F i hi c; rw [hu] at hl; exact absurd hl (by simp))) 20 (dd_p d i) false hp
        | some y =>
          obtain ⟨l, b⟩ := y
          have hlm := (dd_up_l hin _ _ _ _ _ (fun t ht => (hp t ht).1) hu).1
          refine ys_lf44 ok D (dd_n d i) ?_ 20 (dd_p d i) false hp hu
          refine br_f (nI_pos (by omega)) ?_
          cases b with
          | false => exact br_t rfl (h0 (fun F => by obtain ⟨l', hl⟩ := F i hi c; rw [hu] at hl; exact absurd hl (by simp)))
          | true =>
            refine br_f (by decide) (nm_r (nI_1 i) (hk () ?_))
            intro j hj k4
            by_cases cj : j = i
            · subst cj; exact ⟨l, hu⟩
            · exact hI j (by omega) k4
    · intro j hj k4
      by_cases cj : j = i
      · subst cj; exact absurd k4 c
      · exact hI j (by omega) k4
end
end PRQ
