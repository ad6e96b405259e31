section
variable {m n : Nat} {w t : Nat → Int32} {M N : Int32}
/-! the component's walks, each against the pure picture -/
theorem xl_let1 {post : Int32 → Prop} {c : Int32} (h : ¬ c < 0 ∧ ¬ 2 < c) (p : post 1) : wpX_isLetter post c := br_f h.1 (br_f h.2 p)
theorem xl_let0 {post : Int32 → Prop} {c : Int32} (h : ¬ (¬ c < 0 ∧ ¬ 2 < c)) (p : post 0) : wpX_isLetter post c := br_c (fun _ => p) (fun a => br_c (fun _ => p) (fun b => absurd ⟨a, b⟩ h))
theorem xl_rl (hm : m ≤ 16) {s k : Nat} (hs : s < m) (hk : k < m) {post : Int32 → Prop} (h : post (w ((s + k) % m))) : wpX_rotationLetter post (nI m, N, w, t) (nI s) (nI k) := by
  rw [tw_rot hs hk] at h
  refine nm_r (nI_add s k) ?_
  refine pk_le m (s + k) (fun z => ⟨pk_in (s + k - m) 16 (by omega) (pk_sub z), ?_⟩) (fun z => ⟨pk_in (s + k) 16 (by omega), ?_⟩)
  · rw [if_neg (by omega)] at h
    rw [pk_cl (s + k - m) (pk_sub z)]
    exact h
  · rw [if_pos z] at h
    rw [tw_cl (k := s + k) (by omega)]
    exact h
theorem xl_ro17 (hm : m ≤ 16) (hn : n ≤ 48) {s i : Nat} (hs : s < m) (hi : i + m ≤ n) {post : Int32 → Prop} (h1 : tw_oc w t m n s i → post 1) (h0 : ¬ tw_oc w t m n s i → post 0) : ∀ d k, k + d = m → (∀ j, j < k → t (i + j) = w ((s + j) % m)) → wX_rotationOccursAt_17 post (nI s) (nI i) (nI m) (nI n) w t (d + 1) (nI k) := by
  intro d
  induction d with
  | zero =>
    intro k hk hj
    exact pk_le m k (fun _ => h1 ⟨by omega, hi, fun j q => hj j (by omega)⟩) (fun z => absurd z (by omega))
  | succ d ih =>
    intro k hk hj
    refine pk_le m k (fun z => absurd z (by omega)) (fun z => ⟨pk_in (i + k) 48 (by omega) (nI_add i k), ?_⟩)
    refine xl_rl hm hs z ?_
    rw [pk_cl (i + k) (nI_add i k)]
    exact br_c (fun e => nm_r (nI_1 k) (ih (k + 1) (by omega) (lt_s (p := fun j => t (i + j) = w ((s + j) % m)) hj e))) (fun e => h0 (fun o => e (o.2.2 k z)))
theorem xl_ro (hm : m ≤ 16) (hn : n ≤ 48) {s i : Nat} (hs : s < m) (hi : i < 2 ^ 30) {post : Int32 → Prop} (h1 : tw_oc w t m n s i → post 1) (h0 : ¬ tw_oc w t m n s i → post 0) : wpX_rotationOccursAt post (nI m, nI n, w, t) (nI s) (nI i) := by
  refine tw_ib (tw_sle hi (by omega) (by omega)) (fun z => ⟨m + 1, ?_⟩) (fun z => h0 (fun o => z o.2.1))
  exact xl_ro17 hm hn hs z h1 h0 m 0 (by omega) (fun j q => absurd q (by omega))
theorem xl_oc (hm : m ≤ 16) (hn : n ≤ 48) {i : Nat} (hi : i < 2 ^ 30) {post : Int32 → Prop} (h1 : tw_oc w t m n 0 i → post 1) (h0 : ¬ tw_oc w t m n 0 i → post 0) : wpX_occursAt post (nI m, nI n, w, t) (nI i) := by
  refine pk_le m 0 (fun z => h0 (fun o => absurd o.1 (by omega))) (fun z => ?_)
  exact xl_ro (s := 0) hm hn z hi (fun o => br_f tw_n1 (h1 o)) (fun o => br_t rfl (h0 o))
theorem xl_occ4 (hm : m ≤ 16) (hn : n ≤ 48) {post : Int32 → Prop} (h : post (nI (tw_cn (tw_oc w t m n 0) n))) : ∀ d i, i + d = n → wX_occurrences_4 post (nI m) (nI n) w t (d + 1) (nI (tw_cn (tw_oc w t m n 0) i)) (nI i) := by
  intro d
  induction d with
  | zero =>
    intro i hi
    refine pk_le n i (fun _ => ?_) (fun z => absurd z (by omega))
    rw [show i = n from by omega]
    exact h
  | succ d ih =>
    intro i hi
    refine pk_le n i (fun z => absurd z (by omega)) (fun z => xl_oc hm hn (by omega) (fun o => br_f tw_n1 ?_) (fun o => br_t rfl ?_))
    · refine nm_r (nI_1 _) (nm_r (nI_1 i) ?_)
      rw [← tw_cn_t (P := tw_oc w t m n 0) (k := i) o]
      exact ih (i + 1) (by omega)
    · refine nm_r (nI_1 i) ?_
      rw [← tw_cn_f (P := tw_oc w t m n 0) (k := i) o]
      exact ih (i + 1) (by omega)
theorem xl_occ (hm : m ≤ 16) (hn : n ≤ 48) {post : Int32 → Prop} (h : post (nI (tw_cn (tw_oc w t m n 0) n))) : wpX_occurrences post (nI m, nI n, w, t) := ⟨n + 1, xl_occ4 hm hn h n 0 (by omega)⟩
theorem xl_nx12 (hm : m ≤ 16) (hn : n ≤ 48) {post : Int32 → Prop} : ∀ d i, i + d = n → post (tw_fs (tw_oc w t m n 0) d i) → wX_next_12 post (nI m) (nI n) w t (d + 1) (nI i) := by
  intro d
  induction d with
  | zero => intro i hi h; exact pk_le n i (fun _ => h) (fun z => absurd z (by omega))
  | succ d ih =>
    intro i hi h
    refine pk_le n i (fun z => absurd z (by omega)) (fun z => xl_oc hm hn (by omega) (fun o => br_f tw_n1 ?_) (fun o => br_t rfl (nm_r (nI_1 i) (ih (i + 1) (by omega) ?_))))
    · rw [tw_fs_t o] at h; exact h
    · rw [tw_fs_f o] at h; exact h
theorem xl_ap6 (hm : m ≤ 16) (hn : n ≤ 48) {D : Nat → Nat} (h0 : ∀ i, n ≤ i → D i = 0) (h1 : ∀ i, i < n → tw_oc w t m n 0 i → D i = tw_mx (D (i + 1)) (1 + D (i + m))) (h2 : ∀ i, i < n → ¬ tw_oc w t m n 0 i → D i = D (i + 1)) {post : Int32 → Prop} : ∀ d p f c, p + d = n → f < 2 ^ 20 → post (nI (c + D (tw_mx p f))) → wX_apart_6 post (nI m) (nI n) w t (d + 1) (nI c) (nI f) (nI p) := by
  intro d
  induction d with
  | zero =>
    intro p f c hp hf h
    refine pk_le n p (fun _ => ?_) (fun z => absurd z (by omega))
    rw [h0 (tw_mx p f) (by rcases tw_mx_in p f with ⟨_, e⟩ | ⟨_, e⟩ <;> omega)] at h
    exact h
  | succ d ih =>
    intro p f c hp hf h
    refine pk_le n p (fun z => absurd z (by omega)) (fun z => pk_lt p f (fun y => nm_r (nI_1 p) (ih (p + 1) f c (by omega) hf ?_)) (fun y => xl_oc hm hn (by omega) (fun o => br_f tw_n1 ?_) (fun o => br_t rfl (nm_r (nI_1 p) (ih (p + 1) f c (by omega) hf ?_)))))
    · rw [tw_mx_l (by omega)] at h
      rw [tw_mx_l (by omega)]
      exact h
    · have q := o.1
      refine nm_r (nI_1 c) (nm_r (nI_add p m) (nm_r (nI_1 p) (ih (p + 1) (p + m) (c + 1) (by omega) (by omega) ?_)))
      rw [tw_mx_r y, tw_D_t tw_oc_in h0 h1 h2 o, ← Nat.add_assoc] at h
      rw [tw_mx_l (by omega)]
      exact h
    · rw [tw_mx_r y, h2 p z o] at h
      rw [tw_mx_r (by omega)]
      exact h
theorem xl_ap (hm : m ≤ 16) (hn : n ≤ 48) {D : Nat → Nat} (h0 : ∀ i, n ≤ i → D i = 0) (h1 : ∀ i, i < n → tw_oc w t m n 0 i → D i = tw_mx (D (i + 1)) (1 + D (i + m))) (h2 : ∀ i, i < n → ¬ tw_oc w t m n 0 i → D i = D (i + 1)) {post : Int32 → Prop} (h : post (nI (D 0))) : wpX_apart post (nI m, nI n, w, t) := by
  refine ⟨n + 1, xl_ap6 hm hn h0 h1 h2 n 0 0 0 (by omega) (by omega) ?_⟩
  rw [tw_mx_l (Nat.le_refl 0), Nat.zero_add]
  exact h
theorem xl_cv6 (hm : m ≤ 16) (hn : n ≤ 48) {post : Int32 → Prop} (h : post (nI (tw_cn (tw_cv w t m n) n))) : ∀ d p b, p + d = n → b < 2 ^ 20 → (∀ j, j < p → tw_oc w t m n 0 j → j + m ≤ b) → (b = 0 ∨ ∃ j, j < p ∧ tw_oc w t m n 0 j ∧ b = j + m) → wX_covered_6 post (nI m) (nI n) w t (d + 1) (nI (tw_cn (tw_cv w t m n) p)) (nI b) (nI p) := by
  intro d
  induction d with
  | zero =>
    intro p b hp hb i1 i2
    refine pk_le n p (fun _ => ?_) (fun z => absurd z (by omega))
    rw [show p = n from by omega]
    exact h
  | succ d ih =>
    intro p b hp hb i1 i2
    have J : ∀ b', b' < 2 ^ 20 → (∀ j, j < p + 1 → tw_oc w t m n 0 j → j + m ≤ b') → (b' = 0 ∨ ∃ j, j < p + 1 ∧ tw_oc w t m n 0 j ∧ b' = j + m) → wX_covered_29 post (wX_covered_6 post (nI m) (nI n) w t (d + 1)) (nI (tw_cn (tw_cv w t m n) p)) (nI b') (nI p) (nI m) (nI n) w t := by
      intro b' hb' j1 j2
      refine pk_le b' p (fun y => nm_r (nI_1 p) ?_) (fun y => nm_r (nI_1 _) (nm_r (nI_1 p) ?_))
      · have q : ¬ tw_cv w t m n p := by
          rintro ⟨i, a, c, o⟩
          have := j1 i (by omega) o
          omega
        rw [← tw_cn_f (P := tw_cv w t m n) (k := p) q]
        exact ih (p + 1) b' (by omega) hb' j1 j2
      · have q : tw_cv w t m n p := by
          rcases j2 with e | ⟨j, a, o, e⟩
          · omega
          · exact ⟨j, by omega, by omega, o⟩
        rw [← tw_cn_t (P := tw_cv w t m n) (k := p) q]
        exact ih (p + 1) b' (by omega) hb' j1 j2
    refine pk_le n p (fun z => absurd z (by omega)) (fun z => xl_oc hm hn (by omega) (fun o => br_f tw_n1 (nm_r (nI_add p m) (J (p + m) (by omega) (fun j a _ => by omega) (Or.inr ⟨p, by omega, o, rfl⟩)))) (fun o => br_t rfl (J b hb (fun j a q => ?_) ?_)))
    · rcases Nat.lt_or_ge j p with y | y
      · exact i1 j y q
      · have e : j = p := by omega
        rw [e] at q
        exact absurd q o
    · rcases i2 with e | ⟨j, a, q, e⟩
      · exact Or.inl e
      · exact Or.inr ⟨j, by omega, q, e⟩
theorem xl_cv (hm : m ≤ 16) (hn : n ≤ 48) {post : Int32 → Prop} (h : post (nI (tw_cn (tw_cv w t m n) n))) : wpX_covered post (nI m, nI n, w, t) := ⟨n + 1, xl_cv6 hm hn h n 0 0 (by omega) (by omega) (fun j q => absurd q (by omega)) (Or.inl rfl)⟩
theorem xl_bo7 {l q : Nat} (hl : l ≤ q) (hq : q ≤ 16) {post : Int32 → Prop} (h1 : tw_bo w l q → post 1) (h0 : ¬ tw_bo w l q → post 0) : ∀ d k, k + d = l → (∀ j, j < k → w j = w (q - l + j)) → wX_isBorder_7 post (nI l) (nI (q - l)) M N w t (d + 1) (nI k) := by
  intro d
  induction d with
  | zero =>
    intro k hk hj
    exact pk_le l k (fun _ => h1 (fun j y => hj j (by omega))) (fun z => absurd z (by omega))
  | succ d ih =>
    intro k hk hj
    refine pk_le l k (fun z => absurd z (by omega)) (fun z => ⟨pk_in k 16 (by omega), pk_in (q - l + k) 16 (by omega) (nI_add _ _), ?_⟩)
    rw [tw_cl (k := k) (by omega), pk_cl (q - l + k) (nI_add _ _)]
    exact br_c (fun e => nm_r (nI_1 k) (ih (k + 1) (by omega) (lt_s (p := fun j => w j = w (q - l + j)) hj e))) (fun e => h0 (fun o => e (o k z)))
theorem xl_bo {l q : Nat} (hl : l ≤ q) (hq : q ≤ 16) {post : Int32 → Prop} (h1 : tw_bo w l q → post 1) (h0 : ¬ tw_bo w l q → post 0) : wpX_isBorder post (M, N, w, t) (nI l) (nI q) := nm_r (pk_sub hl) ⟨l + 1, xl_bo7 hl hq h1 h0 l 0 (by omega) (fun j y => absurd y (by omega))⟩
theorem xl_pe2 (hm : m ≤ 16) {post : Int32 → Prop} : ∀ d q, q + d = m + 1 → post (tw_fs (tw_pe w m) d q) → wX_period_2 post (nI m) N w t (d + 1) (nI q) := by
  intro d
  induction d with
  | zero => intro q hq h; exact pk_lt m q (fun _ => h) (fun z => absurd z (by omega))
  | succ d ih =>
    intro q hq h
    refine pk_lt m q (fun z => absurd z (by omega)) (fun z => ?_)
    rw [pk_sub z]
    refine xl_bo (by omega) hm (fun o => br_f tw_n1 ?_) (fun o => br_t rfl (nm_r (nI_1 q) (ih (q + 1) (by omega) ?_)))
    · rw [tw_fs_t (P := tw_pe w m) (j := q) o] at h; exact h
    · rw [tw_fs_f (P := tw_pe w m) (j := q) o] at h; exact h
theorem xl_pe (hm : m ≤ 16) {post : Int32 → Prop} (h : post (tw_fs (tw_pe w m) m 1)) : wpX_period post (nI m, N, w, t) := ⟨m + 1, xl_pe2 hm m 1 (by omega) h⟩
theorem xl_ps4 (hm : m ≤ 16) {post : Int32 → Prop} (h : post (nI (tw_cn (fun i => tw_pe w m (i + 1)) m))) : ∀ d i, i + d = m → wX_periods_4 post (nI m) N w t (d + 1) (nI (tw_cn (fun i => tw_pe w m (i + 1)) i)) (nI (i + 1)) := by
  intro d
  induction d with
  | zero =>
    intro i hi
    refine pk_lt m (i + 1) (fun _ => ?_) (fun z => absurd z (by omega))
    rw [show i = m from by omega]
    exact h
  | succ d ih =>
    intro i hi
    refine pk_lt m (i + 1) (fun z => absurd z (by omega)) (fun z => ?_)
    rw [pk_sub z]
    refine xl_bo (by omega) hm (fun o => br_f tw_n1 ?_) (fun o => br_t rfl ?_)
    · refine nm_r (nI_1 _) (nm_r (nI_1 (i + 1)) ?_)
      rw [← tw_cn_t (P := fun i => tw_pe w m (i + 1)) (k := i) o]
      exact ih (i + 1) (by omega)
    · refine nm_r (nI_1 (i + 1)) ?_
      rw [← tw_cn_f (P := fun i => tw_pe w m (i + 1)) (k := i) o]
      exact ih (i + 1) (by omega)
theorem xl_ps (hm : m ≤ 16) {post : Int32 → Prop} (h : post (nI (tw_cn (fun i => tw_pe w m (i + 1)) m))) : wpX_periods post (nI m, N, w, t) := ⟨m + 1, xl_ps4 hm h m 0 (by omega)⟩
theorem xl_br20 {k : Nat} (hk : k ≤ 16) {post : Int32 → Prop} : ∀ l, l < k → post (nI (tw_ls 0 (tw_bp w k) l)) → wX_border_20 post (nI k) M N w t (l + 1) (nI l) := by
  intro l
  induction l with
  | zero => intro _ h; exact pk_le 0 0 (fun _ => h) (fun z => absurd z (by omega))
  | succ l ih =>
    intro hl h
    refine pk_le (l + 1) 0 (fun z => absurd z (by omega)) (fun z => xl_bo (by omega) hk (fun o => br_f tw_n1 ?_) (fun o => br_t rfl (nm_r (pk_m1 l) (ih (by omega) ?_))))
    · rw [tw_ls_t (P := tw_bp w k) (l := l) o] at h; exact h
    · rw [tw_ls_f (P := tw_bp w k) (l := l) o] at h; exact h
theorem xl_pb8 {o : Int32} {a b e : Nat} (hab : a < b) (he : e ≤ 16) {post : Int32 → Prop} (h1 : tw_be w o e a b → post 1) (h0 : ¬ tw_be w o e a b → post 0) : ∀ d k, b + k + d = e → (∀ j, j < k → w (a + j) = w (b + j)) → wX_partComesBefore_8 post (nI e) o (nI (b - a)) M N w t (d + 1) (nI (b + k)) := by
  intro d
  induction d with
  | zero =>
    intro k hk hj
    refine pk_le e (b + k) (fun _ => h0 ?_) (fun z => absurd z (by omega))
    rintro ⟨q, y, _, hne, _⟩
    exact hne (hj q (by omega))
  | succ d ih =>
    intro k hk hj
    have ex : nI (b + k) - nI (b - a) = nI (a + k) := by
      rw [pk_sub (by omega)]
      exact congrArg nI (by omega)
    have e2 : w (nI (b + k) - nI (b - a)).toNatClampNeg = w (a + k) := by rw [ex, tw_cl (by omega)]
    have e3 : w (nI (b + k)).toNatClampNeg = w (b + k) := by rw [tw_cl (by omega)]
    refine pk_le e (b + k) (fun z => absurd z (by omega)) (fun z => ⟨pk_in (a + k) 16 (by omega) ex, nm_r e2 ⟨pk_in (b + k) 16 (by omega), nm_r e3 ?_⟩⟩)
    refine br_c (fun q => nm_r (nI_1 (b + k)) (ih (k + 1) (by omega) (lt_s (p := fun j => w (a + j) = w (b + j)) hj q))) (fun q => ?_)
    have T := tw_be_at (o := o) z hj q
    refine br_c (fun y => br_c (fun g => h0 (fun x => ?_)) (fun g => h1 (T.mpr ⟨fun _ => Int32.not_le.mp g, fun x => absurd y x⟩))) (fun y => br_c (fun g => h0 (fun x => ?_)) (fun g => h1 (T.mpr ⟨fun x => absurd x y, fun _ => Int32.not_le.mp g⟩)))
    · exact absurd ((T.mp x).1 y) (Int32.not_lt.mpr g)
    · exact absurd ((T.mp x).2 y) (Int32.not_lt.mpr g)
theorem xl_pb {o : Int32} {a b e : Nat} (hab : a < b) (hb : b ≤ e) (he : e ≤ 16) {post : Int32 → Prop} (h1 : tw_be w o e a b → post 1) (h0 : ¬ tw_be w o e a b → post 0) : wpX_partComesBefore post (M, N, w, t) (nI a) (nI b) (nI e) o := nm_r (pk_sub (by omega)) ⟨e - b + 1, xl_pb8 hab he h1 h0 (e - b) 0 (by omega) (fun j y => absurd y (by omega))⟩
theorem xl_ge25 (hm : m ≤ 16) {o : Int32} {post : Int32 → Prop} (h : post (nI (tw_bs (tw_be w o m) (m - 1)))) : ∀ d i, i + 1 + d = m → wX_greatestEnd_25 post o (nI m) N w t (d + 1) (nI (tw_bs (tw_be w o m) i)) (nI (i + 1)) := by
  intro d
  induction d with
  | zero =>
    intro i hi
    refine pk_le m (i + 1) (fun _ => ?_) (fun z => absurd z (by omega))
    rw [show i = m - 1 from by omega]
    exact h
  | succ d ih =>
    intro i hi
    have le := tw_bs_le (tw_be w o m) i
    refine pk_le m (i + 1) (fun z => absurd z (by omega)) (fun z => xl_pb (by omega) (by omega) hm (fun q => br_f tw_n1 (nm_r (nI_1 (i + 1)) ?_)) (fun q => br_t rfl (nm_r (nI_1 (i + 1)) ?_)))
    · have g := ih (i + 1) (by omega)
      rw [tw_bs_t (B := tw_be w o m) (i := i) q] at g
      exact g
    · have g := ih (i + 1) (by omega)
      rw [tw_bs_f (B := tw_be w o m) (i := i) q] at g
      exact g
theorem xl_rb2 (hm : m ≤ 16) {a b : Nat} (ha : a < m) (hb : b < m) {post : Int32 → Prop} (h1 : tw_ro w m a b → post 1) (h0 : ¬ tw_ro w m a b → post 0) : ∀ d k, k + d = m → (∀ j, j < k → w ((a + j) % m) = w ((b + j) % m)) → wX_rotationComesBefore_2 post (nI a) (nI b) (nI m) N w t (d + 1) (nI k) := by
  intro d
  induction d with
  | zero =>
    intro k hk hj
    refine pk_le m k (fun _ => h0 ?_) (fun z => absurd z (by omega))
    rintro ⟨q, y, _, hne, _⟩
    exact hne (hj q (by omega))
  | succ d ih =>
    intro k hk hj
    refine pk_le m k (fun z => absurd z (by omega)) (fun z => xl_rl hm ha z (xl_rl hm hb z ?_))
    refine br_c (fun e => nm_r (nI_1 k) (ih (k + 1) (by omega) (lt_s (p := fun j => w ((a + j) % m) = w ((b + j) % m)) hj e))) (fun e => br_c (fun g => h0 (fun x => ?_)) (fun g => h1 ?_))
    · exact absurd ((tw_ro_at z hj e).mp x) (Int32.not_lt.mpr g)
    · exact (tw_ro_at z hj e).mpr (Int32.not_le.mp g)
theorem xl_rb (hm : m ≤ 16) {a b : Nat} (ha : a < m) (hb : b < m) {post : Int32 → Prop} (h1 : tw_ro w m a b → post 1) (h0 : ¬ tw_ro w m a b → post 0) : wpX_rotationComesBefore post (nI m, N, w, t) (nI a) (nI b) := ⟨m + 1, xl_rb2 hm ha hb h1 h0 m 0 (by omega) (fun j y => absurd y (by omega))⟩
theorem xl_lr14 (hm : m ≤ 16) {post : Int32 → Prop} (h : post (nI (tw_bs (fun a b => tw_ro w m b a) (m - 1)))) : ∀ d i, i + 1 + d = m → wX_leastRotation_14 post (nI m) N w t (d + 1) (nI (tw_bs (fun a b => tw_ro w m b a) i)) (nI (i + 1)) := by
  intro d
  induction d with
  | zero =>
    intro i hi
    refine pk_le m (i + 1) (fun _ => ?_) (fun z => absurd z (by omega))
    rw [show i = m - 1 from by omega]
    exact h
  | succ d ih =>
    intro i hi
    have le := tw_bs_le (fun a b => tw_ro w m b a) i
    refine pk_le m (i + 1) (fun z => absurd z (by omega)) (fun z => xl_rb hm (by omega) (by omega) (fun q => br_f tw_n1 (nm_r (nI_1 (i + 1)) ?_)) (fun q => br_t rfl (nm_r (nI_1 (i + 1)) ?_)))
    · have g := ih (i + 1) (by omega)
      rw [tw_bs_t (B := fun a b => tw_ro w m b a) (i := i) q] at g
      exact g
    · have g := ih (i + 1) (by omega)
      rw [tw_bs_f (B := fun a b => tw_ro w m b a) (i := i) q] at g
      exact g
end
