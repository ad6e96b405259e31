section
variable {m n : Nat} {w t mo : Nat → Int32} {M N : Int32}
theorem yl_pe2 (hm : m ≤ 16) {q : Nat} (hq : q ≤ m) {post : Int32 → Prop} (h1 : tw_pe w m q → post 1) (h0 : ¬ tw_pe w m q → post 0) : ∀ d k, k + d = m - q → (∀ j, j < k → w j = w (m - (m - q) + j)) → wY_isPeriod_2 post (nI q) (nI m) N w t mo (d + 1) (nI k) := by
  intro d
  induction d with
  | zero =>
    intro k hk hj
    exact pk_le (m - q) k (fun _ => h1 (fun j y => hj j (by omega))) (fun z => absurd z (by omega)) (pk_sub hq)
  | succ d ih =>
    intro k hk hj
    refine pk_le (m - q) k (fun z => absurd z (by omega)) (fun z => ⟨pk_in k 16 (by omega), pk_in (k + q) 16 (by omega) (nI_add _ _), ?_⟩) (pk_sub hq)
    rw [tw_cl (k := k) (by omega), pk_cl (k + q) (nI_add _ _), show k + q = m - (m - q) + k from by omega]
    exact br_c (fun e => nm_r (nI_1 k) (ih (k + 1) (by omega) (lt_s (p := fun j => w j = w (m - (m - q) + j)) hj e))) (fun e => h0 (fun o => e (o k z)))
theorem yl_pq (hm : m ≤ 16) {q : Nat} (hq : q ≤ m) {post : Int32 → Prop} (h1 : tw_pe w m q → post 1) (h0 : ¬ tw_pe w m q → post 0) : wpY_isPeriod post (nI m, N, w, t, mo) (nI q) := ⟨m - q + 1, yl_pe2 hm hq h1 h0 (m - q) 0 (by omega) (fun j y => absurd y (by omega))⟩
theorem yl_pp2 (hm : m ≤ 16) {post : Int32 → Prop} : ∀ d q, q + d = m + 1 → post (tw_fs (tw_pe w m) d q) → wY_period_2 post (nI m) N w t mo (d + 1) (nI q) := by
  intro d
  induction d with
  | zero => intro q hq h; exact pk_lt m q (fun _ => h) (fun z => absurd z (by omega))
  | succ d ih =>
    intro q hq h
    refine pk_lt m q (fun z => absurd z (by omega)) (fun z => yl_pq hm z (fun o => br_f tw_n1 ?_) (fun o => br_t rfl (nm_r (nI_1 q) (ih (q + 1) (by omega) ?_))))
    · rw [tw_fs_t (P := tw_pe w m) (j := q) o] at h; exact h
    · rw [tw_fs_f (P := tw_pe w m) (j := q) o] at h; exact h
theorem yl_pe (hm : m ≤ 16) {post : Int32 → Prop} (h : post (tw_fs (tw_pe w m) m 1)) : wpY_period post (nI m, N, w, t, mo) := ⟨m + 1, yl_pp2 hm m 1 (by omega) h⟩
theorem yl_ps4 (hm : m ≤ 16) {post : Int32 → Prop} (h : post (nI (tw_cn (fun i => tw_pe w m (i + 1)) m))) : ∀ d i, i + d = m → wY_periods_4 post (nI m) N w t mo (d + 1) (nI (tw_cn (fun i => tw_pe w m (i + 1)) i)) (nI (i + 1)) := by
  intro d
  induction d with
  | zero =>
    intro i hi
    refine pk_lt m (i + 1) (fun _ => ?_) (fun z => absurd z (by omega))
    rw [show i = m from by omega]
    exact h
  | succ d ih =>
    intro i hi
    refine pk_lt m (i + 1) (fun z => absurd z (by omega)) (fun z => yl_pq hm z (fun o => br_f tw_n1 ?_) (fun o => br_t rfl ?_))
    · refine nm_r (nI_1 _) (nm_r (nI_1 (i + 1)) ?_)
      rw [← tw_cn_t (P := fun i => tw_pe w m (i + 1)) (k := i) o]
      exact ih (i + 1) (by omega)
    · refine nm_r (nI_1 (i + 1)) ?_
      rw [← tw_cn_f (P := fun i => tw_pe w m (i + 1)) (k := i) o]
      exact ih (i + 1) (by omega)
theorem yl_ps (hm : m ≤ 16) {post : Int32 → Prop} (h : post (nI (tw_cn (fun i => tw_pe w m (i + 1)) m))) : wpY_periods post (nI m, N, w, t, mo) := ⟨m + 1, yl_ps4 hm h m 0 (by omega)⟩
theorem yl_bo2 {l q : Nat} (hl : l ≤ q) (hq : q ≤ 16) {post : Int32 → Prop} (h1 : tw_bo w l q → post 1) (h0 : ¬ tw_bo w l q → post 0) : ∀ d k, k + d = l → (∀ j, j < k → w j = w (q - l + j)) → wY_isBorder_2 post (nI q) (nI l) M N w t mo (d + 1) (nI k) := by
  intro d
  induction d with
  | zero =>
    intro k hk hj
    exact pk_le l k (fun _ => h1 (fun j y => hj j (by omega))) (fun z => absurd z (by omega))
  | succ d ih =>
    intro k hk hj
    have e : nI q - nI l + nI k = nI (q - l + k) := by rw [pk_sub hl, nI_add]
    refine pk_le l k (fun z => absurd z (by omega)) (fun z => ⟨pk_in k 16 (by omega), pk_in (q - l + k) 16 (by omega) e, ?_⟩)
    rw [tw_cl (k := k) (by omega), pk_cl (q - l + k) e]
    exact br_c (fun e => nm_r (nI_1 k) (ih (k + 1) (by omega) (lt_s (p := fun j => w j = w (q - l + j)) hj e))) (fun e => h0 (fun o => e (o k z)))
theorem yl_bo {l q : Nat} (hl : l ≤ q) (hq : q ≤ 16) {post : Int32 → Prop} (h1 : tw_bo w l q → post 1) (h0 : ¬ tw_bo w l q → post 0) : wpY_isBorder post (M, N, w, t, mo) (nI q) (nI l) := ⟨l + 1, yl_bo2 hl hq h1 h0 l 0 (by omega) (fun j y => absurd y (by omega))⟩
theorem yl_br20 {k : Nat} (hk : k ≤ 16) {post : Int32 → Prop} (h : post (nI (tw_ls 0 (tw_bp w k) (k - 1)))) : ∀ d l, l + 1 + d = k → wY_border_20 post (nI k) M N w t mo (d + 1) (nI (tw_ls 0 (tw_bp w k) l)) (nI (l + 1)) := by
  intro d
  induction d with
  | zero =>
    intro l hl
    refine pk_le k (l + 1) (fun _ => ?_) (fun z => absurd z (by omega))
    rw [show l = k - 1 from by omega]
    exact h
  | succ d ih =>
    intro l hl
    refine pk_le k (l + 1) (fun z => absurd z (by omega)) (fun z => yl_bo (by omega) hk (fun o => br_f tw_n1 (nm_r (nI_1 (l + 1)) ?_)) (fun o => br_t rfl (nm_r (nI_1 (l + 1)) ?_)))
    · have g := ih (l + 1) (by omega)
      rw [tw_ls_t (P := tw_bp w k) (l := l) o] at g
      exact g
    · have g := ih (l + 1) (by omega)
      rw [tw_ls_f (P := tw_bp w k) (l := l) o] at g
      exact g
theorem yl_be87 {a b e : Nat} (hab : a < b) (hb : b ≤ e) (he : e ≤ 16) {post : Int32 → Prop} (h : post 0) : wY_before_87 post (nI a) (nI b) (nI e) M N w t mo := pk_le (e - b) (e - a) (fun _ => h) (fun z => absurd z (by omega)) (pk_sub hb) (pk_sub (by omega))
theorem yl_be3 {o : Int32} {a b e : Nat} (hab : a < b) (hb : b ≤ e) (he : e ≤ 16) {post : Int32 → Prop} (h1 : tw_be w o e a b → post 1) (h0 : ¬ tw_be w o e a b → post 0) : ∀ d k, b + k + d = e → (∀ j, j < k → w (a + j) = w (b + j)) → wY_before_3 post (nI a) (nI b) (nI e) o M N w t mo (d + 1) (nI k) := by
  intro d
  induction d with
  | zero =>
    intro k hk hj
    have q : ¬ tw_be w o e a b := by
      rintro ⟨q, y, _, hne, _⟩
      exact hne (hj q (by omega))
    exact br_c (fun _ => yl_be87 hab hb he (h0 q)) (fun _ => pk_le e (b + k) (fun _ => yl_be87 hab hb he (h0 q)) (fun z => absurd z (by omega)) rfl (nI_add b k))
  | succ d ih =>
    intro k hk hj
    have e2 : w (nI a + nI k).toNatClampNeg = w (a + k) := by rw [pk_cl (a + k) (nI_add a k)]
    have e3 : w (nI b + nI k).toNatClampNeg = w (b + k) := by rw [pk_cl (b + k) (nI_add b k)]
    refine pk_le e (a + k) (fun z => absurd z (by omega)) (fun _ => pk_le e (b + k) (fun z => absurd z (by omega)) (fun z => ⟨pk_in (a + k) 16 (by omega) (nI_add a k), nm_r e2 ⟨pk_in (b + k) 16 (by omega) (nI_add b k), nm_r e3 ?_⟩⟩) rfl (nI_add b k)) rfl (nI_add a k)
    refine br_c (fun q => nm_r (nI_1 k) (ih (k + 1) (by omega) (lt_s (p := fun j => w (a + j) = w (b + j)) hj q))) (fun q => ?_)
    have T := tw_be_at (o := o) z hj q
    refine br_c (fun y => br_c (fun g => h0 (fun x => ?_)) (fun g => h1 (T.mpr ⟨fun _ => Int32.not_le.mp g, fun x => absurd y x⟩))) (fun y => br_c (fun g => h0 (fun x => ?_)) (fun g => h1 (T.mpr ⟨fun x => absurd x y, fun _ => Int32.not_le.mp g⟩)))
    · exact absurd ((T.mp x).1 y) (Int32.not_lt.mpr g)
    · exact absurd ((T.mp x).2 y) (Int32.not_lt.mpr g)
theorem yl_be {o : Int32} {a b e : Nat} (hab : a < b) (hb : b ≤ e) (he : e ≤ 16) {post : Int32 → Prop} (h1 : tw_be w o e a b → post 1) (h0 : ¬ tw_be w o e a b → post 0) : wpY_before post (M, N, w, t, mo) (nI a) (nI b) (nI e) o := ⟨e - b + 1, yl_be3 hab hb he h1 h0 (e - b) 0 (by omega) (fun j y => absurd y (by omega))⟩
theorem yl_ge15 (hm : m ≤ 16) (hm0 : 0 < m) {o : Int32} {post : Int32 → Prop} (h : post (nI (tw_bs (tw_be w o m) (m - 1)))) : ∀ d i, i + 1 + d = m → wY_greatestEnd_15 post o (nI m) N w t mo (d + 1) (nI (tw_bs (tw_be w o m) i)) (nI (i + 1)) := by
  intro d
  induction d with
  | zero =>
    intro i hi
    refine pk_le m (i + 1) (fun _ => br_f (nI_ne0 hm0 (by omega)) ?_) (fun z => absurd z (by omega))
    rw [show i = m - 1 from by omega]
    exact h
  | succ d ih =>
    intro i hi
    have le := tw_bs_le (tw_be w o m) i
    refine pk_le m (i + 1) (fun z => absurd z (by omega)) (fun z => yl_be (by omega) (by omega) hm (fun q => br_f tw_n1 (nm_r (nI_1 (i + 1)) ?_)) (fun q => br_t rfl (nm_r (nI_1 (i + 1)) ?_)))
    · have g := ih (i + 1) (by omega)
      rw [tw_bs_t (B := tw_be w o m) (i := i) q] at g
      exact g
    · have g := ih (i + 1) (by omega)
      rw [tw_bs_f (B := tw_be w o m) (i := i) q] at g
      exact g
theorem yl_rb2 (hm : m ≤ 16) (hm0 : 0 < m) {a b : Nat} (ha : a ≤ 16) (hb : b ≤ 16) {post : Int32 → Prop} (h1 : tw_ro w m a b → post 1) (h0 : ¬ tw_ro w m a b → post 0) : ∀ d k, k + d = m → (∀ j, j < k → w ((a + j) % m) = w ((b + j) % m)) → wY_rotationBefore_2 post (nI a) (nI b) (nI m) N w t mo (d + 1) (nI k) := by
  intro d
  induction d with
  | zero =>
    intro k hk hj
    refine pk_le m k (fun _ => h0 ?_) (fun z => absurd z (by omega))
    rintro ⟨q, y, _, hne, _⟩
    exact hne (hj q (by omega))
  | succ d ih =>
    intro k hk hj
    have ra : (a + k) % m < m := Nat.mod_lt _ hm0
    have rb : (b + k) % m < m := Nat.mod_lt _ hm0
    have ea := yl_rm (s := a) (k := k) hm0 hm ha (by omega)
    have eb := yl_rm (s := b) (k := k) hm0 hm hb (by omega)
    refine pk_le m k (fun z => absurd z (by omega)) (fun z => ⟨nI_ne0 hm0 (by omega), pk_in ((a + k) % m) 16 (by omega) ea, nm_r (congrArg w (pk_cl ((a + k) % m) ea)) ⟨nI_ne0 hm0 (by omega), pk_in ((b + k) % m) 16 (by omega) eb, nm_r (congrArg w (pk_cl ((b + k) % m) eb)) ?_⟩⟩)
    refine br_c (fun e => nm_r (nI_1 k) (ih (k + 1) (by omega) (lt_s (p := fun j => w ((a + j) % m) = w ((b + j) % m)) hj e))) (fun e => br_c (fun g => h0 (fun x => ?_)) (fun g => h1 ?_))
    · exact absurd ((tw_ro_at z hj e).mp x) (Int32.not_lt.mpr g)
    · exact (tw_ro_at z hj e).mpr (Int32.not_le.mp g)
theorem yl_rb (hm : m ≤ 16) (hm0 : 0 < m) {a b : Nat} (ha : a ≤ 16) (hb : b ≤ 16) {post : Int32 → Prop} (h1 : tw_ro w m a b → post 1) (h0 : ¬ tw_ro w m a b → post 0) : wpY_rotationBefore post (nI m, N, w, t, mo) (nI a) (nI b) := ⟨m + 1, yl_rb2 hm hm0 ha hb h1 h0 m 0 (by omega) (fun j y => absurd y (by omega))⟩
theorem yl_lr4 (hm : m ≤ 16) (hm0 : 0 < m) {post : Int32 → Prop} (h : post (nI (tw_bs (fun a b => tw_ro w m b a) (m - 1)))) : ∀ d i, i + 1 + d = m → wY_leastRotation_4 post (nI m) N w t mo (d + 1) (nI (tw_bs (fun a b => tw_ro w m b a) i)) (nI (i + 1)) := by
  intro d
  induction d with
  | zero =>
    intro i hi
    refine pk_le m (i + 1) (fun _ => br_f (nI_ne0 hm0 (by omega)) ?_) (fun z => absurd z (by omega))
    rw [show i = m - 1 from by omega]
    exact h
  | succ d ih =>
    intro i hi
    have le := tw_bs_le (fun a b => tw_ro w m b a) i
    refine pk_le m (i + 1) (fun z => absurd z (by omega)) (fun z => yl_rb hm hm0 (by omega) (by omega) (fun q => br_f tw_n1 (nm_r (nI_1 (i + 1)) ?_)) (fun q => br_t rfl (nm_r (nI_1 (i + 1)) ?_)))
    · have g := ih (i + 1) (by omega)
      rw [tw_bs_t (B := fun a b => tw_ro w m b a) (i := i) q] at g
      exact g
    · have g := ih (i + 1) (by omega)
      rw [tw_bs_f (B := fun a b => tw_ro w m b a) (i := i) q] at g
      exact g
theorem yl_ly4 {s e : Nat} (hse : s < e) (he : e ≤ 16) {post : Int32 → Prop} (h1 : tw_ly w s e → post 1) (h0 : ¬ tw_ly w s e → post 0) : ∀ d i, s < i → i + d = e → (∀ j, s < j → j < i → tw_be w 0 e s j) → wY_isLyndon_4 post (nI s) (nI e) M N w t mo (d + 1) (nI i) := by
  intro d
  induction d with
  | zero =>
    intro i hs hi hj
    exact pk_le e i (fun _ => pk_le e s (fun z => absurd z (by omega)) (fun _ => h1 (fun j a b => hj j a (by omega)))) (fun z => absurd z (by omega))
  | succ d ih =>
    intro i hs hi hj
    refine pk_le e i (fun z => absurd z (by omega)) (fun z => yl_be hs (by omega) he (fun q => br_f tw_n1 (nm_r (nI_1 i) (ih (i + 1) (by omega) (by omega) (fun j a b => ?_)))) (fun q => br_t rfl (h0 (fun y => q (y i hs z)))))
    rcases Nat.lt_or_ge j i with y | y
    · exact hj j a y
    · have e : j = i := by omega
      rw [e]
      exact q
theorem yl_ly {s e : Nat} (hs : s < e) (he : e ≤ 16) {post : Int32 → Prop} (h1 : tw_ly w s e → post 1) (h0 : ¬ tw_ly w s e → post 0) : wpY_isLyndon post (M, N, w, t, mo) (nI s) (nI e) := nm_r (nI_1 s) ⟨e - (s + 1) + 1, yl_ly4 hs he h1 h0 (e - (s + 1)) (s + 1) (by omega) (by omega) (fun j a b => absurd a (by omega))⟩
theorem yl_fe8 (hm : m ≤ 16) {s : Nat} (hs : s < m) {post : Int32 → Prop} (h : post (nI (s + tw_L w m s))) : ∀ d l, s + l + d = m → wY_factorEnd_8 post (nI s) (nI m) N w t mo (d + 1) (nI (s + tw_ls 1 (tw_lp w s) l)) (nI (s + l + 1)) := by
  intro d
  induction d with
  | zero =>
    intro l hl
    refine pk_lt m (s + l + 1) (fun _ => ?_) (fun z => absurd z (by omega))
    rw [show l = m - s from by omega]
    exact h
  | succ d ih =>
    intro l hl
    refine pk_lt m (s + l + 1) (fun z => absurd z (by omega)) (fun z => yl_ly (by omega) (by omega) (fun q => br_f tw_n1 (nm_r (nI_1 (s + l + 1)) ?_)) (fun q => br_t rfl (nm_r (nI_1 (s + l + 1)) ?_)))
    · have g := ih (l + 1) (by omega)
      rw [tw_ls_t (P := tw_lp w s) (l := l) q] at g
      exact g
    · have g := ih (l + 1) (by omega)
      rw [tw_ls_f (P := tw_lp w s) (l := l) q] at g
      exact g
theorem yl_fe (hm : m ≤ 16) {s : Nat} (hs : s < m) {post : Int32 → Prop} (h : post (nI (s + tw_L w m s))) : wpY_factorEnd post (nI m, N, w, t, mo) (nI s) := nm_r (nI_1 s) (nm_r (nI_1 s) ⟨m - s + 1, yl_fe8 hm hs h (m - s) 0 (by omega)⟩)
theorem yl_fa4 (hm : m ≤ 16) {F : Nat → Nat} (h0 : ∀ s, m ≤ s → F s = 0) (h1 : ∀ s, s < m → F s = F (s + tw_L w m s) + 1) {post : Int32 → Prop} : ∀ d s c, m ≤ s + d → s ≤ m → post (nI (c + F s)) → wY_factors_4 post (nI m) N w t mo (d + 1) (nI c) (nI s) := by
  intro d
  induction d with
  | zero =>
    intro s c hs hs' h
    refine pk_le m s (fun _ => ?_) (fun z => absurd z (by omega))
    rw [h0 s (by omega)] at h
    exact h
  | succ d ih =>
    intro s c hs hs' h
    refine pk_le m s (fun z => ?_) (fun z => yl_fe hm z (nm_r (nI_1 c) ?_))
    · rw [h0 s z] at h
      exact h
    · have q := tw_L_in w z
      refine ih (s + tw_L w m s) (c + 1) (by omega) (by omega) ?_
      rw [h1 s z] at h
      rw [show c + 1 + F (s + tw_L w m s) = c + (F (s + tw_L w m s) + 1) from by omega]
      exact h
theorem yl_fa (hm : m ≤ 16) {F : Nat → Nat} (h0 : ∀ s, m ≤ s → F s = 0) (h1 : ∀ s, s < m → F s = F (s + tw_L w m s) + 1) {post : Int32 → Prop} (h : post (nI (F 0))) : wpY_factors post (nI m, N, w, t, mo) := by
  refine ⟨m + 1, yl_fa4 hm h0 h1 m 0 0 (by omega) (by omega) ?_⟩
  rw [Nat.zero_add]
  exact h
theorem yl_fr4 (hm : m ≤ 16) {i : Int32} {G : Nat → Nat → Int32} (h0 : ∀ s c, m ≤ s → G s c = -4) (h1 : ∀ s c, s < m → nI c = i → G s c = nI (tw_L w m s)) (h2 : ∀ s c, s < m → ¬ nI c = i → G s c = G (s + tw_L w m s) (c + 1)) {post : Int32 → Prop} : ∀ d s c, m ≤ s + d → s ≤ m → post (G s c) → wY_factor_4 post i (nI m) N w t mo (d + 1) (nI c) (nI s) := by
  intro d
  induction d with
  | zero =>
    intro s c hs hs' h
    refine pk_le m s (fun _ => ?_) (fun z => absurd z (by omega))
    rw [h0 s c (by omega)] at h
    exact h
  | succ d ih =>
    intro s c hs hs' h
    refine pk_le m s (fun z => ?_) (fun z => yl_fe hm z (br_c (fun g => ?_) (fun g => nm_r (nI_1 c) ?_)))
    · rw [h0 s c z] at h
      exact h
    · rw [h1 s c z g] at h
      rw [pk_sub (by omega), show s + tw_L w m s - s = tw_L w m s from by omega]
      exact h
    · have q := tw_L_in w z
      refine ih (s + tw_L w m s) (c + 1) (by omega) (by omega) ?_
      rw [h2 s c z g] at h
      exact h
theorem yl_if2 (hm : m ≤ 16) (hn : n ≤ 48) {s : Nat} (hs : s ≤ 16) {post : Int32 → Prop} (h1 : tw_fd w t m n s → post 1) (h0 : ¬ tw_fd w t m n s → post 0) : ∀ d i, i + d = n → (∀ j, j < i → ¬ tw_oc w t m n s j) → wY_isFound_2 post (nI s) (nI m) (nI n) w t mo (d + 1) (nI i) := by
  intro d
  induction d with
  | zero =>
    intro i hi hj
    refine pk_le n i (fun _ => h0 ?_) (fun z => absurd z (by omega))
    rintro ⟨j, a, b⟩
    exact hj j (by omega) b
  | succ d ih =>
    intro i hi hj
    exact pk_le n i (fun z => absurd z (by omega)) (fun z => yl_st hm hn hs (by omega) (fun o => br_f tw_n1 (h1 ⟨i, z, o⟩)) (fun o => br_t rfl (nm_r (nI_1 i) (ih (i + 1) (by omega) (lt_s (p := fun j => ¬ tw_oc w t m n s j) hj o)))))
theorem yl_if (hm : m ≤ 16) (hn : n ≤ 48) {s : Nat} (hs : s ≤ 16) {post : Int32 → Prop} (h1 : tw_fd w t m n s → post 1) (h0 : ¬ tw_fd w t m n s → post 0) : wpY_isFound post (nI m, nI n, w, t, mo) (nI s) := ⟨n + 1, yl_if2 hm hn hs h1 h0 n 0 (by omega) (fun j y => absurd y (by omega))⟩
theorem yl_rf4 (hm : m ≤ 16) (hn : n ≤ 48) {post : Int32 → Prop} (h : post (nI (tw_cn (tw_fd w t m n) m))) : ∀ d i, i + d = m → wY_rotationsFound_4 post (nI m) (nI n) w t mo (d + 1) (nI (tw_cn (tw_fd w t m n) i)) (nI i) := by
  intro d
  induction d with
  | zero =>
    intro i hi
    refine pk_le m i (fun _ => ?_) (fun z => absurd z (by omega))
    rw [show i = m from by omega]
    exact h
  | succ d ih =>
    intro i hi
    refine pk_le m i (fun z => absurd z (by omega)) (fun z => yl_if hm hn (by omega) (fun o => br_f tw_n1 ?_) (fun o => br_t rfl ?_))
    · refine nm_r (nI_1 _) (nm_r (nI_1 i) ?_)
      rw [← tw_cn_t (P := tw_fd w t m n) (k := i) o]
      exact ih (i + 1) (by omega)
    · refine nm_r (nI_1 i) ?_
      rw [← tw_cn_f (P := tw_fd w t m n) (k := i) o]
      exact ih (i + 1) (by omega)
theorem yl_rf (hm : m ≤ 16) (hn : n ≤ 48) {post : Int32 → Prop} (h : post (nI (tw_cn (tw_fd w t m n) m))) : wpY_rotationsFound post (nI m, nI n, w, t, mo) := ⟨m + 1, yl_rf4 hm hn h m 0 (by omega)⟩
theorem yl_en2 (hn : n ≤ 48) {l : Nat} (hl : l ≤ n) (hl' : l ≤ 16) {post : Int32 → Prop} (h1 : tw_en w t n l → post 1) (h0 : ¬ tw_en w t n l → post 0) : ∀ d k, k + d = l → (∀ j, j < k → t (n - l + j) = w j) → wY_endsWith_2 post (nI l) M (nI n) w t mo (d + 1) (nI k) := by
  intro d
  induction d with
  | zero =>
    intro k hk hj
    exact pk_le l k (fun _ => h1 (fun j y => hj j (by omega))) (fun z => absurd z (by omega))
  | succ d ih =>
    intro k hk hj
    have e : nI n - nI l + nI k = nI (n - l + k) := by rw [pk_sub hl, nI_add]
    refine pk_le l k (fun z => absurd z (by omega)) (fun z => ⟨pk_in (n - l + k) 48 (by omega) e, pk_in k 16 (by omega), ?_⟩)
    rw [tw_cl (k := k) (by omega), pk_cl (n - l + k) e]
    exact br_c (fun e => nm_r (nI_1 k) (ih (k + 1) (by omega) (lt_s (p := fun j => t (n - l + j) = w j) hj e))) (fun e => h0 (fun o => e (o k z)))
theorem yl_en (hn : n ≤ 48) {l : Nat} (hl : l ≤ n) (hl' : l ≤ 16) {post : Int32 → Prop} (h1 : tw_en w t n l → post 1) (h0 : ¬ tw_en w t n l → post 0) : wpY_endsWith post (M, nI n, w, t, mo) (nI l) := ⟨l + 1, yl_en2 hn hl hl' h1 h0 l 0 (by omega) (fun j y => absurd y (by omega))⟩
theorem yl_ov4 (hm : m ≤ 16) (hn : n ≤ 48) {K : Nat} (hK1 : K ≤ m) (hK2 : K ≤ n) (hK : m ≤ K ∨ n ≤ K) {post : Int32 → Prop} (h : post (nI (tw_ls 0 (tw_en w t n) K))) : ∀ d l, l + d = K → wY_overlap_4 post (nI m) (nI n) w t mo (d + 1) (nI (tw_ls 0 (tw_en w t n) l)) (nI (l + 1)) := by
  intro d
  induction d with
  | zero =>
    intro l hl
    rw [show l = K from by omega]
    exact pk_lt m (K + 1) (fun _ => h) (fun y => pk_lt n (K + 1) (fun _ => h) (fun z => absurd z (by omega)))
  | succ d ih =>
    intro l hl
    refine pk_lt m (l + 1) (fun z => absurd z (by omega)) (fun y => pk_lt n (l + 1) (fun z => absurd z (by omega)) (fun z => yl_en hn z (by omega) (fun o => br_f tw_n1 (nm_r (nI_1 (l + 1)) ?_)) (fun o => br_t rfl (nm_r (nI_1 (l + 1)) ?_))))
    · have g := ih (l + 1) (by omega)
      rw [tw_ls_t (P := tw_en w t n) (l := l) o] at g
      exact g
    · have g := ih (l + 1) (by omega)
      rw [tw_ls_f (P := tw_en w t n) (l := l) o] at g
      exact g
theorem yl_fp19 (hm : m ≤ 16) (hnm : n + m ≤ 48) {post : Int32 → SY → Prop} (h : post (nI (n + m)) (nI m, nI (n + m), w, tw_fp w t n m, mo)) : ∀ d k, k + d = m → wY_feedPattern_19 post (nI m) (d + 1) (nI k) (nI (n + k)) w (tw_fp w t n k) mo := by
  intro d
  induction d with
  | zero =>
    intro k hk
    refine pk_le m k (fun _ => ?_) (fun z => absurd z (by omega))
    rw [show k = m from by omega]
    exact h
  | succ d ih =>
    intro k hk
    have e : upd (tw_fp w t n k) (nI (n + k)).toNatClampNeg (w (nI k).toNatClampNeg) = tw_fp w t n (k + 1) := by
      rw [tw_cl (k := k) (by omega), tw_cl (k := n + k) (by omega)]
      rfl
    exact pk_le m k (fun z => absurd z (by omega)) (fun z => ⟨pk_in k 16 (by omega), pk_in (n + k) 48 (by omega), nm_r e (nm_r (nI_1 (n + k)) (nm_r (nI_1 k) (ih (k + 1) (by omega))))⟩)
end
