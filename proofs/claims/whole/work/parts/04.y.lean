section
variable {m n : Nat} {w t mo : Nat → Int32} {M N : Int32}
/-! the reference's walks, each against the same pure picture -/
theorem yl_let1 {u : SY} {post : Int32 → Prop} {c : Int32} (h : ¬ c < 0 ∧ ¬ 2 < c) (p : post 1) : wpY_isLetter post u c := br_f h.1 (br_f h.2 p)
theorem yl_let0 {u : SY} {post : Int32 → Prop} {c : Int32} (h : ¬ (¬ c < 0 ∧ ¬ 2 < c)) (p : post 0) : wpY_isLetter post u c := br_c (fun _ => p) (fun a => br_c (fun _ => p) (fun b => absurd ⟨a, b⟩ h))
theorem yl_rm {s k : Nat} (h0 : 0 < m) (hm : m ≤ 16) (hs : s ≤ 16) (hk : k ≤ 16) : nI s + nI k - (nI s + nI k) / nI m * nI m = nI ((s + k) % m) := by
  rw [nI_add]
  exact pk_rem (by omega) h0 (by omega)
theorem yl_st28 (hm : m ≤ 16) (hn : n ≤ 48) {s i : Nat} (hm0 : 0 < m) (hs : s ≤ 16) (hi : i + m ≤ n) {post : Int32 → Prop} (h1 : tw_oc w t m n s i → post 1) (h0 : ¬ tw_oc w t m n s i → post 0) : ∀ d k, k + d = m → (∀ j, j < k → t (i + j) = w ((s + j) % m)) → wY_standsAt_28 post (nI i) (nI s) (nI m) (nI n) w t mo (d + 1) (nI k) := by
  intro d
  induction d with
  | zero =>
    intro k hk hj
    exact pk_le m k (fun _ => h1 ⟨hm0, hi, fun j q => hj j (by omega)⟩) (fun z => absurd z (by omega))
  | succ d ih =>
    intro k hk hj
    have r : (s + k) % m < m := Nat.mod_lt _ hm0
    have e := yl_rm (s := s) (k := k) hm0 hm hs (by omega)
    refine pk_le m k (fun z => absurd z (by omega)) (fun z => ⟨pk_in (i + k) 48 (by omega) (nI_add i k), nI_ne0 hm0 (by omega), pk_in ((s + k) % m) 16 (by omega) e, ?_⟩)
    rw [pk_cl (i + k) (nI_add i k), pk_cl ((s + k) % m) e]
    exact br_c (fun e => nm_r (nI_1 k) (ih (k + 1) (by omega) (lt_s (p := fun j => t (i + j) = w ((s + j) % m)) hj e))) (fun e => h0 (fun o => e (o.2.2 k z)))
theorem yl_st (hm : m ≤ 16) (hn : n ≤ 48) {s i : Nat} (hs : s ≤ 16) (hi : i < 2 ^ 30) {post : Int32 → Prop} (h1 : tw_oc w t m n s i → post 1) (h0 : ¬ tw_oc w t m n s i → post 0) : wpY_standsAt post (nI m, nI n, w, t, mo) (nI i) (nI s) := by
  refine pk_eq m 0 (fun z => h0 (fun o => absurd o.1 (by omega))) (fun z => br_f (nI_pos (by omega)) (tw_ib (tw_sle hi (by omega) (by omega)) (fun y => ⟨m + 1, ?_⟩) (fun y => h0 (fun o => y o.2.1))))
  exact yl_st28 hm hn (by omega) hs y h1 h0 m 0 (by omega) (fun j q => absurd q (by omega))
theorem yl_stn {x s : Int32} (hx : x < 0) {post : Int32 → Prop} (h0 : post 0) : wpY_standsAt post (M, N, w, t, mo) x s := br_c (fun _ => h0) (fun _ => br_t hx h0)
theorem yl_occ4 (hm : m ≤ 16) (hn : n ≤ 48) {post : Int32 → Prop} (h : post (nI (tw_cn (tw_oc w t m n 0) n))) : ∀ d i, i + d = n → wY_occurrences_4 post (nI m) (nI n) w t mo (d + 1) (nI (tw_cn (tw_oc w t m n 0) i)) (nI i) := by
  intro d
  induction d with
  | zero =>
    intro i hi
    refine pk_le n i (fun _ => ?_) (fun z => absurd z (by omega))
    rw [show i = n from by omega]
    exact h
  | succ d ih =>
    intro i hi
    refine pk_le n i (fun z => absurd z (by omega)) (fun z => yl_st (s := 0) hm hn (by omega) (by omega) (fun o => br_f tw_n1 ?_) (fun o => br_t rfl ?_))
    · refine nm_r (nI_1 _) (nm_r (nI_1 i) ?_)
      rw [← tw_cn_t (P := tw_oc w t m n 0) (k := i) o]
      exact ih (i + 1) (by omega)
    · refine nm_r (nI_1 i) ?_
      rw [← tw_cn_f (P := tw_oc w t m n 0) (k := i) o]
      exact ih (i + 1) (by omega)
theorem yl_occ (hm : m ≤ 16) (hn : n ≤ 48) {post : Int32 → Prop} (h : post (nI (tw_cn (tw_oc w t m n 0) n))) : wpY_occurrences post (nI m, nI n, w, t, mo) := ⟨n + 1, yl_occ4 hm hn h n 0 (by omega)⟩
theorem yl_nx2 (hm : m ≤ 16) (hn : n ≤ 48) {f : Int32} {post : Int32 → Prop} : ∀ d i, i + d = n → post (tw_fs (fun i => ¬ nI i < f ∧ tw_oc w t m n 0 i) d i) → wY_next_2 post f (nI m) (nI n) w t mo (d + 1) (nI i) := by
  intro d
  induction d with
  | zero => intro i hi h; exact pk_le n i (fun _ => h) (fun z => absurd z (by omega))
  | succ d ih =>
    intro i hi h
    refine pk_le n i (fun z => absurd z (by omega)) (fun z => br_c (fun y => nm_r (nI_1 i) (ih (i + 1) (by omega) ?_)) (fun y => yl_st (s := 0) hm hn (by omega) (by omega) (fun o => br_f tw_n1 ?_) (fun o => br_t rfl (nm_r (nI_1 i) (ih (i + 1) (by omega) ?_)))))
    · rw [tw_fs_f (P := fun i => ¬ nI i < f ∧ tw_oc w t m n 0 i) (j := i) (fun q => q.1 y)] at h; exact h
    · rw [tw_fs_t (P := fun i => ¬ nI i < f ∧ tw_oc w t m n 0 i) (j := i) ⟨y, o⟩] at h; exact h
    · rw [tw_fs_f (P := fun i => ¬ nI i < f ∧ tw_oc w t m n 0 i) (j := i) (fun q => o q.2)] at h; exact h
theorem yl_nx (hm : m ≤ 16) (hn : n ≤ 48) {f : Int32} {post : Int32 → Prop} (h : post (tw_fs (fun i => ¬ nI i < f ∧ tw_oc w t m n 0 i) n 0)) : wpY_next post (nI m, nI n, w, t, mo) f := ⟨n + 1, yl_nx2 hm hn n 0 (by omega) h⟩
theorem yl_ap58 {D : Nat → Nat} {k z : Nat} (hk : k < 48) (hmo : ∀ j, k + 1 ≤ j → j < 65 → mo j = nI (D j)) (hz : z < 2 ^ 20) (hD : D (k + 1) < 2 ^ 20) (he : D k = tw_mx (D (k + 1)) z) {post : Int32 → SY → Prop} {J : Int32 → (Nat → Int32) → (Nat → Int32) → (Nat → Int32) → Prop} (hJ : ∀ mo', (∀ j, k ≤ j → j < 65 → mo' j = nI (D j)) → J (nI k + (-1)) w t mo') : wY_apart_58 post J (nI k) (nI z) M N w t mo := by
  have e1 : mo (nI k + 1).toNatClampNeg = nI (D (k + 1)) := by
    rw [nI_1, tw_cl (by omega)]
    exact hmo (k + 1) (Nat.le_refl _) (by omega)
  have hin : vp_in (nI k + 1) 65 := pk_in (k + 1) 65 (by omega) (nI_1 k)
  have U : ∀ v : Int32, v = nI (D k) → ∀ j, k ≤ j → j < 65 → upd mo (nI k).toNatClampNeg v j = nI (D j) := by
    intro v hv j h1 h2
    rw [tw_cl (k := k) (by omega)]
    by_cases e : j = k
    · rw [e, pk_us]; exact hv
    · rw [pk_un e]; exact hmo j (by omega) h2
  refine ⟨hin, ?_⟩
  rw [e1]
  refine pk_le z (D (k + 1)) (fun y => ⟨hin, pk_in k 65 (by omega), nm_e (nm_e (hJ _ (U _ ?_)))⟩) (fun y => ⟨pk_in k 65 (by omega), nm_e (nm_e (hJ _ (U _ ?_)))⟩)
  · rw [he, tw_mx_r y]
  · rw [he, tw_mx_l (by omega)]
theorem yl_ap28 (hm : m ≤ 16) (hn : n ≤ 48) {D : Nat → Nat} (h0 : ∀ i, n ≤ i → D i = 0) (h1 : ∀ i, i < n → tw_oc w t m n 0 i → D i = tw_mx (D (i + 1)) (1 + D (i + m))) (h2 : ∀ i, i < n → ¬ tw_oc w t m n 0 i → D i = D (i + 1)) {post : Int32 → SY → Prop} (h : ∀ mo', post (nI (D 0)) (nI m, nI n, w, t, mo')) : ∀ k mo, k ≤ n → (∀ j, k ≤ j → j < 65 → mo j = nI (D j)) → wY_apart_28 post (nI m) (nI n) (k + 1) (nI k + (-1)) w t mo := by
  intro k
  induction k with
  | zero =>
    intro mo _ hmo
    refine br_t (by decide) ?_
    rw [hmo 0 (Nat.le_refl _) (by omega)]
    exact h mo
  | succ k ih =>
    intro mo hk hmo
    have b := tw_D_le tw_oc_in h0 h1 h2
    have b1 := b n (k + 1) (by omega)
    have b2 := b n (k + m) (by omega)
    rw [pk_m1]
    refine br_f (nI_pos (by omega)) (yl_st (s := 0) hm hn (by omega) (by omega) (fun o => br_f tw_n1 ⟨pk_in (k + m) 65 (by omega) (nI_add k m), ?_⟩) (fun o => br_t rfl ?_))
    · have e : 1 + mo (nI k + nI m).toNatClampNeg = nI (1 + D (k + m)) := by
        have q := o.1
        rw [pk_cl (k + m) (nI_add k m), hmo (k + m) (by omega) (by omega)]
        exact nI_add 1 _
      rw [e]
      exact yl_ap58 (by omega) hmo (by omega) (by omega) (h1 k (by omega) o) (fun mo' q => ih mo' (by omega) q)
    · exact yl_ap58 (z := 0) (by omega) hmo (by omega) (by omega) (by rw [h2 k (by omega) o, tw_mx_r (Nat.zero_le _)]) (fun mo' q => ih mo' (by omega) q)
theorem yl_ap2 {post : Int32 → SY → Prop} (h : ∀ mo, (∀ j, j < 65 → mo j = 0) → ∃ n28, wY_apart_28 post M N n28 (N - 1) w t mo) : ∀ d i mo, i + d = 65 → (∀ j, j < i → mo j = 0) → wY_apart_2 post M N (d + 1) (nI i) w t mo := by
  intro d
  induction d with
  | zero =>
    intro i mo hi hj
    exact pk_le 65 i (fun _ => nm_e (h mo (fun j y => hj j (by omega)))) (fun z => absurd z (by omega))
  | succ d ih =>
    intro i mo hi hj
    refine pk_le 65 i (fun z => absurd z (by omega)) (fun z => ⟨pk_in i 65 z, nm_e (nm_r (nI_1 i) (ih (i + 1) _ (by omega) (fun j y => ?_)))⟩)
    rw [tw_cl (k := i) (by omega)]
    by_cases e : j = i
    · rw [e, pk_us]
    · rw [pk_un e]; exact hj j (by omega)
theorem yl_ap (hm : m ≤ 16) (hn : n ≤ 48) {D : Nat → Nat} (h0 : ∀ i, n ≤ i → D i = 0) (h1 : ∀ i, i < n → tw_oc w t m n 0 i → D i = tw_mx (D (i + 1)) (1 + D (i + m))) (h2 : ∀ i, i < n → ¬ tw_oc w t m n 0 i → D i = D (i + 1)) {post : Int32 → SY → Prop} (h : ∀ mo', post (nI (D 0)) (nI m, nI n, w, t, mo')) : wpY_apart post (nI m, nI n, w, t, mo) := by
  refine ⟨66, yl_ap2 (fun mo' q => ⟨n + 1, ?_⟩) 65 0 mo (by omega) (fun j y => absurd y (by omega))⟩
  rw [tw_m1s]
  refine yl_ap28 hm hn h0 h1 h2 h n mo' (Nat.le_refl _) (fun j a b => ?_)
  rw [q j b, h0 j a]
  rfl
theorem yl_ic9 (hm : m ≤ 16) (hn : n ≤ 48) {p : Nat} (hp : p < n) {post : Int32 → Prop} (h1 : tw_cv w t m n p → post 1) (h0 : ¬ tw_cv w t m n p → post 0) : ∀ d a, a + d = p + 1 + m → p + 1 ≤ a → (∀ i, i + m < a → p < i + m → ¬ tw_oc w t m n 0 i) → wY_isCovered_9 post (nI p) (nI m) (nI n) w t mo (d + 1) (nI a - nI m) := by
  intro d
  induction d with
  | zero =>
    intro a ha hpa hj
    refine tw_ib (tw_slt (by omega) (by omega) (by omega)) (fun _ => h0 ?_) (fun z => absurd z (by omega))
    rintro ⟨i, y1, y2, o⟩
    exact hj i (by omega) y2 o
  | succ d ih =>
    intro a ha hpa hj
    refine tw_ib (tw_slt (by omega) (by omega) (by omega)) (fun z => absurd z (by omega)) (fun z => ?_)
    by_cases y : a < m
    · exact yl_stn (pk_sneg (by omega) y) (br_t rfl (nm_r (tw_sub1 a m) (ih (a + 1) (by omega) (by omega) (fun i a1 a2 => hj i (by omega) a2))))
    · have e : nI (a - m) + 1 = nI (a + 1) - nI m := by
        rw [nI_1, pk_sub (by omega)]
        exact congrArg nI (by omega)
      rw [pk_sub (by omega)]
      refine yl_st (s := 0) hm hn (by omega) (by omega) (fun o => br_f tw_n1 (h1 ⟨a - m, by omega, by omega, o⟩)) (fun o => br_t rfl (nm_r e (ih (a + 1) (by omega) (by omega) (fun i a1 a2 q => ?_))))
      by_cases x : i + m < a
      · exact hj i x a2 q
      · rw [show i = a - m from by omega] at q
        exact o q
theorem yl_ic (hm : m ≤ 16) (hn : n ≤ 48) {p : Nat} (hp : p < n) {post : Int32 → Prop} (h1 : tw_cv w t m n p → post 1) (h0 : ¬ tw_cv w t m n p → post 0) : wpY_isCovered post (nI m, nI n, w, t, mo) (nI p) := nm_r (tw_sub1 p m) ⟨m + 1, yl_ic9 hm hn hp h1 h0 m (p + 1) (by omega) (by omega) (fun i a b => absurd a (by omega))⟩
theorem yl_cv4 (hm : m ≤ 16) (hn : n ≤ 48) {post : Int32 → Prop} (h : post (nI (tw_cn (tw_cv w t m n) n))) : ∀ d i, i + d = n → wY_covered_4 post (nI m) (nI n) w t mo (d + 1) (nI (tw_cn (tw_cv w t m n) i)) (nI i) := by
  intro d
  induction d with
  | zero =>
    intro i hi
    refine pk_le n i (fun _ => ?_) (fun z => absurd z (by omega))
    rw [show i = n from by omega]
    exact h
  | succ d ih =>
    intro i hi
    refine pk_le n i (fun z => absurd z (by omega)) (fun z => yl_ic hm hn z (fun o => br_f tw_n1 ?_) (fun o => br_t rfl ?_))
    · refine nm_r (nI_1 _) (nm_r (nI_1 i) ?_)
      rw [← tw_cn_t (P := tw_cv w t m n) (k := i) o]
      exact ih (i + 1) (by omega)
    · refine nm_r (nI_1 i) ?_
      rw [← tw_cn_f (P := tw_cv w t m n) (k := i) o]
      exact ih (i + 1) (by omega)
theorem yl_cv (hm : m ≤ 16) (hn : n ≤ 48) {post : Int32 → Prop} (h : post (nI (tw_cn (tw_cv w t m n) n))) : wpY_covered post (nI m, nI n, w, t, mo) := ⟨n + 1, yl_cv4 hm hn h n 0 (by omega)⟩
end
