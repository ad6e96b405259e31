section
variable {m n : Nat} {w t : Nat → Int32} {M N : Int32}
theorem xl_ly4 {s e : Nat} (he : e ≤ 16) {post : Int32 → Prop} (h1 : tw_ly w s e → post 1) (h0 : ¬ tw_ly w s e → post 0) : ∀ d i, s < i → i + d = e → (∀ j, s < j → j < i → tw_be w 0 e s j) → wX_isLyndon_4 post (nI s) (nI e) M N w t (d + 1) (nI i) := by
  intro d
  induction d with
  | zero =>
    intro i hs hi hj
    exact pk_le e i (fun _ => h1 (fun j a b => hj j a (by omega))) (fun z => absurd z (by omega))
  | succ d ih =>
    intro i hs hi hj
    refine pk_le e i (fun z => absurd z (by omega)) (fun z => xl_pb hs (by omega) he (fun q => br_f tw_n1 (nm_r (nI_1 i) (ih (i + 1) (by omega) (by omega) (fun j a b => ?_)))) (fun q => br_t rfl (h0 (fun y => q (y i hs z)))))
    rcases Nat.lt_or_ge j i with y | y
    · exact hj j a y
    · have e : j = i := by omega
      rw [e]
      exact q
theorem xl_ly {s e : Nat} (hs : s < e) (he : e ≤ 16) {post : Int32 → Prop} (h1 : tw_ly w s e → post 1) (h0 : ¬ tw_ly w s e → post 0) : wpX_isLyndon post (M, N, w, t) (nI s) (nI e) := nm_r (nI_1 s) ⟨e - (s + 1) + 1, xl_ly4 he h1 h0 (e - (s + 1)) (s + 1) (by omega) (by omega) (fun j a b => absurd a (by omega))⟩
theorem xl_ll5 (hm : m ≤ 16) {s : Nat} {post : Int32 → Prop} : ∀ l, s + (l + 1) ≤ m → post (nI (tw_ls 1 (tw_lp w s) (l + 1))) → wX_longestLyndon_5 post (nI s) (nI m) N w t (l + 1) (nI (s + (l + 1))) := by
  intro l
  induction l with
  | zero =>
    intro hl h
    rw [tw_ls11] at h
    exact pk_le (s + 1) (s + 1) (fun _ => h) (fun z => absurd z (by omega)) rfl (nI_1 s)
  | succ l ih =>
    intro hl h
    refine pk_le (s + (l + 1 + 1)) (s + 1) (fun z => absurd z (by omega)) (fun z => xl_ly (by omega) (by omega) (fun q => br_f tw_n1 ?_) (fun q => br_t rfl (nm_r (pk_m1 (s + (l + 1))) (ih (by omega) ?_)))) rfl (nI_1 s)
    · rw [tw_ls_t (P := tw_lp w s) (l := l + 1) q] at h
      rw [pk_sub (by omega), show s + (l + 1 + 1) - s = l + 1 + 1 from by omega]
      exact h
    · rw [tw_ls_f (P := tw_lp w s) (l := l + 1) q] at h
      exact h
theorem xl_ll (hm : m ≤ 16) {s : Nat} (hs : s < m) {post : Int32 → Prop} (h : post (nI (tw_L w m s))) : wpX_longestLyndon post (nI m, N, w, t) (nI s) := by
  obtain ⟨l, e⟩ : ∃ l, m = s + (l + 1) := ⟨m - s - 1, by omega⟩
  have h' : post (nI (tw_ls 1 (tw_lp w s) (l + 1))) := by
    unfold tw_L at h
    rw [show m - s = l + 1 from by omega] at h
    exact h
  have g := xl_ll5 (N := N) (t := t) hm l (by omega) h'
  rw [← e] at g
  exact ⟨l + 1, g⟩
theorem xl_fa6 (hm : m ≤ 16) {F : Nat → Nat} (h0 : ∀ s, m ≤ s → F s = 0) (h1 : ∀ s, s < m → F s = F (s + tw_L w m s) + 1) {post : Int32 → Prop} : ∀ d p b c, p + d = m → p ≤ b → b ≤ m → post (nI (c + F b)) → wX_factors_6 post (nI m) N w t (d + 1) (nI c) (nI b) (nI p) := by
  intro d
  induction d with
  | zero =>
    intro p b c hp hb hb' h
    refine pk_le m p (fun _ => ?_) (fun z => absurd z (by omega))
    rw [h0 b (by omega)] at h
    exact h
  | succ d ih =>
    intro p b c hp hb hb' h
    refine pk_le m p (fun z => absurd z (by omega)) (fun z => pk_eq p b (fun y => nm_r (nI_1 c) (xl_ll hm z ?_)) (fun y => nm_r (nI_1 p) (ih (p + 1) b c (by omega) (by omega) hb' h)))
    have q := tw_L_in w z
    refine nm_r (nI_add p _) (nm_r (nI_1 p) (ih (p + 1) (p + tw_L w m p) (c + 1) (by omega) (by omega) (by omega) ?_))
    rw [← y, h1 p z] at h
    rw [show c + 1 + F (p + tw_L w m p) = c + (F (p + tw_L w m p) + 1) from by omega]
    exact h
theorem xl_fa (hm : m ≤ 16) {F : Nat → Nat} (h0 : ∀ s, m ≤ s → F s = 0) (h1 : ∀ s, s < m → F s = F (s + tw_L w m s) + 1) {post : Int32 → Prop} (h : post (nI (F 0))) : wpX_factors post (nI m, N, w, t) := by
  refine ⟨m + 1, xl_fa6 hm h0 h1 m 0 0 0 (by omega) (by omega) (by omega) ?_⟩
  rw [Nat.zero_add]
  exact h
theorem xl_fr7 (hm : m ≤ 16) {i : Int32} {G : Nat → Nat → Int32} (h0 : ∀ s c, m ≤ s → G s c = -4) (h1 : ∀ s c, s < m → nI c = i → G s c = nI (tw_L w m s)) (h2 : ∀ s c, s < m → ¬ nI c = i → G s c = G (s + tw_L w m s) (c + 1)) {post : Int32 → Prop} : ∀ d p b c, p + d = m → p ≤ b → b ≤ m → post (G b c) → wX_factor_7 post i (nI m) N w t (d + 1) (nI c) (nI b) (nI p) := by
  intro d
  induction d with
  | zero =>
    intro p b c hp hb hb' h
    refine pk_le m p (fun _ => ?_) (fun z => absurd z (by omega))
    rw [h0 b c (by omega)] at h
    exact h
  | succ d ih =>
    intro p b c hp hb hb' h
    refine pk_le m p (fun z => absurd z (by omega)) (fun z => pk_eq p b (fun y => xl_ll hm z ?_) (fun y => nm_r (nI_1 p) (ih (p + 1) b c (by omega) (by omega) hb' h)))
    have q := tw_L_in w z
    rw [← y] at h
    refine br_c (fun g => ?_) (fun g => nm_r (nI_1 c) (nm_r (nI_add p _) (nm_r (nI_1 p) (ih (p + 1) (p + tw_L w m p) (c + 1) (by omega) (by omega) (by omega) ?_))))
    · rw [h1 p c z g] at h
      exact h
    · rw [h2 p c z g] at h
      exact h
theorem xl_rs2 (hm : m ≤ 16) (hn : n ≤ 48) {s : Nat} (hs : s < m) {post : Int32 → Prop} (h1 : tw_fd w t m n s → post 1) (h0 : ¬ tw_fd w t m n s → post 0) : ∀ d i, i + d = n → (∀ j, j < i → ¬ tw_oc w t m n s j) → wX_rotationOccurs_2 post (nI s) (nI m) (nI n) w t (d + 1) (nI i) := by
  intro d
  induction d with
  | zero =>
    intro i hi hj
    refine pk_le n i (fun _ => h0 ?_) (fun z => absurd z (by omega))
    rintro ⟨j, a, b⟩
    exact hj j (by omega) b
  | succ d ih =>
    intro i hi hj
    exact pk_le n i (fun z => absurd z (by omega)) (fun z => xl_ro hm hn hs (by omega) (fun o => br_f tw_n1 (h1 ⟨i, z, o⟩)) (fun o => br_t rfl (nm_r (nI_1 i) (ih (i + 1) (by omega) (lt_s (p := fun j => ¬ tw_oc w t m n s j) hj o)))))
theorem xl_rs (hm : m ≤ 16) (hn : n ≤ 48) {s : Nat} (hs : s < m) {post : Int32 → Prop} (h1 : tw_fd w t m n s → post 1) (h0 : ¬ tw_fd w t m n s → post 0) : wpX_rotationOccurs post (nI m, nI n, w, t) (nI s) := ⟨n + 1, xl_rs2 hm hn hs h1 h0 n 0 (by omega) (fun j y => absurd y (by omega))⟩
theorem xl_rf4 (hm : m ≤ 16) (hn : n ≤ 48) {post : Int32 → Prop} (h : post (nI (tw_cn (tw_fd w t m n) m))) : ∀ d i, i + d = m → wX_rotationsFound_4 post (nI m) (nI n) w t (d + 1) (nI (tw_cn (tw_fd w t m n) i)) (nI i) := by
  intro d
  induction d with
  | zero =>
    intro i hi
    refine pk_le m i (fun _ => ?_) (fun z => absurd z (by omega))
    rw [show i = m from by omega]
    exact h
  | succ d ih =>
    intro i hi
    refine pk_le m i (fun z => absurd z (by omega)) (fun z => xl_rs hm hn z (fun o => br_f tw_n1 ?_) (fun o => br_t rfl ?_))
    · refine nm_r (nI_1 _) (nm_r (nI_1 i) ?_)
      rw [← tw_cn_t (P := tw_fd w t m n) (k := i) o]
      exact ih (i + 1) (by omega)
    · refine nm_r (nI_1 i) ?_
      rw [← tw_cn_f (P := tw_fd w t m n) (k := i) o]
      exact ih (i + 1) (by omega)
theorem xl_rf (hm : m ≤ 16) (hn : n ≤ 48) {post : Int32 → Prop} (h : post (nI (tw_cn (tw_fd w t m n) m))) : wpX_rotationsFound post (nI m, nI n, w, t) := ⟨m + 1, xl_rf4 hm hn h m 0 (by omega)⟩
theorem xl_te9 (hn : n ≤ 48) {l : Nat} (hl : l ≤ n) (hl' : l ≤ 16) {post : Int32 → Prop} (h1 : tw_en w t n l → post 1) (h0 : ¬ tw_en w t n l → post 0) : ∀ d k, k + d = l → (∀ j, j < k → t (n - l + j) = w j) → wX_textEndsWithBeginning_9 post (nI l) (nI (n - l)) M N w t (d + 1) (nI k) := by
  intro d
  induction d with
  | zero =>
    intro k hk hj
    exact pk_le l k (fun _ => h1 (fun j y => hj j (by omega))) (fun z => absurd z (by omega))
  | succ d ih =>
    intro k hk hj
    refine pk_le l k (fun z => absurd z (by omega)) (fun z => ⟨pk_in (n - l + k) 48 (by omega) (nI_add _ _), pk_in k 16 (by omega), ?_⟩)
    rw [tw_cl (k := k) (by omega), pk_cl (n - l + k) (nI_add _ _)]
    exact br_c (fun e => nm_r (nI_1 k) (ih (k + 1) (by omega) (lt_s (p := fun j => t (n - l + j) = w j) hj e))) (fun e => h0 (fun o => e (o k z)))
theorem xl_te (hn : n ≤ 48) {l : Nat} (hl : l ≤ n) (hl' : l ≤ 16) {post : Int32 → Prop} (h1 : tw_en w t n l → post 1) (h0 : ¬ tw_en w t n l → post 0) : wpX_textEndsWithBeginning post (M, nI n, w, t) (nI l) := nm_r (pk_sub hl) ⟨l + 1, xl_te9 hn hl hl' h1 h0 l 0 (by omega) (fun j y => absurd y (by omega))⟩
theorem xl_ov25 (hn : n ≤ 48) {post : Int32 → Prop} : ∀ l, l ≤ n → l ≤ 16 → post (nI (tw_ls 0 (tw_en w t n) l)) → wX_overlap_25 post M (nI n) w t (l + 1) (nI l) := by
  intro l
  induction l with
  | zero => intro _ _ h; exact pk_le 0 0 (fun _ => h) (fun z => absurd z (by omega))
  | succ l ih =>
    intro hl hl' h
    refine pk_le (l + 1) 0 (fun z => absurd z (by omega)) (fun z => xl_te hn hl hl' (fun o => br_f tw_n1 ?_) (fun o => br_t rfl (nm_r (pk_m1 l) (ih (by omega) (by omega) ?_))))
    · rw [tw_ls_t (P := tw_en w t n) (l := l) o] at h; exact h
    · rw [tw_ls_f (P := tw_en w t n) (l := l) o] at h; exact h
theorem xl_fp19 (hm : m ≤ 16) (hnm : n + m ≤ 48) {post : Int32 → SX → Prop} (h : post (nI (n + m)) (nI m, nI (n + m), w, tw_fp w t n m)) : ∀ d k, k + d = m → wX_feedPattern_19 post (nI m) (nI n) (d + 1) (nI k) w (tw_fp w t n k) := by
  intro d
  induction d with
  | zero =>
    intro k hk
    refine pk_le m k (fun _ => nm_r (nI_add n m) ?_) (fun z => absurd z (by omega))
    rw [show k = m from by omega]
    exact h
  | succ d ih =>
    intro k hk
    have e : upd (tw_fp w t n k) (nI n + nI k).toNatClampNeg (w (nI k).toNatClampNeg) = tw_fp w t n (k + 1) := by
      rw [tw_cl (k := k) (by omega), pk_cl (n + k) (nI_add n k)]
      rfl
    exact pk_le m k (fun z => absurd z (by omega)) (fun z => ⟨pk_in k 16 (by omega), pk_in (n + k) 48 (by omega) (nI_add n k), nm_r e (nm_r (nI_1 k) (ih (k + 1) (by omega)))⟩)
end
