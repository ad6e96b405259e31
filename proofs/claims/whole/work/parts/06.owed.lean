def i_Rel (k : Nat) (u : SX) (v : SY) : Prop := ∃ m n : Nat, ∃ w t mo : Nat → Int32, m ≤ 16 ∧ n ≤ 48 ∧ u = (nI m, nI n, w, t) ∧ v = (nI m, nI n, w, t, mo)
theorem tw_R {k m n : Nat} {w t mo : Nat → Int32} (hm : m ≤ 16) (hn : n ≤ 48) : i_Rel k (nI m, nI n, w, t) (nI m, nI n, w, t, mo) := ⟨m, n, w, t, mo, hm, hn, rfl, rfl⟩
theorem i_up {k : Nat} {u : SX} {v : SY} (h : i_Rel k u v) : i_Rel (k + 2) u v := h
theorem i_vc0 : wpX_init (fun u => wpY_init (fun v => i_Rel 0 u v)) := ⟨0, 0, fun _ => 0, fun _ => 0, fun _ => 0, by omega, by omega, rfl, rfl⟩
theorem i_vc_pattern {k : Nat} {u : SX} {v : SY} (I : i_Rel k u v) (hk : k + 2 ≤ 1024) (v1 : Int32) : wpX_pattern (fun r u' => wpY_pattern (fun r' v' => r' = r ∧ i_Rel (k + 2) u' v') v v1) u v1 := by
  obtain ⟨m, n, w, t, mo, hm, hn, rfl, rfl⟩ := I
  unfold wpX_pattern wpY_pattern
  dsimp only
  by_cases hl : ¬ v1 < 0 ∧ ¬ 2 < v1
  · refine xl_let1 hl (br_f tw_n1 ?_)
    refine pk_lt m 16 (fun z => ⟨pk_in m 16 z, nm_e (nm_r (nI_1 m) ?_)⟩) (fun z => ?_)
    · exact yl_let1 hl (br_f tw_n1 (pk_eq m 16 (fun y => absurd z (by omega)) (fun y => ⟨pk_in m 16 z, nm_e (nm_r (nI_1 m) ⟨rfl, tw_R (by omega) hn⟩)⟩)))
    · exact yl_let1 hl (br_f tw_n1 (pk_eq m 16 (fun y => ⟨rfl, tw_R hm hn⟩) (fun y => absurd hm (by omega))))
  · exact xl_let0 hl (br_t rfl (yl_let0 hl (br_t rfl ⟨rfl, tw_R hm hn⟩)))
theorem i_vc_scrap {k : Nat} {u : SX} {v : SY} (I : i_Rel k u v) (hk : k + 2 ≤ 1024) : wpX_scrap (fun u' => wpY_scrap (fun v' => i_Rel (k + 2) u' v') v) u := by
  obtain ⟨m, n, w, t, mo, hm, hn, rfl, rfl⟩ := I
  exact tw_R (k := k + 2) (m := 0) (by omega) hn
theorem i_vc_feed {k : Nat} {u : SX} {v : SY} (I : i_Rel k u v) (hk : k + 2 ≤ 1024) (v1 : Int32) : wpX_feed (fun r u' => wpY_feed (fun r' v' => r' = r ∧ i_Rel (k + 2) u' v') v v1) u v1 := by
  obtain ⟨m, n, w, t, mo, hm, hn, rfl, rfl⟩ := I
  unfold wpX_feed wpY_feed
  dsimp only
  by_cases hl : ¬ v1 < 0 ∧ ¬ 2 < v1
  · refine xl_let1 hl (br_f tw_n1 ?_)
    refine pk_lt n 48 (fun z => ⟨pk_in n 48 z, nm_e (nm_r (nI_1 n) ?_)⟩) (fun z => ?_)
    · exact yl_let1 hl (br_f tw_n1 (pk_eq n 48 (fun y => absurd z (by omega)) (fun y => ⟨pk_in n 48 z, nm_e (nm_r (nI_1 n) ⟨rfl, tw_R hm (by omega)⟩)⟩)))
    · exact yl_let1 hl (br_f tw_n1 (pk_eq n 48 (fun y => ⟨rfl, tw_R hm hn⟩) (fun y => absurd hn (by omega))))
  · exact xl_let0 hl (br_t rfl (yl_let0 hl (br_t rfl ⟨rfl, tw_R hm hn⟩)))
theorem i_vc_feedPattern {k : Nat} {u : SX} {v : SY} (I : i_Rel k u v) (hk : k + 2 ≤ 1024) : wpX_feedPattern (fun r u' => wpY_feedPattern (fun r' v' => r' = r ∧ i_Rel (k + 2) u' v') v) u := by
  obtain ⟨m, n, w, t, mo, hm, hn, rfl, rfl⟩ := I
  refine pk_le (n + m) 48 (fun z => ⟨m + 1, xl_fp19 hm z ?_ m 0 (by omega)⟩) (fun z => pk_le (n + m) 48 (fun y => absurd y (by omega)) (fun _ => ⟨rfl, tw_R hm hn⟩) (nI_add n m)) (nI_add n m)
  refine pk_le (n + m) 48 (fun _ => ⟨m + 1, yl_fp19 hm z ?_ m 0 (by omega)⟩) (fun y => absurd z (by omega)) (nI_add n m)
  exact ⟨rfl, tw_R hm z⟩
theorem i_vc_erase {k : Nat} {u : SX} {v : SY} (I : i_Rel k u v) (hk : k + 2 ≤ 1024) : wpX_erase (fun u' => wpY_erase (fun v' => i_Rel (k + 2) u' v') v) u := by
  obtain ⟨m, n, w, t, mo, hm, hn, rfl, rfl⟩ := I
  exact tw_R (k := k + 2) (n := 0) hm (by omega)
theorem i_vc_patternLength {k : Nat} {u : SX} {v : SY} (I : i_Rel k u v) (hk : k + 2 ≤ 1024) : wpX_patternLength (fun r => wpY_patternLength (fun r' => r' = r ∧ i_Rel (k + 2) u v) v) u := by
  obtain ⟨m, n, w, t, mo, hm, hn, rfl, rfl⟩ := I
  exact ⟨rfl, tw_R hm hn⟩
theorem i_vc_textLength {k : Nat} {u : SX} {v : SY} (I : i_Rel k u v) (hk : k + 2 ≤ 1024) : wpX_textLength (fun r => wpY_textLength (fun r' => r' = r ∧ i_Rel (k + 2) u v) v) u := by
  obtain ⟨m, n, w, t, mo, hm, hn, rfl, rfl⟩ := I
  exact ⟨rfl, tw_R hm hn⟩
theorem i_vc_occurrences {k : Nat} {u : SX} {v : SY} (I : i_Rel k u v) (hk : k + 2 ≤ 1024) : wpX_occurrences (fun r => wpY_occurrences (fun r' => r' = r ∧ i_Rel (k + 2) u v) v) u := by
  obtain ⟨m, n, w, t, mo, hm, hn, rfl, rfl⟩ := I
  exact xl_occ hm hn (yl_occ hm hn ⟨rfl, tw_R hm hn⟩)
theorem i_vc_next {k : Nat} {u : SX} {v : SY} (I : i_Rel k u v) (hk : k + 2 ≤ 1024) (v1 : Int32) : wpX_next (fun r => wpY_next (fun r' => r' = r ∧ i_Rel (k + 2) u v) v v1) u v1 := by
  obtain ⟨m, n, w, t, mo, hm, hn, rfl, rfl⟩ := I
  by_cases h0 : (0 : Int32) ≤ v1
  · obtain ⟨f, hf, rfl⟩ := nI_of (x := v1) (Int32.not_lt.mpr h0)
    refine br_t h0 ?_
    by_cases hfn : f ≤ n
    · refine ⟨n - f + 1, xl_nx12 hm hn (n - f) f (by omega) (yl_nx hm hn ⟨?_, tw_R hm hn⟩)⟩
      have s := tw_fs_skip (P := fun i => ¬ nI i < nI f ∧ tw_oc w t m n 0 i) (n - f) f 0 (fun i a b q => q.1 (nI_lt (by omega) hf))
      rw [show n - f + f = n from by omega, Nat.zero_add] at s
      rw [s]
      exact (tw_fs_eq (n - f) f (fun i a => ⟨fun q => q.2, fun o => ⟨nI_nlt a (by have := o.2.1; omega), o⟩⟩))
    · refine ⟨1, pk_le n f (fun _ => yl_nx hm hn ⟨?_, tw_R hm hn⟩) (fun z => absurd z (by omega))⟩
      have s := tw_fs_skip (P := fun i => ¬ nI i < nI f ∧ tw_oc w t m n 0 i) 0 n 0 (fun i a b q => q.1 (nI_lt (by omega) hf))
      rw [Nat.zero_add] at s
      rw [s]
      rfl
  · refine br_f h0 ⟨n + 1, xl_nx12 hm hn n 0 (by omega) (yl_nx hm hn ⟨?_, tw_R hm hn⟩)⟩
    refine (tw_fs_eq n 0 (fun i _ => ⟨fun q => q.2, fun o => ⟨fun y => h0 (Int32.le_of_lt (Int32.lt_of_le_of_lt (nI_pos' (by have := o.2.1; omega)) y)), o⟩⟩))
theorem i_vc_apart {k : Nat} {u : SX} {v : SY} (I : i_Rel k u v) (hk : k + 2 ≤ 1024) : wpX_apart (fun r => wpY_apart (fun r' v' => r' = r ∧ i_Rel (k + 2) u v') v) u := by
  obtain ⟨m, n, w, t, mo, hm, hn, rfl, rfl⟩ := I
  obtain ⟨D, h0, h1, h2⟩ := tw_exD (tw_oc w t m n 0) m n tw_oc_in
  exact xl_ap hm hn h0 h1 h2 (yl_ap hm hn h0 h1 h2 (fun mo' => ⟨rfl, tw_R hm hn⟩))
theorem i_vc_covered {k : Nat} {u : SX} {v : SY} (I : i_Rel k u v) (hk : k + 2 ≤ 1024) : wpX_covered (fun r => wpY_covered (fun r' => r' = r ∧ i_Rel (k + 2) u v) v) u := by
  obtain ⟨m, n, w, t, mo, hm, hn, rfl, rfl⟩ := I
  exact xl_cv hm hn (yl_cv hm hn ⟨rfl, tw_R hm hn⟩)
theorem i_vc_period {k : Nat} {u : SX} {v : SY} (I : i_Rel k u v) (hk : k + 2 ≤ 1024) : wpX_period (fun r => wpY_period (fun r' => r' = r ∧ i_Rel (k + 2) u v) v) u := by
  obtain ⟨m, n, w, t, mo, hm, hn, rfl, rfl⟩ := I
  exact xl_pe hm (yl_pe hm ⟨rfl, tw_R hm hn⟩)
theorem i_vc_border {k : Nat} {u : SX} {v : SY} (I : i_Rel k u v) (hk : k + 2 ≤ 1024) (v1 : Int32) : wpX_border (fun r => wpY_border (fun r' => r' = r ∧ i_Rel (k + 2) u v) v v1) u v1 := by
  obtain ⟨m, n, w, t, mo, hm, hn, rfl, rfl⟩ := I
  by_cases h1 : v1 < 1
  · exact br_t h1 (br_t h1 ⟨rfl, tw_R hm hn⟩)
  · have hx : ¬ v1 < 0 := fun y => h1 (Int32.lt_trans y (by decide))
    obtain ⟨k, hk, rfl⟩ := nI_of hx
    have k1 : 1 ≤ k := by
      rcases Nat.eq_zero_or_pos k with e | e
      · exact absurd (by rw [e]; decide) h1
      · exact e
    refine br_f h1 (pk_le k m (fun z => nm_r (show nI k - 1 = nI (k - 1) from ?_) ⟨k - 1 + 1, xl_br20 (by omega) (k - 1) (by omega) ?_⟩) (fun z => br_f h1 (pk_le k m (fun y => absurd y (by omega)) (fun _ => ⟨rfl, tw_R hm hn⟩))))
    · obtain ⟨j, rfl⟩ : ∃ j, k = j + 1 := ⟨k - 1, by omega⟩
      exact nI_pred j
    · exact br_f h1 (pk_le k m (fun _ => ⟨k - 1 + 1, yl_br20 (by omega) ⟨rfl, tw_R hm hn⟩ (k - 1) 0 (by omega)⟩) (fun y => absurd z (by omega)))
theorem i_vc_periods {k : Nat} {u : SX} {v : SY} (I : i_Rel k u v) (hk : k + 2 ≤ 1024) : wpX_periods (fun r => wpY_periods (fun r' => r' = r ∧ i_Rel (k + 2) u v) v) u := by
  obtain ⟨m, n, w, t, mo, hm, hn, rfl, rfl⟩ := I
  exact xl_ps hm (yl_ps hm ⟨rfl, tw_R hm hn⟩)
theorem i_vc_greatestEnd {k : Nat} {u : SX} {v : SY} (I : i_Rel k u v) (hk : k + 2 ≤ 1024) (v1 : Int32) : wpX_greatestEnd (fun r => wpY_greatestEnd (fun r' => r' = r ∧ i_Rel (k + 2) u v) v v1) u v1 := by
  obtain ⟨m, n, w, t, mo, hm, hn, rfl, rfl⟩ := I
  have A : (v1 = 0 ∨ v1 = 1) → wX_greatestEnd_11 (fun r => wpY_greatestEnd (fun r' => r' = r ∧ i_Rel (k + 2) (nI m, nI n, w, t) (nI m, nI n, w, t, mo)) (nI m, nI n, w, t, mo) v1) v1 (nI m) (nI n) w t := by
    intro hv
    have c1 : ¬ v1 < 0 := by rcases hv with e | e <;> rw [e] <;> decide
    have c2 : v1 ≤ 1 := by rcases hv with e | e <;> rw [e] <;> decide
    refine pk_eq m 0 (fun z => br_f c1 (br_t c2 ⟨1, pk_le m 1 (fun _ => pk_eq m 0 (fun _ => ⟨rfl, tw_R hm hn⟩) (fun y => absurd z y)) (fun y => absurd z (by omega))⟩)) (fun z => ⟨m - 1 + 1, xl_ge25 hm ?_ (m - 1) 0 (by omega)⟩)
    exact br_f c1 (br_t c2 ⟨m - 1 + 1, yl_ge15 hm (by omega) ⟨rfl, tw_R hm hn⟩ (m - 1) 0 (by omega)⟩)
  refine br_c (fun e => A (Or.inl e)) (fun e0 => br_c (fun e => A (Or.inr e)) (fun e1 => ?_))
  refine br_c (fun _ => ⟨rfl, tw_R hm hn⟩) (fun c1 => br_c (fun c2 => ?_) (fun _ => ⟨rfl, tw_R hm hn⟩))
  obtain ⟨j, hj, e⟩ := nI_of2 (x := v1) (M := 1) (n := 1) (by decide) c1 c2
  rcases (by omega : j = 0 ∨ j = 1) with q | q
  · exact absurd (by rw [e, q]; rfl) e0
  · exact absurd (by rw [e, q]; rfl) e1
theorem i_vc_leastRotation {k : Nat} {u : SX} {v : SY} (I : i_Rel k u v) (hk : k + 2 ≤ 1024) : wpX_leastRotation (fun r => wpY_leastRotation (fun r' => r' = r ∧ i_Rel (k + 2) u v) v) u := by
  obtain ⟨m, n, w, t, mo, hm, hn, rfl, rfl⟩ := I
  refine pk_eq m 0 (fun z => ⟨1, pk_le m 1 (fun _ => pk_eq m 0 (fun _ => ⟨rfl, tw_R hm hn⟩) (fun y => absurd z y)) (fun y => absurd z (by omega))⟩) (fun z => ⟨m - 1 + 1, xl_lr14 hm ?_ (m - 1) 0 (by omega)⟩)
  exact ⟨m - 1 + 1, yl_lr4 hm (by omega) ⟨rfl, tw_R hm hn⟩ (m - 1) 0 (by omega)⟩
theorem i_vc_factors {k : Nat} {u : SX} {v : SY} (I : i_Rel k u v) (hk : k + 2 ≤ 1024) : wpX_factors (fun r => wpY_factors (fun r' => r' = r ∧ i_Rel (k + 2) u v) v) u := by
  obtain ⟨m, n, w, t, mo, hm, hn, rfl, rfl⟩ := I
  obtain ⟨F, h0, h1⟩ := tw_exF (tw_L w m) m (fun s h => (tw_L_in w h).1)
  exact xl_fa hm h0 h1 (yl_fa hm h0 h1 ⟨rfl, tw_R hm hn⟩)
theorem i_vc_factor {k : Nat} {u : SX} {v : SY} (I : i_Rel k u v) (hk : k + 2 ≤ 1024) (v1 : Int32) : wpX_factor (fun r => wpY_factor (fun r' => r' = r ∧ i_Rel (k + 2) u v) v v1) u v1 := by
  obtain ⟨m, n, w, t, mo, hm, hn, rfl, rfl⟩ := I
  obtain ⟨G, h0, h1, h2⟩ := tw_exG (tw_L w m) m v1 (fun s h => (tw_L_in w h).1)
  refine ⟨m + 1, xl_fr7 hm h0 h1 h2 m 0 0 0 (by omega) (by omega) (by omega) ?_⟩
  exact ⟨m + 1, yl_fr4 hm h0 h1 h2 m 0 0 (by omega) (by omega) ⟨rfl, tw_R hm hn⟩⟩
theorem i_vc_rotationsFound {k : Nat} {u : SX} {v : SY} (I : i_Rel k u v) (hk : k + 2 ≤ 1024) : wpX_rotationsFound (fun r => wpY_rotationsFound (fun r' => r' = r ∧ i_Rel (k + 2) u v) v) u := by
  obtain ⟨m, n, w, t, mo, hm, hn, rfl, rfl⟩ := I
  exact xl_rf hm hn (yl_rf hm hn ⟨rfl, tw_R hm hn⟩)
theorem i_vc_overlap {k : Nat} {u : SX} {v : SY} (I : i_Rel k u v) (hk : k + 2 ≤ 1024) : wpX_overlap (fun r => wpY_overlap (fun r' => r' = r ∧ i_Rel (k + 2) u v) v) u := by
  obtain ⟨m, n, w, t, mo, hm, hn, rfl, rfl⟩ := I
  refine pk_le n m (fun z => ⟨n + 1, xl_ov25 hn n (Nat.le_refl _) (by omega) ?_⟩) (fun z => ⟨m + 1, xl_ov25 hn m (by omega) hm ?_⟩)
  · exact ⟨n + 1, yl_ov4 hm hn z (Nat.le_refl _) (Or.inr (Nat.le_refl _)) ⟨rfl, tw_R hm hn⟩ n 0 (by omega)⟩
  · exact ⟨m + 1, yl_ov4 hm hn (Nat.le_refl _) (by omega) (Or.inl (Nat.le_refl _)) ⟨rfl, tw_R hm hn⟩ m 0 (by omega)⟩
