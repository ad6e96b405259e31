section
theorem pk_us {f : Nat → Int32} {k : Nat} {x : Int32} : upd f k x k = x := if_pos rfl
theorem pk_un {f : Nat → Int32} {k j : Nat} {x : Int32} (h : j ≠ k) : upd f k x j = f j := if_neg h
theorem pk_sub {a b : Nat} (h : b ≤ a) : nI a - nI b = nI (a - b) := by
  obtain ⟨c, rfl⟩ : ∃ c, a = c + b := ⟨a - b, by omega⟩
  rw [← nI_add, Int32.add_sub_cancel, Nat.add_sub_cancel]
theorem pk_m1 (n : Nat) : nI (n + 1) + (-1) = nI n := by
  rw [← nI_1, Int32.add_assoc, show (1 : Int32) + (-1) = 0 from rfl, Int32.add_zero]
theorem pk_mul (a b : Nat) : nI a * nI b = nI (a * b) := (Int32.ofNat_mul a b).symm
theorem pk_div {a d : Nat} (ha : a < 2 ^ 31) (h0 : 0 < d) (hd : d < 2 ^ 31) : nI a / nI d = nI (a / d) := by
  apply Int32.toInt_inj.mp
  rw [lg_idiv_nonneg (by rw [nI_toInt ha]; omega) (by rw [nI_toInt hd]; omega), nI_toInt ha, nI_toInt hd, nI_toInt (Nat.lt_of_le_of_lt (Nat.div_le_self a d) ha)]
  first | rfl | exact (Int.natCast_ediv _ _).symm
theorem pk_rem {a d : Nat} (ha : a < 2 ^ 31) (h0 : 0 < d) (hd : d < 2 ^ 31) : nI a - nI a / nI d * nI d = nI (a % d) := by
  rw [pk_div ha h0 hd, pk_mul, pk_sub (Nat.div_mul_le_self a d)]
  exact congrArg nI (by have := Nat.div_add_mod' a d; omega)
theorem pk_sub_toInt {a b : Nat} (ha : a < 2 ^ 30) (hb : b < 2 ^ 30) : (nI a - nI b).toInt = (a : Int) - b := by
  rw [Int32.toInt_sub, nI_toInt (by omega), nI_toInt (by omega)]
  exact Int.bmod_eq_of_le (by omega) (by omega)
theorem pk_sneg {a b : Nat} (hb : b < 2 ^ 30) (h : a < b) : nI a - nI b < 0 := by
  rw [Int32.lt_iff_toInt_lt, pk_sub_toInt (by omega) hb, show (0 : Int32).toInt = 0 from by decide]
  omega
theorem pk_ix (x : Int32) {n : Nat} (hn : n < 2 ^ 31) : x < 0 ∨ nI n ≤ x ∨ ∃ j : Nat, j < n ∧ x = nI j := by
  by_cases h : x < 0
  · exact Or.inl h
  · obtain ⟨j, hj, rfl⟩ := nI_of h
    by_cases h2 : j < n
    · exact Or.inr (Or.inr ⟨j, h2, rfl⟩)
    · exact Or.inr (Or.inl (nI_le (by omega) hj))
theorem pk_le {x y : Int32} {A B : Prop} (a b : Nat) (f : a ≤ b → A) (g : b < a → B) (hx : x = nI a := by rfl) (hy : y = nI b := by rfl) (ha : a < 2 ^ 31 := by omega) (hb : b < 2 ^ 31 := by omega) : (x ≤ y → A) ∧ (¬ x ≤ y → B) := by
  subst hx hy
  rw [nI_leI ha hb]
  exact ⟨f, fun z => g (by omega)⟩
theorem pk_lt {x y : Int32} {A B : Prop} (a b : Nat) (f : a < b → A) (g : b ≤ a → B) (hx : x = nI a := by rfl) (hy : y = nI b := by rfl) (ha : a < 2 ^ 31 := by omega) (hb : b < 2 ^ 31 := by omega) : (x < y → A) ∧ (¬ x < y → B) := by
  subst hx hy
  rw [nI_ltI ha hb]
  exact ⟨f, fun z => g (by omega)⟩
theorem pk_eq {x y : Int32} {A B : Prop} (a b : Nat) (f : a = b → A) (g : a ≠ b → B) (hx : x = nI a := by rfl) (hy : y = nI b := by rfl) (ha : a < 2 ^ 31 := by omega) (hb : b < 2 ^ 31 := by omega) : (x = y → A) ∧ (¬ x = y → B) := by
  subst hx hy
  rw [nI_eq ha hb]
  exact ⟨f, g⟩
theorem pk_in {x : Int32} (n N : Nat) (h : n < N) (hx : x = nI n := by rfl) (hN : N < 2 ^ 31 := by omega) : vp_in x N := by
  subst hx
  exact vp_in_nI h hN
theorem pk_cl {x : Int32} (n : Nat) (hx : x = nI n := by rfl) (h : n < 2 ^ 31 := by omega) : x.toNatClampNeg = n := by
  subst hx
  exact nI_clamp h
/-! the pure part: counts, searches, best places, recursions on places (mine) -/
theorem tw_fx {α V : Type} [Inhabited V] (μ : α → Nat) (F : (α → V) → α → V) : ∃ f : α → V, ∀ a, f a = F (fun b => if μ b < μ a then f b else default) a := by
  refine ⟨(measure μ).wf.fix (fun a r => F (fun b => if h : μ b < μ a then r b h else default) a), fun a => ?_⟩
  rw [WellFounded.fix_eq]
  apply congrArg (fun z => F z a)
  funext b
  by_cases h : μ b < μ a <;> simp [h]
noncomputable def tw_b (P : Prop) : Nat := @ite Nat P (Classical.propDecidable P) 1 0
theorem tw_bt {P : Prop} (h : P) : tw_b P = 1 := by unfold tw_b; rw [if_pos h]
theorem tw_bf {P : Prop} (h : ¬ P) : tw_b P = 0 := by unfold tw_b; rw [if_neg h]
noncomputable def tw_cn (P : Nat → Prop) : Nat → Nat
  | 0 => 0
  | k + 1 => tw_cn P k + tw_b (P k)
theorem tw_cn_t {P : Nat → Prop} {k : Nat} (h : P k) : tw_cn P (k + 1) = tw_cn P k + 1 := by
  show tw_cn P k + tw_b (P k) = _
  rw [tw_bt h]
theorem tw_cn_f {P : Nat → Prop} {k : Nat} (h : ¬ P k) : tw_cn P (k + 1) = tw_cn P k := by
  show tw_cn P k + tw_b (P k) = _
  rw [tw_bf h]
  rfl
noncomputable def tw_fs (P : Nat → Prop) : Nat → Nat → Int32
  | 0, _ => -4
  | d + 1, j => @ite Int32 (P j) (Classical.propDecidable _) (nI j) (tw_fs P d (j + 1))
theorem tw_fs_t {P : Nat → Prop} {d j : Nat} (h : P j) : tw_fs P (d + 1) j = nI j := by
  show @ite Int32 (P j) (Classical.propDecidable _) (nI j) (tw_fs P d (j + 1)) = _
  rw [if_pos h]
theorem tw_fs_f {P : Nat → Prop} {d j : Nat} (h : ¬ P j) : tw_fs P (d + 1) j = tw_fs P d (j + 1) := by
  show @ite Int32 (P j) (Classical.propDecidable _) (nI j) (tw_fs P d (j + 1)) = _
  rw [if_neg h]
theorem tw_fs_eq {P Q : Nat → Prop} : ∀ d j, (∀ i, j ≤ i → (P i ↔ Q i)) → tw_fs P d j = tw_fs Q d j := by
  intro d
  induction d with
  | zero => intro j _; rfl
  | succ d ih =>
    intro j h
    rcases Classical.em (P j) with z | z
    · rw [tw_fs_t z, tw_fs_t ((h j (Nat.le_refl _)).mp z)]
    · rw [tw_fs_f z, tw_fs_f (fun q => z ((h j (Nat.le_refl _)).mpr q)), ih (j + 1) (fun i hi => h i (by omega))]
theorem tw_fs_skip {P : Nat → Prop} (d : Nat) : ∀ f j, (∀ i, j ≤ i → i < j + f → ¬ P i) → tw_fs P (d + f) j = tw_fs P d (j + f) := by
  intro f
  induction f with
  | zero => intro j _; rfl
  | succ f ih =>
    intro j h
    rw [show d + (f + 1) = (d + f) + 1 from rfl, tw_fs_f (h j (Nat.le_refl _) (by omega)), ih (j + 1) (fun i h1 h2 => h i (by omega) (by omega)), show j + 1 + f = j + (f + 1) from by omega]
noncomputable def tw_ls (b : Nat) (P : Nat → Prop) : Nat → Nat
  | 0 => b
  | l + 1 => @ite Nat (P (l + 1)) (Classical.propDecidable _) (l + 1) (tw_ls b P l)
theorem tw_ls_t {b : Nat} {P : Nat → Prop} {l : Nat} (h : P (l + 1)) : tw_ls b P (l + 1) = l + 1 := by
  show @ite Nat (P (l + 1)) (Classical.propDecidable _) (l + 1) (tw_ls b P l) = _
  rw [if_pos h]
theorem tw_ls_f {b : Nat} {P : Nat → Prop} {l : Nat} (h : ¬ P (l + 1)) : tw_ls b P (l + 1) = tw_ls b P l := by
  show @ite Nat (P (l + 1)) (Classical.propDecidable _) (l + 1) (tw_ls b P l) = _
  rw [if_neg h]
theorem tw_ls1 (P : Nat → Prop) : ∀ l, 0 < tw_ls 1 P l ∧ (0 < l → tw_ls 1 P l ≤ l) := by
  intro l
  induction l with
  | zero => exact ⟨Nat.one_pos, fun h => absurd h (by omega)⟩
  | succ l ih =>
    rcases Classical.em (P (l + 1)) with z | z
    · rw [tw_ls_t z]; omega
    · rw [tw_ls_f z]
      refine ⟨ih.1, fun _ => ?_⟩
      rcases Nat.eq_zero_or_pos l with e | e
      · subst e; exact Nat.le_refl _
      · have := ih.2 e; omega
theorem tw_ls11 (P : Nat → Prop) : tw_ls 1 P 1 = 1 := by
  have := tw_ls1 P 1
  omega
noncomputable def tw_bs (B : Nat → Nat → Prop) : Nat → Nat
  | 0 => 0
  | i + 1 => @ite Nat (B (tw_bs B i) (i + 1)) (Classical.propDecidable _) (i + 1) (tw_bs B i)
theorem tw_bs_t {B : Nat → Nat → Prop} {i : Nat} (h : B (tw_bs B i) (i + 1)) : tw_bs B (i + 1) = i + 1 := by
  show @ite Nat (B (tw_bs B i) (i + 1)) (Classical.propDecidable _) (i + 1) (tw_bs B i) = _
  rw [if_pos h]
theorem tw_bs_f {B : Nat → Nat → Prop} {i : Nat} (h : ¬ B (tw_bs B i) (i + 1)) : tw_bs B (i + 1) = tw_bs B i := by
  show @ite Nat (B (tw_bs B i) (i + 1)) (Classical.propDecidable _) (i + 1) (tw_bs B i) = _
  rw [if_neg h]
theorem tw_bs_le (B : Nat → Nat → Prop) : ∀ i, tw_bs B i ≤ i := by
  intro i
  induction i with
  | zero => exact Nat.le_refl _
  | succ i ih =>
    rcases Classical.em (B (tw_bs B i) (i + 1)) with z | z
    · rw [tw_bs_t z]; exact Nat.le_refl _
    · rw [tw_bs_f z]; omega
/-- the rotation from s of the word stands in the text at i -/
def tw_oc (w t : Nat → Int32) (m n s i : Nat) : Prop := 0 < m ∧ i + m ≤ n ∧ ∀ k, k < m → t (i + k) = w ((s + k) % m)
/-- the beginning of length l of the word is an end of its beginning of length q -/
def tw_bo (w : Nat → Int32) (l q : Nat) : Prop := ∀ k, k < l → w k = w (q - l + k)
/-- the beginning of length l of the word is an end of the text -/
def tw_en (w t : Nat → Int32) (n l : Nat) : Prop := ∀ k, k < l → t (n - l + k) = w k
/-- x before y in the order o -/
def tw_lt (o x y : Int32) : Prop := (o = 0 → x < y) ∧ (¬ o = 0 → y < x)
/-- the part from a comes before the part from b (a < b), both up to e -/
def tw_be (w : Nat → Int32) (o : Int32) (e a b : Nat) : Prop := ∃ k, b + k < e ∧ (∀ j, j < k → w (a + j) = w (b + j)) ∧ ¬ w (a + k) = w (b + k) ∧ tw_lt o (w (a + k)) (w (b + k))
/-- the rotation from a comes before that from b -/
def tw_ro (w : Nat → Int32) (m a b : Nat) : Prop := ∃ k, k < m ∧ (∀ j, j < k → w ((a + j) % m) = w ((b + j) % m)) ∧ ¬ w ((a + k) % m) = w ((b + k) % m) ∧ w ((a + k) % m) < w ((b + k) % m)
/-- the part from s up to e is Lyndon -/
def tw_ly (w : Nat → Int32) (s e : Nat) : Prop := ∀ i, s < i → i < e → tw_be w 0 e s i
/-- the beginning of length l of the part from s is Lyndon; the length of the longest such up to m -/
def tw_lp (w : Nat → Int32) (s l : Nat) : Prop := tw_ly w s (s + l)
noncomputable def tw_L (w : Nat → Int32) (m s : Nat) : Nat := tw_ls 1 (tw_lp w s) (m - s)
theorem tw_L_in (w : Nat → Int32) {m s : Nat} (h : s < m) : 0 < tw_L w m s ∧ s + tw_L w m s ≤ m := by
  have a := tw_ls1 (tw_lp w s) (m - s)
  have b := a.2 (by omega)
  unfold tw_L
  omega
theorem tw_rot {m s k : Nat} (hs : s < m) (hk : k < m) : (s + k) % m = if s + k < m then s + k else s + k - m := by
  by_cases h : s + k < m
  · rw [if_pos h, Nat.mod_eq_of_lt h]
  · rw [if_neg h, Nat.mod_eq_sub_mod (by omega), Nat.mod_eq_of_lt (by omega)]
/-- the text with the first k letters of the word put behind its n -/
def tw_fp (w t : Nat → Int32) (n : Nat) : Nat → (Nat → Int32)
  | 0 => t
  | k + 1 => upd (tw_fp w t n k) (n + k) (w k)
/-- the number of Lyndon factors from s on -/
theorem tw_exF (L : Nat → Nat) (m : Nat) (hL : ∀ s, s < m → 0 < L s) : ∃ F : Nat → Nat, (∀ s, m ≤ s → F s = 0) ∧ (∀ s, s < m → F s = F (s + L s) + 1) := by
  obtain ⟨f, hf⟩ := tw_fx (V := Nat) (fun s : Nat => m - s) (fun r s => if s < m then r (s + L s) + 1 else 0)
  refine ⟨f, fun s h => ?_, fun s h => ?_⟩
  · rw [hf s, if_neg (by omega)]
  · have := hL s h
    rw [hf s, if_pos h]
    dsimp only
    rw [if_pos (by omega)]
/-- the length of the factor number i, from s on, where the factor at s has the number c -/
theorem tw_exG (L : Nat → Nat) (m : Nat) (i : Int32) (hL : ∀ s, s < m → 0 < L s) : ∃ G : Nat → Nat → Int32, (∀ s c, m ≤ s → G s c = -4) ∧ (∀ s c, s < m → nI c = i → G s c = nI (L s)) ∧ (∀ s c, s < m → ¬ nI c = i → G s c = G (s + L s) (c + 1)) := by
  obtain ⟨f, hf⟩ := tw_fx (V := Nat → Int32) (fun s : Nat => m - s) (fun r s c => if s < m then (if nI c = i then nI (L s) else r (s + L s) (c + 1)) else -4)
  refine ⟨f, fun s c h => ?_, fun s c h e => ?_, fun s c h e => ?_⟩
  · rw [hf s]
    dsimp only
    rw [if_neg (by omega)]
  · rw [hf s]
    dsimp only
    rw [if_pos h, if_pos e]
  · have := hL s h
    rw [hf s]
    dsimp only
    rw [if_pos h, if_neg e, if_pos (by omega)]
def tw_mx (a b : Nat) : Nat := if a < b then b else a
theorem tw_mx_in (a b : Nat) : (a < b ∧ tw_mx a b = b) ∨ (b ≤ a ∧ tw_mx a b = a) := by
  unfold tw_mx
  by_cases h : a < b
  · rw [if_pos h]; exact Or.inl ⟨h, rfl⟩
  · rw [if_neg h]; exact Or.inr ⟨by omega, rfl⟩
/-- the most occurrences apart from i on -/
theorem tw_exD (P : Nat → Prop) (m n : Nat) (hP : ∀ i, P i → 0 < m ∧ i + m ≤ n) : ∃ D : Nat → Nat, (∀ i, n ≤ i → D i = 0) ∧ (∀ i, i < n → P i → D i = tw_mx (D (i + 1)) (1 + D (i + m))) ∧ (∀ i, i < n → ¬ P i → D i = D (i + 1)) := by
  obtain ⟨f, hf⟩ := tw_fx (V := Nat) (fun s : Nat => n - s) (fun r i => if i < n then (@ite Nat (P i) (Classical.propDecidable _) (tw_mx (r (i + 1)) (1 + r (i + m))) (r (i + 1))) else 0)
  refine ⟨f, fun s h => ?_, fun s h p => ?_, fun s h p => ?_⟩
  · rw [hf s, if_neg (by omega)]
  · have := hP s p
    rw [hf s, if_pos h, if_pos p]
    dsimp only
    rw [if_pos (by omega), if_pos (by omega)]
  · rw [hf s, if_pos h, if_neg p]
    dsimp only
    rw [if_pos (by omega)]
section
variable {P : Nat → Prop} {m n : Nat} {D : Nat → Nat}
theorem tw_D_le (hP : ∀ i, P i → 0 < m ∧ i + m ≤ n) (h0 : ∀ i, n ≤ i → D i = 0) (h1 : ∀ i, i < n → P i → D i = tw_mx (D (i + 1)) (1 + D (i + m))) (h2 : ∀ i, i < n → ¬ P i → D i = D (i + 1)) : ∀ d i, n ≤ i + d → D i ≤ d := by
  intro d
  induction d using Nat.strongRecOn with
  | _ d ih =>
    intro i h
    by_cases z : i < n
    · have a := ih (d - 1) (by omega) (i + 1) (by omega)
      rcases Classical.em (P i) with p | p
      · have q := hP i p
        have b := ih (d - 1) (by omega) (i + m) (by omega)
        rw [h1 i z p]
        rcases tw_mx_in (D (i + 1)) (1 + D (i + m)) with ⟨_, e⟩ | ⟨_, e⟩ <;> rw [e] <;> omega
      · rw [h2 i z p]; omega
    · rw [h0 i (by omega)]; omega
theorem tw_D_step (h0 : ∀ i, n ≤ i → D i = 0) (h1 : ∀ i, i < n → P i → D i = tw_mx (D (i + 1)) (1 + D (i + m))) (h2 : ∀ i, i < n → ¬ P i → D i = D (i + 1)) (i : Nat) : D (i + 1) ≤ D i := by
  by_cases z : i < n
  · rcases Classical.em (P i) with p | p
    · rw [h1 i z p]
      rcases tw_mx_in (D (i + 1)) (1 + D (i + m)) with ⟨_, e⟩ | ⟨_, e⟩ <;> rw [e] <;> omega
    · rw [h2 i z p]; exact Nat.le_refl _
  · rw [h0 (i + 1) (by omega)]; exact Nat.zero_le _
theorem tw_D_anti (h0 : ∀ i, n ≤ i → D i = 0) (h1 : ∀ i, i < n → P i → D i = tw_mx (D (i + 1)) (1 + D (i + m))) (h2 : ∀ i, i < n → ¬ P i → D i = D (i + 1)) (i : Nat) : ∀ d, D (i + d) ≤ D i := by
  intro d
  induction d with
  | zero => exact Nat.le_refl _
  | succ d ih => exact Nat.le_trans (tw_D_step h0 h1 h2 (i + d)) ih
theorem tw_D_one (hP : ∀ i, P i → 0 < m ∧ i + m ≤ n) (h0 : ∀ i, n ≤ i → D i = 0) (h1 : ∀ i, i < n → P i → D i = tw_mx (D (i + 1)) (1 + D (i + m))) (h2 : ∀ i, i < n → ¬ P i → D i = D (i + 1)) (i : Nat) : ∀ d j, n ≤ j + d → i ≤ j → D j ≤ 1 + D (i + m) := by
  intro d
  induction d with
  | zero => intro j h _; rw [h0 j h]; omega
  | succ d ih =>
    intro j h hj
    by_cases z : j < n
    · have a := ih (j + 1) (by omega) (by omega)
      rcases Classical.em (P j) with p | p
      · have b := tw_D_anti h0 h1 h2 (i + m) (j - i)
        rw [show i + m + (j - i) = j + m from by omega] at b
        rw [h1 j z p]
        rcases tw_mx_in (D (j + 1)) (1 + D (j + m)) with ⟨_, e⟩ | ⟨_, e⟩ <;> rw [e] <;> omega
      · rw [h2 j z p]; exact a
    · rw [h0 j (by omega)]; omega
/-- an occurrence at i: taking it is as good as any other way -/
theorem tw_D_t (hP : ∀ i, P i → 0 < m ∧ i + m ≤ n) (h0 : ∀ i, n ≤ i → D i = 0) (h1 : ∀ i, i < n → P i → D i = tw_mx (D (i + 1)) (1 + D (i + m))) (h2 : ∀ i, i < n → ¬ P i → D i = D (i + 1)) {i : Nat} (p : P i) : D i = 1 + D (i + m) := by
  have q := hP i p
  have a := tw_D_one hP h0 h1 h2 i n (i + 1) (by omega) (by omega)
  rw [h1 i (by omega) p]
  rcases tw_mx_in (D (i + 1)) (1 + D (i + m)) with ⟨_, e⟩ | ⟨_, e⟩ <;> rw [e] <;> omega
end
/-! sums and differences of small numbers -/
theorem tw_sle {p n m : Nat} (hp : p < 2 ^ 30) (hn : n < 2 ^ 30) (hm : m < 2 ^ 30) : nI p ≤ nI n - nI m ↔ p + m ≤ n := by
  rw [Int32.le_iff_toInt_le, pk_sub_toInt hn hm, nI_toInt (by omega)]
  omega
theorem tw_sle2 {p n m : Nat} (hp : p < 2 ^ 30) (hn : n < 2 ^ 30) (hm : m < 2 ^ 30) : nI n - nI m ≤ nI p ↔ n ≤ p + m := by
  rw [Int32.le_iff_toInt_le, pk_sub_toInt hn hm, nI_toInt (by omega)]
  omega
theorem tw_slt {p n m : Nat} (hp : p < 2 ^ 30) (hn : n < 2 ^ 30) (hm : m < 2 ^ 30) : nI p < nI n - nI m ↔ p + m < n := by
  rw [Int32.lt_iff_toInt_lt, pk_sub_toInt hn hm, nI_toInt (by omega)]
  omega
theorem tw_slt2 {p n m : Nat} (hp : p < 2 ^ 30) (hn : n < 2 ^ 30) (hm : m < 2 ^ 30) : nI n - nI m < nI p ↔ n < p + m := by
  rw [Int32.lt_iff_toInt_lt, pk_sub_toInt hn hm, nI_toInt (by omega)]
  omega
theorem tw_sub1 (a m : Nat) : nI a - nI m + 1 = nI (a + 1) - nI m := by
  rw [← nI_1]
  grind
theorem tw_m1s (a : Nat) : nI a - 1 = nI a + (-1) := by grind
theorem tw_cl {k : Nat} (h : k < 1000) : (nI k).toNatClampNeg = k := nI_clamp (by omega)
theorem tw_ib {c d A B : Prop} (e : c ↔ d) (f : d → A) (g : ¬ d → B) : (c → A) ∧ (¬ c → B) := ⟨fun h => f (e.mp h), fun h => g (fun z => h (e.mpr z))⟩
theorem tw_n1 : ¬ (1 : Int32) = 0 := by decide
theorem tw_mx_l {a b : Nat} (h : a ≤ b) : tw_mx a b = b := by
  rcases tw_mx_in a b with ⟨_, e⟩ | ⟨_, e⟩ <;> omega
theorem tw_mx_r {a b : Nat} (h : b ≤ a) : tw_mx a b = a := by
  rcases tw_mx_in a b with ⟨_, e⟩ | ⟨_, e⟩ <;> omega
/-- q is a period of the word of length m -/
def tw_pe (w : Nat → Int32) (m q : Nat) : Prop := tw_bo w (m - q) m
/-- l is the length of a border of the beginning of length q -/
def tw_bp (w : Nat → Int32) (q l : Nat) : Prop := tw_bo w l q
/-- the place p of the text is covered -/
def tw_cv (w t : Nat → Int32) (m n p : Nat) : Prop := ∃ i, i ≤ p ∧ p < i + m ∧ tw_oc w t m n 0 i
/-- the rotation from s is found -/
def tw_fd (w t : Nat → Int32) (m n s : Nat) : Prop := ∃ i, i < n ∧ tw_oc w t m n s i
theorem tw_be_at {w : Nat → Int32} {o : Int32} {e a b k : Nat} (hk : b + k < e) (hj : ∀ j, j < k → w (a + j) = w (b + j)) (hne : ¬ w (a + k) = w (b + k)) : tw_be w o e a b ↔ tw_lt o (w (a + k)) (w (b + k)) := by
  constructor
  · rintro ⟨q, _, hq, hn, hl⟩
    rcases Nat.lt_trichotomy q k with y | y | y
    · exact absurd (hj q y) hn
    · rw [y] at hl; exact hl
    · exact absurd (hq k y) hne
  · exact fun h => ⟨k, hk, hj, hne, h⟩
theorem tw_ro_at {w : Nat → Int32} {m a b k : Nat} (hk : k < m) (hj : ∀ j, j < k → w ((a + j) % m) = w ((b + j) % m)) (hne : ¬ w ((a + k) % m) = w ((b + k) % m)) : tw_ro w m a b ↔ w ((a + k) % m) < w ((b + k) % m) := by
  constructor
  · rintro ⟨q, _, hq, hn, hl⟩
    rcases Nat.lt_trichotomy q k with y | y | y
    · exact absurd (hj q y) hn
    · rw [y] at hl; exact hl
    · exact absurd (hq k y) hne
  · exact fun h => ⟨k, hk, hj, hne, h⟩
theorem tw_oc_in {w t : Nat → Int32} {m n : Nat} : ∀ i, tw_oc w t m n 0 i → 0 < m ∧ i + m ≤ n := fun _ o => ⟨o.1, o.2.1⟩
end
section
section
variable {m n : Nat} {w t : Nat → Int32} {M N : Int32}
/-! the component's walks, each against the pure picture -/
theorem xl_let1 {post : Int32 → Prop} {c : Int32} (h : ¬ c < 0 ∧ ¬ 2 < c) (p : post 1) : wpX_isLetter post c := br_f h.1 (br_f h.2 p)
theorem xl_let0 {post : Int32 → Prop} {c : Int32} (h : ¬ (¬ c < 0 ∧ ¬ 2 < c)) (p : post 0) : wpX_isLetter post c := br_c (fun _ => p) (fun a => br_c (fun _ => p) (fun b => absurd ⟨a, b⟩ h))
theorem xl_rl (hm : m ≤ 16) {s k : Nat} (hs : s < m) (hk : k < m) {post : Int32 → Prop} (h : post (w ((s + k) % m))) : wpX_rotationLetter post (nI m, N, w, t) (nI s) (nI k) := by
  rw [tw_rot hs hk] at h
  refine nm_r (nI_add s k) ?_
  refine pk_le m (s + k) (fun z => ⟨pk_in (s + k - m) 16 (by omega) (pk_sub z), ?_⟩) (fun z => ⟨pk_in (s + k) 16 (by omega), ?_⟩)
  · rw [if_neg (by omega)] at h
    rw [pk_cl (s + k - m) (pk_sub z)]
    exact h
  · rw [if_pos z] at h
    rw [tw_cl (k := s + k) (by omega)]
    exact h
theorem xl_ro17 (hm : m ≤ 16) (hn : n ≤ 48) {s i : Nat} (hs : s < m) (hi : i + m ≤ n) {post : Int32 → Prop} (h1 : tw_oc w t m n s i → post 1) (h0 : ¬ tw_oc w t m n s i → post 0) : ∀ d k, k + d = m → (∀ j, j < k → t (i + j) = w ((s + j) % m)) → wX_rotationOccursAt_17 post (nI s) (nI i) (nI m) (nI n) w t (d + 1) (nI k) := by
  intro d
  induction d with
  | zero =>
    intro k hk hj
    exact pk_le m k (fun _ => h1 ⟨by omega, hi, fun j q => hj j (by omega)⟩) (fun z => absurd z (by omega))
  | succ d ih =>
    intro k hk hj
    refine pk_le m k (fun z => absurd z (by omega)) (fun z => ⟨pk_in (i + k) 48 (by omega) (nI_add i k), ?_⟩)
    refine xl_rl hm hs z ?_
    rw [pk_cl (i + k) (nI_add i k)]
    exact br_c (fun e => nm_r (nI_1 k) (ih (k + 1) (by omega) (lt_s (p := fun j => t (i + j) = w ((s + j) % m)) hj e))) (fun e => h0 (fun o => e (o.2.2 k z)))
theorem xl_ro (hm : m ≤ 16) (hn : n ≤ 48) {s i : Nat} (hs : s < m) (hi : i < 2 ^ 30) {post : Int32 → Prop} (h1 : tw_oc w t m n s i → post 1) (h0 : ¬ tw_oc w t m n s i → post 0) : wpX_rotationOccursAt post (nI m, nI n, w, t) (nI s) (nI i) := by
  refine tw_ib (tw_sle hi (by omega) (by omega)) (fun z => ⟨m + 1, ?_⟩) (fun z => h0 (fun o => z o.2.1))
  exact xl_ro17 hm hn hs z h1 h0 m 0 (by omega) (fun j q => absurd q (by omega))
theorem xl_oc (hm : m ≤ 16) (hn : n ≤ 48) {i : Nat} (hi : i < 2 ^ 30) {post : Int32 → Prop} (h1 : tw_oc w t m n 0 i → post 1) (h0 : ¬ tw_oc w t m n 0 i → post 0) : wpX_occursAt post (nI m, nI n, w, t) (nI i) := by
  refine pk_le m 0 (fun z => h0 (fun o => absurd o.1 (by omega))) (fun z => ?_)
  exact xl_ro (s := 0) hm hn z hi (fun o => br_f tw_n1 (h1 o)) (fun o => br_t rfl (h0 o))
theorem xl_occ4 (hm : m ≤ 16) (hn : n ≤ 48) {post : Int32 → Prop} (h : post (nI (tw_cn (tw_oc w t m n 0) n))) : ∀ d i, i + d = n → wX_occurrences_4 post (nI m) (nI n) w t (d + 1) (nI (tw_cn (tw_oc w t m n 0) i)) (nI i) := by
  intro d
  induction d with
  | zero =>
    intro i hi
    refine pk_le n i (fun _ => ?_) (fun z => absurd z (by omega))
    rw [show i = n from by omega]
    exact h
  | succ d ih =>
    intro i hi
    refine pk_le n i (fun z => absurd z (by omega)) (fun z => xl_oc hm hn (by omega) (fun o => br_f tw_n1 ?_) (fun o => br_t rfl ?_))
    · refine nm_r (nI_1 _) (nm_r (nI_1 i) ?_)
      rw [← tw_cn_t (P := tw_oc w t m n 0) (k := i) o]
      exact ih (i + 1) (by omega)
    · refine nm_r (nI_1 i) ?_
      rw [← tw_cn_f (P := tw_oc w t m n 0) (k := i) o]
      exact ih (i + 1) (by omega)
theorem xl_occ (hm : m ≤ 16) (hn : n ≤ 48) {post : Int32 → Prop} (h : post (nI (tw_cn (tw_oc w t m n 0) n))) : wpX_occurrences post (nI m, nI n, w, t) := ⟨n + 1, xl_occ4 hm hn h n 0 (by omega)⟩
theorem xl_nx12 (hm : m ≤ 16) (hn : n ≤ 48) {post : Int32 → Prop} : ∀ d i, i + d = n → post (tw_fs (tw_oc w t m n 0) d i) → wX_next_12 post (nI m) (nI n) w t (d + 1) (nI i) := by
  intro d
  induction d with
  | zero => intro i hi h; exact pk_le n i (fun _ => h) (fun z => absurd z (by omega))
  | succ d ih =>
    intro i hi h
    refine pk_le n i (fun z => absurd z (by omega)) (fun z => xl_oc hm hn (by omega) (fun o => br_f tw_n1 ?_) (fun o => br_t rfl (nm_r (nI_1 i) (ih (i + 1) (by omega) ?_))))
    · rw [tw_fs_t o] at h; exact h
    · rw [tw_fs_f o] at h; exact h
theorem xl_ap6 (hm : m ≤ 16) (hn : n ≤ 48) {D : Nat → Nat} (h0 : ∀ i, n ≤ i → D i = 0) (h1 : ∀ i, i < n → tw_oc w t m n 0 i → D i = tw_mx (D (i + 1)) (1 + D (i + m))) (h2 : ∀ i, i < n → ¬ tw_oc w t m n 0 i → D i = D (i + 1)) {post : Int32 → Prop} : ∀ d p f c, p + d = n → f < 2 ^ 20 → post (nI (c + D (tw_mx p f))) → wX_apart_6 post (nI m) (nI n) w t (d + 1) (nI c) (nI f) (nI p) := by
  intro d
  induction d with
  | zero =>
    intro p f c hp hf h
    refine pk_le n p (fun _ => ?_) (fun z => absurd z (by omega))
    rw [h0 (tw_mx p f) (by rcases tw_mx_in p f with ⟨_, e⟩ | ⟨_, e⟩ <;> omega)] at h
    exact h
  | succ d ih =>
    intro p f c hp hf h
    refine pk_le n p (fun z => absurd z (by omega)) (fun z => pk_lt p f (fun y => nm_r (nI_1 p) (ih (p + 1) f c (by omega) hf ?_)) (fun y => xl_oc hm hn (by omega) (fun o => br_f tw_n1 ?_) (fun o => br_t rfl (nm_r (nI_1 p) (ih (p + 1) f c (by omega) hf ?_)))))
    · rw [tw_mx_l (by omega)] at h
      rw [tw_mx_l (by omega)]
      exact h
    · have q := o.1
      refine nm_r (nI_1 c) (nm_r (nI_add p m) (nm_r (nI_1 p) (ih (p + 1) (p + m) (c + 1) (by omega) (by omega) ?_)))
      rw [tw_mx_r y, tw_D_t tw_oc_in h0 h1 h2 o, ← Nat.add_assoc] at h
      rw [tw_mx_l (by omega)]
      exact h
    · rw [tw_mx_r y, h2 p z o] at h
      rw [tw_mx_r (by omega)]
      exact h
theorem xl_ap (hm : m ≤ 16) (hn : n ≤ 48) {D : Nat → Nat} (h0 : ∀ i, n ≤ i → D i = 0) (h1 : ∀ i, i < n → tw_oc w t m n 0 i → D i = tw_mx (D (i + 1)) (1 + D (i + m))) (h2 : ∀ i, i < n → ¬ tw_oc w t m n 0 i → D i = D (i + 1)) {post : Int32 → Prop} (h : post (nI (D 0))) : wpX_apart post (nI m, nI n, w, t) := by
  refine ⟨n + 1, xl_ap6 hm hn h0 h1 h2 n 0 0 0 (by omega) (by omega) ?_⟩
  rw [tw_mx_l (Nat.le_refl 0), Nat.zero_add]
  exact h
theorem xl_cv6 (hm : m ≤ 16) (hn : n ≤ 48) {post : Int32 → Prop} (h : post (nI (tw_cn (tw_cv w t m n) n))) : ∀ d p b, p + d = n → b < 2 ^ 20 → (∀ j, j < p → tw_oc w t m n 0 j → j + m ≤ b) → (b = 0 ∨ ∃ j, j < p ∧ tw_oc w t m n 0 j ∧ b = j + m) → wX_covered_6 post (nI m) (nI n) w t (d + 1) (nI (tw_cn (tw_cv w t m n) p)) (nI b) (nI p) := by
  intro d
  induction d with
  | zero =>
    intro p b hp hb i1 i2
    refine pk_le n p (fun _ => ?_) (fun z => absurd z (by omega))
    rw [show p = n from by omega]
    exact h
  | succ d ih =>
    intro p b hp hb i1 i2
    have J : ∀ b', b' < 2 ^ 20 → (∀ j, j < p + 1 → tw_oc w t m n 0 j → j + m ≤ b') → (b' = 0 ∨ ∃ j, j < p + 1 ∧ tw_oc w t m n 0 j ∧ b' = j + m) → wX_covered_29 post (wX_covered_6 post (nI m) (nI n) w t (d + 1)) (nI (tw_cn (tw_cv w t m n) p)) (nI b') (nI p) (nI m) (nI n) w t := by
      intro b' hb' j1 j2
      refine pk_le b' p (fun y => nm_r (nI_1 p) ?_) (fun y => nm_r (nI_1 _) (nm_r (nI_1 p) ?_))
      · have q : ¬ tw_cv w t m n p := by
          rintro ⟨i, a, c, o⟩
          have := j1 i (by omega) o
          omega
        rw [← tw_cn_f (P := tw_cv w t m n) (k := p) q]
        exact ih (p + 1) b' (by omega) hb' j1 j2
      · have q : tw_cv w t m n p := by
          rcases j2 with e | ⟨j, a, o, e⟩
          · omega
          · exact ⟨j, by omega, by omega, o⟩
        rw [← tw_cn_t (P := tw_cv w t m n) (k := p) q]
        exact ih (p + 1) b' (by omega) hb' j1 j2
    refine pk_le n p (fun z => absurd z (by omega)) (fun z => xl_oc hm hn (by omega) (fun o => br_f tw_n1 (nm_r (nI_add p m) (J (p + m) (by omega) (fun j a _ => by omega) (Or.inr ⟨p, by omega, o, rfl⟩)))) (fun o => br_t rfl (J b hb (fun j a q => ?_) ?_)))
    · rcases Nat.lt_or_ge j p with y | y
      · exact i1 j y q
      · have e : j = p := by omega
        rw [e] at q
        exact absurd q o
    · rcases i2 with e | ⟨j, a, q, e⟩
      · exact Or.inl e
      · exact Or.inr ⟨j, by omega, q, e⟩
theorem xl_cv (hm : m ≤ 16) (hn : n ≤ 48) {post : Int32 → Prop} (h : post (nI (tw_cn (tw_cv w t m n) n))) : wpX_covered post (nI m, nI n, w, t) := ⟨n + 1, xl_cv6 hm hn h n 0 0 (by omega) (by omega) (fun j q => absurd q (by omega)) (Or.inl rfl)⟩
theorem xl_bo7 {l q : Nat} (hl : l ≤ q) (hq : q ≤ 16) {post : Int32 → Prop} (h1 : tw_bo w l q → post 1) (h0 : ¬ tw_bo w l q → post 0) : ∀ d k, k + d = l → (∀ j, j < k → w j = w (q - l + j)) → wX_isBorder_7 post (nI l) (nI (q - l)) M N w t (d + 1) (nI k) := by
  intro d
  induction d with
  | zero =>
    intro k hk hj
    exact pk_le l k (fun _ => h1 (fun j y => hj j (by omega))) (fun z => absurd z (by omega))
  | succ d ih =>
    intro k hk hj
    refine pk_le l k (fun z => absurd z (by omega)) (fun z => ⟨pk_in k 16 (by omega), pk_in (q - l + k) 16 (by omega) (nI_add _ _), ?_⟩)
    rw [tw_cl (k := k) (by omega), pk_cl (q - l + k) (nI_add _ _)]
    exact br_c (fun e => nm_r (nI_1 k) (ih (k + 1) (by omega) (lt_s (p := fun j => w j = w (q - l + j)) hj e))) (fun e => h0 (fun o => e (o k z)))
theorem xl_bo {l q : Nat} (hl : l ≤ q) (hq : q ≤ 16) {post : Int32 → Prop} (h1 : tw_bo w l q → post 1) (h0 : ¬ tw_bo w l q → post 0) : wpX_isBorder post (M, N, w, t) (nI l) (nI q) := nm_r (pk_sub hl) ⟨l + 1, xl_bo7 hl hq h1 h0 l 0 (by omega) (fun j y => absurd y (by omega))⟩
theorem xl_pe2 (hm : m ≤ 16) {post : Int32 → Prop} : ∀ d q, q + d = m + 1 → post (tw_fs (tw_pe w m) d q) → wX_period_2 post (nI m) N w t (d + 1) (nI q) := by
  intro d
  induction d with
  | zero => intro q hq h; exact pk_lt m q (fun _ => h) (fun z => absurd z (by omega))
  | succ d ih =>
    intro q hq h
    refine pk_lt m q (fun z => absurd z (by omega)) (fun z => ?_)
    rw [pk_sub z]
    refine xl_bo (by omega) hm (fun o => br_f tw_n1 ?_) (fun o => br_t rfl (nm_r (nI_1 q) (ih (q + 1) (by omega) ?_)))
    · rw [tw_fs_t (P := tw_pe w m) (j := q) o] at h; exact h
    · rw [tw_fs_f (P := tw_pe w m) (j := q) o] at h; exact h
theorem xl_pe (hm : m ≤ 16) {post : Int32 → Prop} (h : post (tw_fs (tw_pe w m) m 1)) : wpX_period post (nI m, N, w, t) := ⟨m + 1, xl_pe2 hm m 1 (by omega) h⟩
theorem xl_ps4 (hm : m ≤ 16) {post : Int32 → Prop} (h : post (nI (tw_cn (fun i => tw_pe w m (i + 1)) m))) : ∀ d i, i + d = m → wX_periods_4 post (nI m) N w t (d + 1) (nI (tw_cn (fun i => tw_pe w m (i + 1)) i)) (nI (i + 1)) := by
  intro d
  induction d with
  | zero =>
    intro i hi
    refine pk_lt m (i + 1) (fun _ => ?_) (fun z => absurd z (by omega))
    rw [show i = m from by omega]
    exact h
  | succ d ih =>
    intro i hi
    refine pk_lt m (i + 1) (fun z => absurd z (by omega)) (fun z => ?_)
    rw [pk_sub z]
    refine xl_bo (by omega) hm (fun o => br_f tw_n1 ?_) (fun o => br_t rfl ?_)
    · refine nm_r (nI_1 _) (nm_r (nI_1 (i + 1)) ?_)
      rw [← tw_cn_t (P := fun i => tw_pe w m (i + 1)) (k := i) o]
      exact ih (i + 1) (by omega)
    · refine nm_r (nI_1 (i + 1)) ?_
      rw [← tw_cn_f (P := fun i => tw_pe w m (i + 1)) (k := i) o]
      exact ih (i + 1) (by omega)
theorem xl_ps (hm : m ≤ 16) {post : Int32 → Prop} (h : post (nI (tw_cn (fun i => tw_pe w m (i + 1)) m))) : wpX_periods post (nI m, N, w, t) := ⟨m + 1, xl_ps4 hm h m 0 (by omega)⟩
theorem xl_br20 {k : Nat} (hk : k ≤ 16) {post : Int32 → Prop} : ∀ l, l < k → post (nI (tw_ls 0 (tw_bp w k) l)) → wX_border_20 post (nI k) M N w t (l + 1) (nI l) := by
  intro l
  induction l with
  | zero => intro _ h; exact pk_le 0 0 (fun _ => h) (fun z => absurd z (by omega))
  | succ l ih =>
    intro hl h
    refine pk_le (l + 1) 0 (fun z => absurd z (by omega)) (fun z => xl_bo (by omega) hk (fun o => br_f tw_n1 ?_) (fun o => br_t rfl (nm_r (pk_m1 l) (ih (by omega) ?_))))
    · rw [tw_ls_t (P := tw_bp w k) (l := l) o] at h; exact h
    · rw [tw_ls_f (P := tw_bp w k) (l := l) o] at h; exact h
theorem xl_pb8 {o : Int32} {a b e : Nat} (hab : a < b) (he : e ≤ 16) {post : Int32 → Prop} (h1 : tw_be w o e a b → post 1) (h0 : ¬ tw_be w o e a b → post 0) : ∀ d k, b + k + d = e → (∀ j, j < k → w (a + j) = w (b + j)) → wX_partComesBefore_8 post (nI e) o (nI (b - a)) M N w t (d + 1) (nI (b + k)) := by
  intro d
  induction d with
  | zero =>
    intro k hk hj
    refine pk_le e (b + k) (fun _ => h0 ?_) (fun z => absurd z (by omega))
    rintro ⟨q, y, _, hne, _⟩
    exact hne (hj q (by omega))
  | succ d ih =>
    intro k hk hj
    have ex : nI (b + k) - nI (b - a) = nI (a + k) := by
      rw [pk_sub (by omega)]
      exact congrArg nI (by omega)
    have e2 : w (nI (b + k) - nI (b - a)).toNatClampNeg = w (a + k) := by rw [ex, tw_cl (by omega)]
    have e3 : w (nI (b + k)).toNatClampNeg = w (b + k) := by rw [tw_cl (by omega)]
    refine pk_le e (b + k) (fun z => absurd z (by omega)) (fun z => ⟨pk_in (a + k) 16 (by omega) ex, nm_r e2 ⟨pk_in (b + k) 16 (by omega), nm_r e3 ?_⟩⟩)
    refine br_c (fun q => nm_r (nI_1 (b + k)) (ih (k + 1) (by omega) (lt_s (p := fun j => w (a + j) = w (b + j)) hj q))) (fun q => ?_)
    have T := tw_be_at (o := o) z hj q
    refine br_c (fun y => br_c (fun g => h0 (fun x => ?_)) (fun g => h1 (T.mpr ⟨fun _ => Int32.not_le.mp g, fun x => absurd y x⟩))) (fun y => br_c (fun g => h0 (fun x => ?_)) (fun g => h1 (T.mpr ⟨fun x => absurd x y, fun _ => Int32.not_le.mp g⟩)))
    · exact absurd ((T.mp x).1 y) (Int32.not_lt.mpr g)
    · exact absurd ((T.mp x).2 y) (Int32.not_lt.mpr g)
theorem xl_pb {o : Int32} {a b e : Nat} (hab : a < b) (hb : b ≤ e) (he : e ≤ 16) {post : Int32 → Prop} (h1 : tw_be w o e a b → post 1) (h0 : ¬ tw_be w o e a b → post 0) : wpX_partComesBefore post (M, N, w, t) (nI a) (nI b) (nI e) o := nm_r (pk_sub (by omega)) ⟨e - b + 1, xl_pb8 hab he h1 h0 (e - b) 0 (by omega) (fun j y => absurd y (by omega))⟩
theorem xl_ge25 (hm : m ≤ 16) {o : Int32} {post : Int32 → Prop} (h : post (nI (tw_bs (tw_be w o m) (m - 1)))) : ∀ d i, i + 1 + d = m → wX_greatestEnd_25 post o (nI m) N w t (d + 1) (nI (tw_bs (tw_be w o m) i)) (nI (i + 1)) := by
  intro d
  induction d with
  | zero =>
    intro i hi
    refine pk_le m (i + 1) (fun _ => ?_) (fun z => absurd z (by omega))
    rw [show i = m - 1 from by omega]
    exact h
  | succ d ih =>
    intro i hi
    have le := tw_bs_le (tw_be w o m) i
    refine pk_le m (i + 1) (fun z => absurd z (by omega)) (fun z => xl_pb (by omega) (by omega) hm (fun q => br_f tw_n1 (nm_r (nI_1 (i + 1)) ?_)) (fun q => br_t rfl (nm_r (nI_1 (i + 1)) ?_)))
    · have g := ih (i + 1) (by omega)
      rw [tw_bs_t (B := tw_be w o m) (i := i) q] at g
      exact g
    · have g := ih (i + 1) (by omega)
      rw [tw_bs_f (B := tw_be w o m) (i := i) q] at g
      exact g
theorem xl_rb2 (hm : m ≤ 16) {a b : Nat} (ha : a < m) (hb : b < m) {post : Int32 → Prop} (h1 : tw_ro w m a b → post 1) (h0 : ¬ tw_ro w m a b → post 0) : ∀ d k, k + d = m → (∀ j, j < k → w ((a + j) % m) = w ((b + j) % m)) → wX_rotationComesBefore_2 post (nI a) (nI b) (nI m) N w t (d + 1) (nI k) := by
  intro d
  induction d with
  | zero =>
    intro k hk hj
    refine pk_le m k (fun _ => h0 ?_) (fun z => absurd z (by omega))
    rintro ⟨q, y, _, hne, _⟩
    exact hne (hj q (by omega))
  | succ d ih =>
    intro k hk hj
    refine pk_le m k (fun z => absurd z (by omega)) (fun z => xl_rl hm ha z (xl_rl hm hb z ?_))
    refine br_c (fun e => nm_r (nI_1 k) (ih (k + 1) (by omega) (lt_s (p := fun j => w ((a + j) % m) = w ((b + j) % m)) hj e))) (fun e => br_c (fun g => h0 (fun x => ?_)) (fun g => h1 ?_))
    · exact absurd ((tw_ro_at z hj e).mp x) (Int32.not_lt.mpr g)
    · exact (tw_ro_at z hj e).mpr (Int32.not_le.mp g)
theorem xl_rb (hm : m ≤ 16) {a b : Nat} (ha : a < m) (hb : b < m) {post : Int32 → Prop} (h1 : tw_ro w m a b → post 1) (h0 : ¬ tw_ro w m a b → post 0) : wpX_rotationComesBefore post (nI m, N, w, t) (nI a) (nI b) := ⟨m + 1, xl_rb2 hm ha hb h1 h0 m 0 (by omega) (fun j y => absurd y (by omega))⟩
theorem xl_lr14 (hm : m ≤ 16) {post : Int32 → Prop} (h : post (nI (tw_bs (fun a b => tw_ro w m b a) (m - 1)))) : ∀ d i, i + 1 + d = m → wX_leastRotation_14 post (nI m) N w t (d + 1) (nI (tw_bs (fun a b => tw_ro w m b a) i)) (nI (i + 1)) := by
  intro d
  induction d with
  | zero =>
    intro i hi
    refine pk_le m (i + 1) (fun _ => ?_) (fun z => absurd z (by omega))
    rw [show i = m - 1 from by omega]
    exact h
  | succ d ih =>
    intro i hi
    have le := tw_bs_le (fun a b => tw_ro w m b a) i
    refine pk_le m (i + 1) (fun z => absurd z (by omega)) (fun z => xl_rb hm (by omega) (by omega) (fun q => br_f tw_n1 (nm_r (nI_1 (i + 1)) ?_)) (fun q => br_t rfl (nm_r (nI_1 (i + 1)) ?_)))
    · have g := ih (i + 1) (by omega)
      rw [tw_bs_t (B := fun a b => tw_ro w m b a) (i := i) q] at g
      exact g
    · have g := ih (i + 1) (by omega)
      rw [tw_bs_f (B := fun a b => tw_ro w m b a) (i := i) q] at g
      exact g
end
end
section
section
variable {m n : Nat} {w t : Nat → Int32} {M N : Int32}
theorem xl_ly4 {s e : Nat} (he : e ≤ 16) {post : Int32 → Prop} (h1 : tw_ly w s e → post 1) (h0 : ¬ tw_ly w s e → post 0) : ∀ d i, s < i → i + d = e → (∀ j, s < j → j < i → tw_be w 0 e s j) → wX_isLyndon_4 post (nI s) (nI e) M N w t (d + 1) (nI i) := by
  intro d
  induction d with
  | zero =>
    intro i hs hi hj
    exact pk_le e i (fun _ => h1 (fun j a b => hj j a (by omega))) (fun z => absurd z (by omega))
  | succ d ih =>
    intro i hs hi hj
    refine pk_le e i (fun z => absurd z (by omega)) (fun z => xl_pb hs (by omega) he (fun q => br_f tw_n1 (nm_r (nI_1 i) (ih (i + 1) (by omega) (by omega) (fun j a b => ?_)))) (fun q => br_t rfl (h0 (fun y => q (y i hs z)))))
    rcases Nat.lt_or_ge j i with y | y
    · exact hj j a y
    · have e : j = i := by omega
      rw [e]
      exact q
theorem xl_ly {s e : Nat} (hs : s < e) (he : e ≤ 16) {post : Int32 → Prop} (h1 : tw_ly w s e → post 1) (h0 : ¬ tw_ly w s e → post 0) : wpX_isLyndon post (M, N, w, t) (nI s) (nI e) := nm_r (nI_1 s) ⟨e - (s + 1) + 1, xl_ly4 he h1 h0 (e - (s + 1)) (s + 1) (by omega) (by omega) (fun j a b => absurd a (by omega))⟩
theorem xl_ll5 (hm : m ≤ 16) {s : Nat} {post : Int32 → Prop} : ∀ l, s + (l + 1) ≤ m → post (nI (tw_ls 1 (tw_lp w s) (l + 1))) → wX_longestLyndon_5 post (nI s) (nI m) N w t (l + 1) (nI (s + (l + 1))) := by
  intro l
  induction l with
  | zero =>
    intro hl h
    rw [tw_ls11] at h
    exact pk_le (s + 1) (s + 1) (fun _ => h) (fun z => absurd z (by omega)) rfl (nI_1 s)
  | succ l ih =>
    intro hl h
    refine pk_le (s + (l + 1 + 1)) (s + 1) (fun z => absurd z (by omega)) (fun z => xl_ly (by omega) (by omega) (fun q => br_f tw_n1 ?_) (fun q => br_t rfl (nm_r (pk_m1 (s + (l + 1))) (ih (by omega) ?_)))) rfl (nI_1 s)
    · rw [tw_ls_t (P := tw_lp w s) (l := l + 1) q] at h
      rw [pk_sub (by omega), show s + (l + 1 + 1) - s = l + 1 + 1 from by omega]
      exact h
    · rw [tw_ls_f (P := tw_lp w s) (l := l + 1) q] at h
      exact h
theorem xl_ll (hm : m ≤ 16) {s : Nat} (hs : s < m) {post : Int32 → Prop} (h : post (nI (tw_L w m s))) : wpX_longestLyndon post (nI m, N, w, t) (nI s) := by
  obtain ⟨l, e⟩ : ∃ l, m = s + (l + 1) := ⟨m - s - 1, by omega⟩
  have h' : post (nI (tw_ls 1 (tw_lp w s) (l + 1))) := by
    unfold tw_L at h
    rw [show m - s = l + 1 from by omega] at h
    exact h
  have g := xl_ll5 (N := N) (t := t) hm l (by omega) h'
  rw [← e] at g
  exact ⟨l + 1, g⟩
theorem xl_fa6 (hm : m ≤ 16) {F : Nat → Nat} (h0 : ∀ s, m ≤ s → F s = 0) (h1 : ∀ s, s < m → F s = F (s + tw_L w m s) + 1) {post : Int32 → Prop} : ∀ d p b c, p + d = m → p ≤ b → b ≤ m → post (nI (c + F b)) → wX_factors_6 post (nI m) N w t (d + 1) (nI c) (nI b) (nI p) := by
  intro d
  induction d with
  | zero =>
    intro p b c hp hb hb' h
    refine pk_le m p (fun _ => ?_) (fun z => absurd z (by omega))
    rw [h0 b (by omega)] at h
    exact h
  | succ d ih =>
    intro p b c hp hb hb' h
    refine pk_le m p (fun z => absurd z (by omega)) (fun z => pk_eq p b (fun y => nm_r (nI_1 c) (xl_ll hm z ?_)) (fun y => nm_r (nI_1 p) (ih (p + 1) b c (by omega) (by omega) hb' h)))
    have q := tw_L_in w z
    refine nm_r (nI_add p _) (nm_r (nI_1 p) (ih (p + 1) (p + tw_L w m p) (c + 1) (by omega) (by omega) (by omega) ?_))
    rw [← y, h1 p z] at h
    rw [show c + 1 + F (p + tw_L w m p) = c + (F (p + tw_L w m p) + 1) from by omega]
    exact h
theorem xl_fa (hm : m ≤ 16) {F : Nat → Nat} (h0 : ∀ s, m ≤ s → F s = 0) (h1 : ∀ s, s < m → F s = F (s + tw_L w m s) + 1) {post : Int32 → Prop} (h : post (nI (F 0))) : wpX_factors post (nI m, N, w, t) := by
  refine ⟨m + 1, xl_fa6 hm h0 h1 m 0 0 0 (by omega) (by omega) (by omega) ?_⟩
  rw [Nat.zero_add]
  exact h
theorem xl_fr7 (hm : m ≤ 16) {i : Int32} {G : Nat → Nat → Int32} (h0 : ∀ s c, m ≤ s → G s c = -4) (h1 : ∀ s c, s < m → nI c = i → G s c = nI (tw_L w m s)) (h2 : ∀ s c, s < m → ¬ nI c = i → G s c = G (s + tw_L w m s) (c + 1)) {post : Int32 → Prop} : ∀ d p b c, p + d = m → p ≤ b → b ≤ m → post (G b c) → wX_factor_7 post i (nI m) N w t (d + 1) (nI c) (nI b) (nI p) := by
  intro d
  induction d with
  | zero =>
    intro p b c hp hb hb' h
    refine pk_le m p (fun _ => ?_) (fun z => absurd z (by omega))
    rw [h0 b c (by omega)] at h
    exact h
  | succ d ih =>
    intro p b c hp hb hb' h
    refine pk_le m p (fun z => absurd z (by omega)) (fun z => pk_eq p b (fun y => xl_ll hm z ?_) (fun y => nm_r (nI_1 p) (ih (p + 1) b c (by omega) (by omega) hb' h)))
    have q := tw_L_in w z
    rw [← y] at h
    refine br_c (fun g => ?_) (fun g => nm_r (nI_1 c) (nm_r (nI_add p _) (nm_r (nI_1 p) (ih (p + 1) (p + tw_L w m p) (c + 1) (by omega) (by omega) (by omega) ?_))))
    · rw [h1 p c z g] at h
      exact h
    · rw [h2 p c z g] at h
      exact h
theorem xl_rs2 (hm : m ≤ 16) (hn : n ≤ 48) {s : Nat} (hs : s < m) {post : Int32 → Prop} (h1 : tw_fd w t m n s → post 1) (h0 : ¬ tw_fd w t m n s → post 0) : ∀ d i, i + d = n → (∀ j, j < i → ¬ tw_oc w t m n s j) → wX_rotationOccurs_2 post (nI s) (nI m) (nI n) w t (d + 1) (nI i) := by
  intro d
  induction d with
  | zero =>
    intro i hi hj
    refine pk_le n i (fun _ => h0 ?_) (fun z => absurd z (by omega))
    rintro ⟨j, a, b⟩
    exact hj j (by omega) b
  | succ d ih =>
    intro i hi hj
    exact pk_le n i (fun z => absurd z (by omega)) (fun z => xl_ro hm hn hs (by omega) (fun o => br_f tw_n1 (h1 ⟨i, z, o⟩)) (fun o => br_t rfl (nm_r (nI_1 i) (ih (i + 1) (by omega) (lt_s (p := fun j => ¬ tw_oc w t m n s j) hj o)))))
theorem xl_rs (hm : m ≤ 16) (hn : n ≤ 48) {s : Nat} (hs : s < m) {post : Int32 → Prop} (h1 : tw_fd w t m n s → post 1) (h0 : ¬ tw_fd w t m n s → post 0) : wpX_rotationOccurs post (nI m, nI n, w, t) (nI s) := ⟨n + 1, xl_rs2 hm hn hs h1 h0 n 0 (by omega) (fun j y => absurd y (by omega))⟩
theorem xl_rf4 (hm : m ≤ 16) (hn : n ≤ 48) {post : Int32 → Prop} (h : post (nI (tw_cn (tw_fd w t m n) m))) : ∀ d i, i + d = m → wX_rotationsFound_4 post (nI m) (nI n) w t (d + 1) (nI (tw_cn (tw_fd w t m n) i)) (nI i) := by
  intro d
  induction d with
  | zero =>
    intro i hi
    refine pk_le m i (fun _ => ?_) (fun z => absurd z (by omega))
    rw [show i = m from by omega]
    exact h
  | succ d ih =>
    intro i hi
    refine pk_le m i (fun z => absurd z (by omega)) (fun z => xl_rs hm hn z (fun o => br_f tw_n1 ?_) (fun o => br_t rfl ?_))
    · refine nm_r (nI_1 _) (nm_r (nI_1 i) ?_)
      rw [← tw_cn_t (P := tw_fd w t m n) (k := i) o]
      exact ih (i + 1) (by omega)
    · refine nm_r (nI_1 i) ?_
      rw [← tw_cn_f (P := tw_fd w t m n) (k := i) o]
      exact ih (i + 1) (by omega)
theorem xl_rf (hm : m ≤ 16) (hn : n ≤ 48) {post : Int32 → Prop} (h : post (nI (tw_cn (tw_fd w t m n) m))) : wpX_rotationsFound post (nI m, nI n, w, t) := ⟨m + 1, xl_rf4 hm hn h m 0 (by omega)⟩
theorem xl_te9 (hn : n ≤ 48) {l : Nat} (hl : l ≤ n) (hl' : l ≤ 16) {post : Int32 → Prop} (h1 : tw_en w t n l → post 1) (h0 : ¬ tw_en w t n l → post 0) : ∀ d k, k + d = l → (∀ j, j < k → t (n - l + j) = w j) → wX_textEndsWithBeginning_9 post (nI l) (nI (n - l)) M N w t (d + 1) (nI k) := by
  intro d
  induction d with
  | zero =>
    intro k hk hj
    exact pk_le l k (fun _ => h1 (fun j y => hj j (by omega))) (fun z => absurd z (by omega))
  | succ d ih =>
    intro k hk hj
    refine pk_le l k (fun z => absurd z (by omega)) (fun z => ⟨pk_in (n - l + k) 48 (by omega) (nI_add _ _), pk_in k 16 (by omega), ?_⟩)
    rw [tw_cl (k := k) (by omega), pk_cl (n - l + k) (nI_add _ _)]
    exact br_c (fun e => nm_r (nI_1 k) (ih (k + 1) (by omega) (lt_s (p := fun j => t (n - l + j) = w j) hj e))) (fun e => h0 (fun o => e (o k z)))
theorem xl_te (hn : n ≤ 48) {l : Nat} (hl : l ≤ n) (hl' : l ≤ 16) {post : Int32 → Prop} (h1 : tw_en w t n l → post 1) (h0 : ¬ tw_en w t n l → post 0) : wpX_textEndsWithBeginning post (M, nI n, w, t) (nI l) := nm_r (pk_sub hl) ⟨l + 1, xl_te9 hn hl hl' h1 h0 l 0 (by omega) (fun j y => absurd y (by omega))⟩
theorem xl_ov25 (hn : n ≤ 48) {post : Int32 → Prop} : ∀ l, l ≤ n → l ≤ 16 → post (nI (tw_ls 0 (tw_en w t n) l)) → wX_overlap_25 post M (nI n) w t (l + 1) (nI l) := by
  intro l
  induction l with
  | zero => intro _ _ h; exact pk_le 0 0 (fun _ => h) (fun z => absurd z (by omega))
  | succ l ih =>
    intro hl hl' h
    refine pk_le (l + 1) 0 (fun z => absurd z (by omega)) (fun z => xl_te hn hl hl' (fun o => br_f tw_n1 ?_) (fun o => br_t rfl (nm_r (pk_m1 l) (ih (by omega) (by omega) ?_))))
    · rw [tw_ls_t (P := tw_en w t n) (l := l) o] at h; exact h
    · rw [tw_ls_f (P := tw_en w t n) (l := l) o] at h; exact h
theorem xl_fp19 (hm : m ≤ 16) (hnm : n + m ≤ 48) {post : Int32 → SX → Prop} (h : post (nI (n + m)) (nI m, nI (n + m), w, tw_fp w t n m)) : ∀ d k, k + d = m → wX_feedPattern_19 post (nI m) (nI n) (d + 1) (nI k) w (tw_fp w t n k) := by
  intro d
  induction d with
  | zero =>
    intro k hk
    refine pk_le m k (fun _ => nm_r (nI_add n m) ?_) (fun z => absurd z (by omega))
    rw [show k = m from by omega]
    exact h
  | succ d ih =>
    intro k hk
    have e : upd (tw_fp w t n k) (nI n + nI k).toNatClampNeg (w (nI k).toNatClampNeg) = tw_fp w t n (k + 1) := by
      rw [tw_cl (k := k) (by omega), pk_cl (n + k) (nI_add n k)]
      rfl
    exact pk_le m k (fun z => absurd z (by omega)) (fun z => ⟨pk_in k 16 (by omega), pk_in (n + k) 48 (by omega) (nI_add n k), nm_r e (nm_r (nI_1 k) (ih (k + 1) (by omega)))⟩)
end
end
section
section
variable {m n : Nat} {w t mo : Nat → Int32} {M N : Int32}
/-! the reference's walks, each against the same pure picture -/
theorem yl_let1 {u : SY} {post : Int32 → Prop} {c : Int32} (h : ¬ c < 0 ∧ ¬ 2 < c) (p : post 1) : wpY_isLetter post u c := br_f h.1 (br_f h.2 p)
theorem yl_let0 {u : SY} {post : Int32 → Prop} {c : Int32} (h : ¬ (¬ c < 0 ∧ ¬ 2 < c)) (p : post 0) : wpY_isLetter post u c := br_c (fun _ => p) (fun a => br_c (fun _ => p) (fun b => absurd ⟨a, b⟩ h))
theorem yl_rm {s k : Nat} (h0 : 0 < m) (hm : m ≤ 16) (hs : s ≤ 16) (hk : k ≤ 16) : nI s + nI k - (nI s + nI k) / nI m * nI m = nI ((s + k) % m) := by
  rw [nI_add]
  exact pk_rem (by omega) h0 (by omega)
theorem yl_st28 (hm : m ≤ 16) (hn : n ≤ 48) {s i : Nat} (hm0 : 0 < m) (hs : s ≤ 16) (hi : i + m ≤ n) {post : Int32 → Prop} (h1 : tw_oc w t m n s i → post 1) (h0 : ¬ tw_oc w t m n s i → post 0) : ∀ d k, k + d = m → (∀ j, j < k → t (i + j) = w ((s + j) % m)) → wY_standsAt_28 post (nI i) (nI s) (nI m) (nI n) w t mo (d + 1) (nI k) := by
  intro d
  induction d with
  | zero =>
    intro k hk hj
    exact pk_le m k (fun _ => h1 ⟨hm0, hi, fun j q => hj j (by omega)⟩) (fun z => absurd z (by omega))
  | succ d ih =>
    intro k hk hj
    have r : (s + k) % m < m := Nat.mod_lt _ hm0
    have e := yl_rm (s := s) (k := k) hm0 hm hs (by omega)
    refine pk_le m k (fun z => absurd z (by omega)) (fun z => ⟨pk_in (i + k) 48 (by omega) (nI_add i k), nI_ne0 hm0 (by omega), pk_in ((s + k) % m) 16 (by omega) e, ?_⟩)
    rw [pk_cl (i + k) (nI_add i k), pk_cl ((s + k) % m) e]
    exact br_c (fun e => nm_r (nI_1 k) (ih (k + 1) (by omega) (lt_s (p := fun j => t (i + j) = w ((s + j) % m)) hj e))) (fun e => h0 (fun o => e (o.2.2 k z)))
theorem yl_st (hm : m ≤ 16) (hn : n ≤ 48) {s i : Nat} (hs : s ≤ 16) (hi : i < 2 ^ 30) {post : Int32 → Prop} (h1 : tw_oc w t m n s i → post 1) (h0 : ¬ tw_oc w t m n s i → post 0) : wpY_standsAt post (nI m, nI n, w, t, mo) (nI i) (nI s) := by
  refine pk_eq m 0 (fun z => h0 (fun o => absurd o.1 (by omega))) (fun z => br_f (nI_pos (by omega)) (tw_ib (tw_sle hi (by omega) (by omega)) (fun y => ⟨m + 1, ?_⟩) (fun y => h0 (fun o => y o.2.1))))
  exact yl_st28 hm hn (by omega) hs y h1 h0 m 0 (by omega) (fun j q => absurd q (by omega))
theorem yl_stn {x s : Int32} (hx : x < 0) {post : Int32 → Prop} (h0 : post 0) : wpY_standsAt post (M, N, w, t, mo) x s := br_c (fun _ => h0) (fun _ => br_t hx h0)
theorem yl_occ4 (hm : m ≤ 16) (hn : n ≤ 48) {post : Int32 → Prop} (h : post (nI (tw_cn (tw_oc w t m n 0) n))) : ∀ d i, i + d = n → wY_occurrences_4 post (nI m) (nI n) w t mo (d + 1) (nI (tw_cn (tw_oc w t m n 0) i)) (nI i) := by
  intro d
  induction d with
  | zero =>
    intro i hi
    refine pk_le n i (fun _ => ?_) (fun z => absurd z (by omega))
    rw [show i = n from by omega]
    exact h
  | succ d ih =>
    intro i hi
    refine pk_le n i (fun z => absurd z (by omega)) (fun z => yl_st (s := 0) hm hn (by omega) (by omega) (fun o => br_f tw_n1 ?_) (fun o => br_t rfl ?_))
    · refine nm_r (nI_1 _) (nm_r (nI_1 i) ?_)
      rw [← tw_cn_t (P := tw_oc w t m n 0) (k := i) o]
      exact ih (i + 1) (by omega)
    · refine nm_r (nI_1 i) ?_
      rw [← tw_cn_f (P := tw_oc w t m n 0) (k := i) o]
      exact ih (i + 1) (by omega)
theorem yl_occ (hm : m ≤ 16) (hn : n ≤ 48) {post : Int32 → Prop} (h : post (nI (tw_cn (tw_oc w t m n 0) n))) : wpY_occurrences post (nI m, nI n, w, t, mo) := ⟨n + 1, yl_occ4 hm hn h n 0 (by omega)⟩
theorem yl_nx2 (hm : m ≤ 16) (hn : n ≤ 48) {f : Int32} {post : Int32 → Prop} : ∀ d i, i + d = n → post (tw_fs (fun i => ¬ nI i < f ∧ tw_oc w t m n 0 i) d i) → wY_next_2 post f (nI m) (nI n) w t mo (d + 1) (nI i) := by
  intro d
  induction d with
  | zero => intro i hi h; exact pk_le n i (fun _ => h) (fun z => absurd z (by omega))
  | succ d ih =>
    intro i hi h
    refine pk_le n i (fun z => absurd z (by omega)) (fun z => br_c (fun y => nm_r (nI_1 i) (ih (i + 1) (by omega) ?_)) (fun y => yl_st (s := 0) hm hn (by omega) (by omega) (fun o => br_f tw_n1 ?_) (fun o => br_t rfl (nm_r (nI_1 i) (ih (i + 1) (by omega) ?_)))))
    · rw [tw_fs_f (P := fun i => ¬ nI i < f ∧ tw_oc w t m n 0 i) (j := i) (fun q => q.1 y)] at h; exact h
    · rw [tw_fs_t (P := fun i => ¬ nI i < f ∧ tw_oc w t m n 0 i) (j := i) ⟨y, o⟩] at h; exact h
    · rw [tw_fs_f (P := fun i => ¬ nI i < f ∧ tw_oc w t m n 0 i) (j := i) (fun q => o q.2)] at h; exact h
theorem yl_nx (hm : m ≤ 16) (hn : n ≤ 48) {f : Int32} {post : Int32 → Prop} (h : post (tw_fs (fun i => ¬ nI i < f ∧ tw_oc w t m n 0 i) n 0)) : wpY_next post (nI m, nI n, w, t, mo) f := ⟨n + 1, yl_nx2 hm hn n 0 (by omega) h⟩
theorem yl_ap58 {D : Nat → Nat} {k z : Nat} (hk : k < 48) (hmo : ∀ j, k + 1 ≤ j → j < 65 → mo j = nI (D j)) (hz : z < 2 ^ 20) (hD : D (k + 1) < 2 ^ 20) (he : D k = tw_mx (D (k + 1)) z) {post : Int32 → SY → Prop} {J : Int32 → (Nat → Int32) → (Nat → Int32) → (Nat → Int32) → Prop} (hJ : ∀ mo', (∀ j, k ≤ j → j < 65 → mo' j = nI (D j)) → J (nI k + (-1)) w t mo') : wY_apart_58 post J (nI k) (nI z) M N w t mo := by
  have e1 : mo (nI k + 1).toNatClampNeg = nI (D (k + 1)) := by
    rw [nI_1, tw_cl (by omega)]
    exact hmo (k + 1) (Nat.le_refl _) (by omega)
  have hin : vp_in (nI k + 1) 65 := pk_in (k + 1) 65 (by omega) (nI_1 k)
  have U : ∀ v : Int32, v = nI (D k) → ∀ j, k ≤ j → j < 65 → upd mo (nI k).toNatClampNeg v j = nI (D j) := by
    intro v hv j h1 h2
    rw [tw_cl (k := k) (by omega)]
    by_cases e : j = k
    · rw [e, pk_us]; exact hv
    · rw [pk_un e]; exact hmo j (by omega) h2
  refine ⟨hin, ?_⟩
  rw [e1]
  refine pk_le z (D (k + 1)) (fun y => ⟨hin, pk_in k 65 (by omega), nm_e (nm_e (hJ _ (U _ ?_)))⟩) (fun y => ⟨pk_in k 65 (by omega), nm_e (nm_e (hJ _ (U _ ?_)))⟩)
  · rw [he, tw_mx_r y]
  · rw [he, tw_mx_l (by omega)]
theorem yl_ap28 (hm : m ≤ 16) (hn : n ≤ 48) {D : Nat → Nat} (h0 : ∀ i, n ≤ i → D i = 0) (h1 : ∀ i, i < n → tw_oc w t m n 0 i → D i = tw_mx (D (i + 1)) (1 + D (i + m))) (h2 : ∀ i, i < n → ¬ tw_oc w t m n 0 i → D i = D (i + 1)) {post : Int32 → SY → Prop} (h : ∀ mo', post (nI (D 0)) (nI m, nI n, w, t, mo')) : ∀ k mo, k ≤ n → (∀ j, k ≤ j → j < 65 → mo j = nI (D j)) → wY_apart_28 post (nI m) (nI n) (k + 1) (nI k + (-1)) w t mo := by
  intro k
  induction k with
  | zero =>
    intro mo _ hmo
    refine br_t (by decide) ?_
    rw [hmo 0 (Nat.le_refl _) (by omega)]
    exact h mo
  | succ k ih =>
    intro mo hk hmo
    have b := tw_D_le tw_oc_in h0 h1 h2
    have b1 := b n (k + 1) (by omega)
    have b2 := b n (k + m) (by omega)
    rw [pk_m1]
    refine br_f (nI_pos (by omega)) (yl_st (s := 0) hm hn (by omega) (by omega) (fun o => br_f tw_n1 ⟨pk_in (k + m) 65 (by omega) (nI_add k m), ?_⟩) (fun o => br_t rfl ?_))
    · have e : 1 + mo (nI k + nI m).toNatClampNeg = nI (1 + D (k + m)) := by
        have q := o.1
        rw [pk_cl (k + m) (nI_add k m), hmo (k + m) (by omega) (by omega)]
        exact nI_add 1 _
      rw [e]
      exact yl_ap58 (by omega) hmo (by omega) (by omega) (h1 k (by omega) o) (fun mo' q => ih mo' (by omega) q)
    · exact yl_ap58 (z := 0) (by omega) hmo (by omega) (by omega) (by rw [h2 k (by omega) o, tw_mx_r (Nat.zero_le _)]) (fun mo' q => ih mo' (by omega) q)
theorem yl_ap2 {post : Int32 → SY → Prop} (h : ∀ mo, (∀ j, j < 65 → mo j = 0) → ∃ n28, wY_apart_28 post M N n28 (N - 1) w t mo) : ∀ d i mo, i + d = 65 → (∀ j, j < i → mo j = 0) → wY_apart_2 post M N (d + 1) (nI i) w t mo := by
  intro d
  induction d with
  | zero =>
    intro i mo hi hj
    exact pk_le 65 i (fun _ => nm_e (h mo (fun j y => hj j (by omega)))) (fun z => absurd z (by omega))
  | succ d ih =>
    intro i mo hi hj
    refine pk_le 65 i (fun z => absurd z (by omega)) (fun z => ⟨pk_in i 65 z, nm_e (nm_r (nI_1 i) (ih (i + 1) _ (by omega) (fun j y => ?_)))⟩)
    rw [tw_cl (k := i) (by omega)]
    by_cases e : j = i
    · rw [e, pk_us]
    · rw [pk_un e]; exact hj j (by omega)
theorem yl_ap (hm : m ≤ 16) (hn : n ≤ 48) {D : Nat → Nat} (h0 : ∀ i, n ≤ i → D i = 0) (h1 : ∀ i, i < n → tw_oc w t m n 0 i → D i = tw_mx (D (i + 1)) (1 + D (i + m))) (h2 : ∀ i, i < n → ¬ tw_oc w t m n 0 i → D i = D (i + 1)) {post : Int32 → SY → Prop} (h : ∀ mo', post (nI (D 0)) (nI m, nI n, w, t, mo')) : wpY_apart post (nI m, nI n, w, t, mo) := by
  refine ⟨66, yl_ap2 (fun mo' q => ⟨n + 1, ?_⟩) 65 0 mo (by omega) (fun j y => absurd y (by omega))⟩
  rw [tw_m1s]
  refine yl_ap28 hm hn h0 h1 h2 h n mo' (Nat.le_refl _) (fun j a b => ?_)
  rw [q j b, h0 j a]
  rfl
theorem yl_ic9 (hm : m ≤ 16) (hn : n ≤ 48) {p : Nat} (hp : p < n) {post : Int32 → Prop} (h1 : tw_cv w t m n p → post 1) (h0 : ¬ tw_cv w t m n p → post 0) : ∀ d a, a + d = p + 1 + m → p + 1 ≤ a → (∀ i, i + m < a → p < i + m → ¬ tw_oc w t m n 0 i) → wY_isCovered_9 post (nI p) (nI m) (nI n) w t mo (d + 1) (nI a - nI m) := by
  intro d
  induction d with
  | zero =>
    intro a ha hpa hj
    refine tw_ib (tw_slt (by omega) (by omega) (by omega)) (fun _ => h0 ?_) (fun z => absurd z (by omega))
    rintro ⟨i, y1, y2, o⟩
    exact hj i (by omega) y2 o
  | succ d ih =>
    intro a ha hpa hj
    refine tw_ib (tw_slt (by omega) (by omega) (by omega)) (fun z => absurd z (by omega)) (fun z => ?_)
    by_cases y : a < m
    · exact yl_stn (pk_sneg (by omega) y) (br_t rfl (nm_r (tw_sub1 a m) (ih (a + 1) (by omega) (by omega) (fun i a1 a2 => hj i (by omega) a2))))
    · have e : nI (a - m) + 1 = nI (a + 1) - nI m := by
        rw [nI_1, pk_sub (by omega)]
        exact congrArg nI (by omega)
      rw [pk_sub (by omega)]
      refine yl_st (s := 0) hm hn (by omega) (by omega) (fun o => br_f tw_n1 (h1 ⟨a - m, by omega, by omega, o⟩)) (fun o => br_t rfl (nm_r e (ih (a + 1) (by omega) (by omega) (fun i a1 a2 q => ?_))))
      by_cases x : i + m < a
      · exact hj i x a2 q
      · rw [show i = a - m from by omega] at q
        exact o q
theorem yl_ic (hm : m ≤ 16) (hn : n ≤ 48) {p : Nat} (hp : p < n) {post : Int32 → Prop} (h1 : tw_cv w t m n p → post 1) (h0 : ¬ tw_cv w t m n p → post 0) : wpY_isCovered post (nI m, nI n, w, t, mo) (nI p) := nm_r (tw_sub1 p m) ⟨m + 1, yl_ic9 hm hn hp h1 h0 m (p + 1) (by omega) (by omega) (fun i a b => absurd a (by omega))⟩
theorem yl_cv4 (hm : m ≤ 16) (hn : n ≤ 48) {post : Int32 → Prop} (h : post (nI (tw_cn (tw_cv w t m n) n))) : ∀ d i, i + d = n → wY_covered_4 post (nI m) (nI n) w t mo (d + 1) (nI (tw_cn (tw_cv w t m n) i)) (nI i) := by
  intro d
  induction d with
  | zero =>
    intro i hi
    refine pk_le n i (fun _ => ?_) (fun z => absurd z (by omega))
    rw [show i = n from by omega]
    exact h
  | succ d ih =>
    intro i hi
    refine pk_le n i (fun z => absurd z (by omega)) (fun z => yl_ic hm hn z (fun o => br_f tw_n1 ?_) (fun o => br_t rfl ?_))
    · refine nm_r (nI_1 _) (nm_r (nI_1 i) ?_)
      rw [← tw_cn_t (P := tw_cv w t m n) (k := i) o]
      exact ih (i + 1) (by omega)
    · refine nm_r (nI_1 i) ?_
      rw [← tw_cn_f (P := tw_cv w t m n) (k := i) o]
      exact ih (i + 1) (by omega)
theorem yl_cv (hm : m ≤ 16) (hn : n ≤ 48) {post : Int32 → Prop} (h : post (nI (tw_cn (tw_cv w t m n) n))) : wpY_covered post (nI m, nI n, w, t, mo) := ⟨n + 1, yl_cv4 hm hn h n 0 (by omega)⟩
end
end
section
section
variable {m n : Nat} {w t mo : Nat → Int32} {M N : Int32}
theorem yl_pe2 (hm : m ≤ 16) {q : Nat} (hq : q ≤ m) {post : Int32 → Prop} (h1 : tw_pe w m q → post 1) (h0 : ¬ tw_pe w m q → post 0) : ∀ d k, k + d = m - q → (∀ j, j < k → w j = w (m - (m - q) + j)) → wY_isPeriod_2 post (nI q) (nI m) N w t mo (d + 1) (nI k) := by
  intro d
  induction d with
  | zero =>
    intro k hk hj
    exact pk_le (m - q) k (fun _ => h1 (fun j y => hj j (by omega))) (fun z => absurd z (by omega)) (pk_sub hq)
  | succ d ih =>
    intro k hk hj
    refine pk_le (m - q) k (fun z => absurd z (by omega)) (fun z => ⟨pk_in k 16 (by omega), pk_in (k + q) 16 (by omega) (nI_add _ _), ?_⟩) (pk_sub hq)
    rw [tw_cl (k := k) (by omega), pk_cl (k + q) (nI_add _ _), show k + q = m - (m - q) + k from by omega]
    exact br_c (fun e => nm_r (nI_1 k) (ih (k + 1) (by omega) (lt_s (p := fun j => w j = w (m - (m - q) + j)) hj e))) (fun e => h0 (fun o => e (o k z)))
theorem yl_pq (hm : m ≤ 16) {q : Nat} (hq : q ≤ m) {post : Int32 → Prop} (h1 : tw_pe w m q → post 1) (h0 : ¬ tw_pe w m q → post 0) : wpY_isPeriod post (nI m, N, w, t, mo) (nI q) := ⟨m - q + 1, yl_pe2 hm hq h1 h0 (m - q) 0 (by omega) (fun j y => absurd y (by omega))⟩
theorem yl_pp2 (hm : m ≤ 16) {post : Int32 → Prop} : ∀ d q, q + d = m + 1 → post (tw_fs (tw_pe w m) d q) → wY_period_2 post (nI m) N w t mo (d + 1) (nI q) := by
  intro d
  induction d with
  | zero => intro q hq h; exact pk_lt m q (fun _ => h) (fun z => absurd z (by omega))
  | succ d ih =>
    intro q hq h
    refine pk_lt m q (fun z => absurd z (by omega)) (fun z => yl_pq hm z (fun o => br_f tw_n1 ?_) (fun o => br_t rfl (nm_r (nI_1 q) (ih (q + 1) (by omega) ?_))))
    · rw [tw_fs_t (P := tw_pe w m) (j := q) o] at h; exact h
    · rw [tw_fs_f (P := tw_pe w m) (j := q) o] at h; exact h
theorem yl_pe (hm : m ≤ 16) {post : Int32 → Prop} (h : post (tw_fs (tw_pe w m) m 1)) : wpY_period post (nI m, N, w, t, mo) := ⟨m + 1, yl_pp2 hm m 1 (by omega) h⟩
theorem yl_ps4 (hm : m ≤ 16) {post : Int32 → Prop} (h : post (nI (tw_cn (fun i => tw_pe w m (i + 1)) m))) : ∀ d i, i + d = m → wY_periods_4 post (nI m) N w t mo (d + 1) (nI (tw_cn (fun i => tw_pe w m (i + 1)) i)) (nI (i + 1)) := by
  intro d
  induction d with
  | zero =>
    intro i hi
    refine pk_lt m (i + 1) (fun _ => ?_) (fun z => absurd z (by omega))
    rw [show i = m from by omega]
    exact h
  | succ d ih =>
    intro i hi
    refine pk_lt m (i + 1) (fun z => absurd z (by omega)) (fun z => yl_pq hm z (fun o => br_f tw_n1 ?_) (fun o => br_t rfl ?_))
    · refine nm_r (nI_1 _) (nm_r (nI_1 (i + 1)) ?_)
      rw [← tw_cn_t (P := fun i => tw_pe w m (i + 1)) (k := i) o]
      exact ih (i + 1) (by omega)
    · refine nm_r (nI_1 (i + 1)) ?_
      rw [← tw_cn_f (P := fun i => tw_pe w m (i + 1)) (k := i) o]
      exact ih (i + 1) (by omega)
theorem yl_ps (hm : m ≤ 16) {post : Int32 → Prop} (h : post (nI (tw_cn (fun i => tw_pe w m (i + 1)) m))) : wpY_periods post (nI m, N, w, t, mo) := ⟨m + 1, yl_ps4 hm h m 0 (by omega)⟩
theorem yl_bo2 {l q : Nat} (hl : l ≤ q) (hq : q ≤ 16) {post : Int32 → Prop} (h1 : tw_bo w l q → post 1) (h0 : ¬ tw_bo w l q → post 0) : ∀ d k, k + d = l → (∀ j, j < k → w j = w (q - l + j)) → wY_isBorder_2 post (nI q) (nI l) M N w t mo (d + 1) (nI k) := by
  intro d
  induction d with
  | zero =>
    intro k hk hj
    exact pk_le l k (fun _ => h1 (fun j y => hj j (by omega))) (fun z => absurd z (by omega))
  | succ d ih =>
    intro k hk hj
    have e : nI q - nI l + nI k = nI (q - l + k) := by rw [pk_sub hl, nI_add]
    refine pk_le l k (fun z => absurd z (by omega)) (fun z => ⟨pk_in k 16 (by omega), pk_in (q - l + k) 16 (by omega) e, ?_⟩)
    rw [tw_cl (k := k) (by omega), pk_cl (q - l + k) e]
    exact br_c (fun e => nm_r (nI_1 k) (ih (k + 1) (by omega) (lt_s (p := fun j => w j = w (q - l + j)) hj e))) (fun e => h0 (fun o => e (o k z)))
theorem yl_bo {l q : Nat} (hl : l ≤ q) (hq : q ≤ 16) {post : Int32 → Prop} (h1 : tw_bo w l q → post 1) (h0 : ¬ tw_bo w l q → post 0) : wpY_isBorder post (M, N, w, t, mo) (nI q) (nI l) := ⟨l + 1, yl_bo2 hl hq h1 h0 l 0 (by omega) (fun j y => absurd y (by omega))⟩
theorem yl_br20 {k : Nat} (hk : k ≤ 16) {post : Int32 → Prop} (h : post (nI (tw_ls 0 (tw_bp w k) (k - 1)))) : ∀ d l, l + 1 + d = k → wY_border_20 post (nI k) M N w t mo (d + 1) (nI (tw_ls 0 (tw_bp w k) l)) (nI (l + 1)) := by
  intro d
  induction d with
  | zero =>
    intro l hl
    refine pk_le k (l + 1) (fun _ => ?_) (fun z => absurd z (by omega))
    rw [show l = k - 1 from by omega]
    exact h
  | succ d ih =>
    intro l hl
    refine pk_le k (l + 1) (fun z => absurd z (by omega)) (fun z => yl_bo (by omega) hk (fun o => br_f tw_n1 (nm_r (nI_1 (l + 1)) ?_)) (fun o => br_t rfl (nm_r (nI_1 (l + 1)) ?_)))
    · have g := ih (l + 1) (by omega)
      rw [tw_ls_t (P := tw_bp w k) (l := l) o] at g
      exact g
    · have g := ih (l + 1) (by omega)
      rw [tw_ls_f (P := tw_bp w k) (l := l) o] at g
      exact g
theorem yl_be87 {a b e : Nat} (hab : a < b) (hb : b ≤ e) (he : e ≤ 16) {post : Int32 → Prop} (h : post 0) : wY_before_87 post (nI a) (nI b) (nI e) M N w t mo := pk_le (e - b) (e - a) (fun _ => h) (fun z => absurd z (by omega)) (pk_sub hb) (pk_sub (by omega))
theorem yl_be3 {o : Int32} {a b e : Nat} (hab : a < b) (hb : b ≤ e) (he : e ≤ 16) {post : Int32 → Prop} (h1 : tw_be w o e a b → post 1) (h0 : ¬ tw_be w o e a b → post 0) : ∀ d k, b + k + d = e → (∀ j, j < k → w (a + j) = w (b + j)) → wY_before_3 post (nI a) (nI b) (nI e) o M N w t mo (d + 1) (nI k) := by
  intro d
  induction d with
  | zero =>
    intro k hk hj
    have q : ¬ tw_be w o e a b := by
      rintro ⟨q, y, _, hne, _⟩
      exact hne (hj q (by omega))
    exact br_c (fun _ => yl_be87 hab hb he (h0 q)) (fun _ => pk_le e (b + k) (fun _ => yl_be87 hab hb he (h0 q)) (fun z => absurd z (by omega)) rfl (nI_add b k))
  | succ d ih =>
    intro k hk hj
    have e2 : w (nI a + nI k).toNatClampNeg = w (a + k) := by rw [pk_cl (a + k) (nI_add a k)]
    have e3 : w (nI b + nI k).toNatClampNeg = w (b + k) := by rw [pk_cl (b + k) (nI_add b k)]
    refine pk_le e (a + k) (fun z => absurd z (by omega)) (fun _ => pk_le e (b + k) (fun z => absurd z (by omega)) (fun z => ⟨pk_in (a + k) 16 (by omega) (nI_add a k), nm_r e2 ⟨pk_in (b + k) 16 (by omega) (nI_add b k), nm_r e3 ?_⟩⟩) rfl (nI_add b k)) rfl (nI_add a k)
    refine br_c (fun q => nm_r (nI_1 k) (ih (k + 1) (by omega) (lt_s (p := fun j => w (a + j) = w (b + j)) hj q))) (fun q => ?_)
    have T := tw_be_at (o := o) z hj q
    refine br_c (fun y => br_c (fun g => h0 (fun x => ?_)) (fun g => h1 (T.mpr ⟨fun _ => Int32.not_le.mp g, fun x => absurd y x⟩))) (fun y => br_c (fun g => h0 (fun x => ?_)) (fun g => h1 (T.mpr ⟨fun x => absurd x y, fun _ => Int32.not_le.mp g⟩)))
    · exact absurd ((T.mp x).1 y) (Int32.not_lt.mpr g)
    · exact absurd ((T.mp x).2 y) (Int32.not_lt.mpr g)
theorem yl_be {o : Int32} {a b e : Nat} (hab : a < b) (hb : b ≤ e) (he : e ≤ 16) {post : Int32 → Prop} (h1 : tw_be w o e a b → post 1) (h0 : ¬ tw_be w o e a b → post 0) : wpY_before post (M, N, w, t, mo) (nI a) (nI b) (nI e) o := ⟨e - b + 1, yl_be3 hab hb he h1 h0 (e - b) 0 (by omega) (fun j y => absurd y (by omega))⟩
theorem yl_ge15 (hm : m ≤ 16) (hm0 : 0 < m) {o : Int32} {post : Int32 → Prop} (h : post (nI (tw_bs (tw_be w o m) (m - 1)))) : ∀ d i, i + 1 + d = m → wY_greatestEnd_15 post o (nI m) N w t mo (d + 1) (nI (tw_bs (tw_be w o m) i)) (nI (i + 1)) := by
  intro d
  induction d with
  | zero =>
    intro i hi
    refine pk_le m (i + 1) (fun _ => br_f (nI_ne0 hm0 (by omega)) ?_) (fun z => absurd z (by omega))
    rw [show i = m - 1 from by omega]
    exact h
  | succ d ih =>
    intro i hi
    have le := tw_bs_le (tw_be w o m) i
    refine pk_le m (i + 1) (fun z => absurd z (by omega)) (fun z => yl_be (by omega) (by omega) hm (fun q => br_f tw_n1 (nm_r (nI_1 (i + 1)) ?_)) (fun q => br_t rfl (nm_r (nI_1 (i + 1)) ?_)))
    · have g := ih (i + 1) (by omega)
      rw [tw_bs_t (B := tw_be w o m) (i := i) q] at g
      exact g
    · have g := ih (i + 1) (by omega)
      rw [tw_bs_f (B := tw_be w o m) (i := i) q] at g
      exact g
theorem yl_rb2 (hm : m ≤ 16) (hm0 : 0 < m) {a b : Nat} (ha : a ≤ 16) (hb : b ≤ 16) {post : Int32 → Prop} (h1 : tw_ro w m a b → post 1) (h0 : ¬ tw_ro w m a b → post 0) : ∀ d k, k + d = m → (∀ j, j < k → w ((a + j) % m) = w ((b + j) % m)) → wY_rotationBefore_2 post (nI a) (nI b) (nI m) N w t mo (d + 1) (nI k) := by
  intro d
  induction d with
  | zero =>
    intro k hk hj
    refine pk_le m k (fun _ => h0 ?_) (fun z => absurd z (by omega))
    rintro ⟨q, y, _, hne, _⟩
    exact hne (hj q (by omega))
  | succ d ih =>
    intro k hk hj
    have ra : (a + k) % m < m := Nat.mod_lt _ hm0
    have rb : (b + k) % m < m := Nat.mod_lt _ hm0
    have ea := yl_rm (s := a) (k := k) hm0 hm ha (by omega)
    have eb := yl_rm (s := b) (k := k) hm0 hm hb (by omega)
    refine pk_le m k (fun z => absurd z (by omega)) (fun z => ⟨nI_ne0 hm0 (by omega), pk_in ((a + k) % m) 16 (by omega) ea, nm_r (congrArg w (pk_cl ((a + k) % m) ea)) ⟨nI_ne0 hm0 (by omega), pk_in ((b + k) % m) 16 (by omega) eb, nm_r (congrArg w (pk_cl ((b + k) % m) eb)) ?_⟩⟩)
    refine br_c (fun e => nm_r (nI_1 k) (ih (k + 1) (by omega) (lt_s (p := fun j => w ((a + j) % m) = w ((b + j) % m)) hj e))) (fun e => br_c (fun g => h0 (fun x => ?_)) (fun g => h1 ?_))
    · exact absurd ((tw_ro_at z hj e).mp x) (Int32.not_lt.mpr g)
    · exact (tw_ro_at z hj e).mpr (Int32.not_le.mp g)
theorem yl_rb (hm : m ≤ 16) (hm0 : 0 < m) {a b : Nat} (ha : a ≤ 16) (hb : b ≤ 16) {post : Int32 → Prop} (h1 : tw_ro w m a b → post 1) (h0 : ¬ tw_ro w m a b → post 0) : wpY_rotationBefore post (nI m, N, w, t, mo) (nI a) (nI b) := ⟨m + 1, yl_rb2 hm hm0 ha hb h1 h0 m 0 (by omega) (fun j y => absurd y (by omega))⟩
theorem yl_lr4 (hm : m ≤ 16) (hm0 : 0 < m) {post : Int32 → Prop} (h : post (nI (tw_bs (fun a b => tw_ro w m b a) (m - 1)))) : ∀ d i, i + 1 + d = m → wY_leastRotation_4 post (nI m) N w t mo (d + 1) (nI (tw_bs (fun a b => tw_ro w m b a) i)) (nI (i + 1)) := by
  intro d
  induction d with
  | zero =>
    intro i hi
    refine pk_le m (i + 1) (fun _ => br_f (nI_ne0 hm0 (by omega)) ?_) (fun z => absurd z (by omega))
    rw [show i = m - 1 from by omega]
    exact h
  | succ d ih =>
    intro i hi
    have le := tw_bs_le (fun a b => tw_ro w m b a) i
    refine pk_le m (i + 1) (fun z => absurd z (by omega)) (fun z => yl_rb hm hm0 (by omega) (by omega) (fun q => br_f tw_n1 (nm_r (nI_1 (i + 1)) ?_)) (fun q => br_t rfl (nm_r (nI_1 (i + 1)) ?_)))
    · have g := ih (i + 1) (by omega)
      rw [tw_bs_t (B := fun a b => tw_ro w m b a) (i := i) q] at g
      exact g
    · have g := ih (i + 1) (by omega)
      rw [tw_bs_f (B := fun a b => tw_ro w m b a) (i := i) q] at g
      exact g
theorem yl_ly4 {s e : Nat} (hse : s < e) (he : e ≤ 16) {post : Int32 → Prop} (h1 : tw_ly w s e → post 1) (h0 : ¬ tw_ly w s e → post 0) : ∀ d i, s < i → i + d = e → (∀ j, s < j → j < i → tw_be w 0 e s j) → wY_isLyndon_4 post (nI s) (nI e) M N w t mo (d + 1) (nI i) := by
  intro d
  induction d with
  | zero =>
    intro i hs hi hj
    exact pk_le e i (fun _ => pk_le e s (fun z => absurd z (by omega)) (fun _ => h1 (fun j a b => hj j a (by omega)))) (fun z => absurd z (by omega))
  | succ d ih =>
    intro i hs hi hj
    refine pk_le e i (fun z => absurd z (by omega)) (fun z => yl_be hs (by omega) he (fun q => br_f tw_n1 (nm_r (nI_1 i) (ih (i + 1) (by omega) (by omega) (fun j a b => ?_)))) (fun q => br_t rfl (h0 (fun y => q (y i hs z)))))
    rcases Nat.lt_or_ge j i with y | y
    · exact hj j a y
    · have e : j = i := by omega
      rw [e]
      exact q
theorem yl_ly {s e : Nat} (hs : s < e) (he : e ≤ 16) {post : Int32 → Prop} (h1 : tw_ly w s e → post 1) (h0 : ¬ tw_ly w s e → post 0) : wpY_isLyndon post (M, N, w, t, mo) (nI s) (nI e) := nm_r (nI_1 s) ⟨e - (s + 1) + 1, yl_ly4 hs he h1 h0 (e - (s + 1)) (s + 1) (by omega) (by omega) (fun j a b => absurd a (by omega))⟩
theorem yl_fe8 (hm : m ≤ 16) {s : Nat} (hs : s < m) {post : Int32 → Prop} (h : post (nI (s + tw_L w m s))) : ∀ d l, s + l + d = m → wY_factorEnd_8 post (nI s) (nI m) N w t mo (d + 1) (nI (s + tw_ls 1 (tw_lp w s) l)) (nI (s + l + 1)) := by
  intro d
  induction d with
  | zero =>
    intro l hl
    refine pk_lt m (s + l + 1) (fun _ => ?_) (fun z => absurd z (by omega))
    rw [show l = m - s from by omega]
    exact h
  | succ d ih =>
    intro l hl
    refine pk_lt m (s + l + 1) (fun z => absurd z (by omega)) (fun z => yl_ly (by omega) (by omega) (fun q => br_f tw_n1 (nm_r (nI_1 (s + l + 1)) ?_)) (fun q => br_t rfl (nm_r (nI_1 (s + l + 1)) ?_)))
    · have g := ih (l + 1) (by omega)
      rw [tw_ls_t (P := tw_lp w s) (l := l) q] at g
      exact g
    · have g := ih (l + 1) (by omega)
      rw [tw_ls_f (P := tw_lp w s) (l := l) q] at g
      exact g
theorem yl_fe (hm : m ≤ 16) {s : Nat} (hs : s < m) {post : Int32 → Prop} (h : post (nI (s + tw_L w m s))) : wpY_factorEnd post (nI m, N, w, t, mo) (nI s) := nm_r (nI_1 s) (nm_r (nI_1 s) ⟨m - s + 1, yl_fe8 hm hs h (m - s) 0 (by omega)⟩)
theorem yl_fa4 (hm : m ≤ 16) {F : Nat → Nat} (h0 : ∀ s, m ≤ s → F s = 0) (h1 : ∀ s, s < m → F s = F (s + tw_L w m s) + 1) {post : Int32 → Prop} : ∀ d s c, m ≤ s + d → s ≤ m → post (nI (c + F s)) → wY_factors_4 post (nI m) N w t mo (d + 1) (nI c) (nI s) := by
  intro d
  induction d with
  | zero =>
    intro s c hs hs' h
    refine pk_le m s (fun _ => ?_) (fun z => absurd z (by omega))
    rw [h0 s (by omega)] at h
    exact h
  | succ d ih =>
    intro s c hs hs' h
    refine pk_le m s (fun z => ?_) (fun z => yl_fe hm z (nm_r (nI_1 c) ?_))
    · rw [h0 s z] at h
      exact h
    · have q := tw_L_in w z
      refine ih (s + tw_L w m s) (c + 1) (by omega) (by omega) ?_
      rw [h1 s z] at h
      rw [show c + 1 + F (s + tw_L w m s) = c + (F (s + tw_L w m s) + 1) from by omega]
      exact h
theorem yl_fa (hm : m ≤ 16) {F : Nat → Nat} (h0 : ∀ s, m ≤ s → F s = 0) (h1 : ∀ s, s < m → F s = F (s + tw_L w m s) + 1) {post : Int32 → Prop} (h : post (nI (F 0))) : wpY_factors post (nI m, N, w, t, mo) := by
  refine ⟨m + 1, yl_fa4 hm h0 h1 m 0 0 (by omega) (by omega) ?_⟩
  rw [Nat.zero_add]
  exact h
theorem yl_fr4 (hm : m ≤ 16) {i : Int32} {G : Nat → Nat → Int32} (h0 : ∀ s c, m ≤ s → G s c = -4) (h1 : ∀ s c, s < m → nI c = i → G s c = nI (tw_L w m s)) (h2 : ∀ s c, s < m → ¬ nI c = i → G s c = G (s + tw_L w m s) (c + 1)) {post : Int32 → Prop} : ∀ d s c, m ≤ s + d → s ≤ m → post (G s c) → wY_factor_4 post i (nI m) N w t mo (d + 1) (nI c) (nI s) := by
  intro d
  induction d with
  | zero =>
    intro s c hs hs' h
    refine pk_le m s (fun _ => ?_) (fun z => absurd z (by omega))
    rw [h0 s c (by omega)] at h
    exact h
  | succ d ih =>
    intro s c hs hs' h
    refine pk_le m s (fun z => ?_) (fun z => yl_fe hm z (br_c (fun g => ?_) (fun g => nm_r (nI_1 c) ?_)))
    · rw [h0 s c z] at h
      exact h
    · rw [h1 s c z g] at h
      rw [pk_sub (by omega), show s + tw_L w m s - s = tw_L w m s from by omega]
      exact h
    · have q := tw_L_in w z
      refine ih (s + tw_L w m s) (c + 1) (by omega) (by omega) ?_
      rw [h2 s c z g] at h
      exact h
theorem yl_if2 (hm : m ≤ 16) (hn : n ≤ 48) {s : Nat} (hs : s ≤ 16) {post : Int32 → Prop} (h1 : tw_fd w t m n s → post 1) (h0 : ¬ tw_fd w t m n s → post 0) : ∀ d i, i + d = n → (∀ j, j < i → ¬ tw_oc w t m n s j) → wY_isFound_2 post (nI s) (nI m) (nI n) w t mo (d + 1) (nI i) := by
  intro d
  induction d with
  | zero =>
    intro i hi hj
    refine pk_le n i (fun _ => h0 ?_) (fun z => absurd z (by omega))
    rintro ⟨j, a, b⟩
    exact hj j (by omega) b
  | succ d ih =>
    intro i hi hj
    exact pk_le n i (fun z => absurd z (by omega)) (fun z => yl_st hm hn hs (by omega) (fun o => br_f tw_n1 (h1 ⟨i, z, o⟩)) (fun o => br_t rfl (nm_r (nI_1 i) (ih (i + 1) (by omega) (lt_s (p := fun j => ¬ tw_oc w t m n s j) hj o)))))
theorem yl_if (hm : m ≤ 16) (hn : n ≤ 48) {s : Nat} (hs : s ≤ 16) {post : Int32 → Prop} (h1 : tw_fd w t m n s → post 1) (h0 : ¬ tw_fd w t m n s → post 0) : wpY_isFound post (nI m, nI n, w, t, mo) (nI s) := ⟨n + 1, yl_if2 hm hn hs h1 h0 n 0 (by omega) (fun j y => absurd y (by omega))⟩
theorem yl_rf4 (hm : m ≤ 16) (hn : n ≤ 48) {post : Int32 → Prop} (h : post (nI (tw_cn (tw_fd w t m n) m))) : ∀ d i, i + d = m → wY_rotationsFound_4 post (nI m) (nI n) w t mo (d + 1) (nI (tw_cn (tw_fd w t m n) i)) (nI i) := by
  intro d
  induction d with
  | zero =>
    intro i hi
    refine pk_le m i (fun _ => ?_) (fun z => absurd z (by omega))
    rw [show i = m from by omega]
    exact h
  | succ d ih =>
    intro i hi
    refine pk_le m i (fun z => absurd z (by omega)) (fun z => yl_if hm hn (by omega) (fun o => br_f tw_n1 ?_) (fun o => br_t rfl ?_))
    · refine nm_r (nI_1 _) (nm_r (nI_1 i) ?_)
      rw [← tw_cn_t (P := tw_fd w t m n) (k := i) o]
      exact ih (i + 1) (by omega)
    · refine nm_r (nI_1 i) ?_
      rw [← tw_cn_f (P := tw_fd w t m n) (k := i) o]
      exact ih (i + 1) (by omega)
theorem yl_rf (hm : m ≤ 16) (hn : n ≤ 48) {post : Int32 → Prop} (h : post (nI (tw_cn (tw_fd w t m n) m))) : wpY_rotationsFound post (nI m, nI n, w, t, mo) := ⟨m + 1, yl_rf4 hm hn h m 0 (by omega)⟩
theorem yl_en2 (hn : n ≤ 48) {l : Nat} (hl : l ≤ n) (hl' : l ≤ 16) {post : Int32 → Prop} (h1 : tw_en w t n l → post 1) (h0 : ¬ tw_en w t n l → post 0) : ∀ d k, k + d = l → (∀ j, j < k → t (n - l + j) = w j) → wY_endsWith_2 post (nI l) M (nI n) w t mo (d + 1) (nI k) := by
  intro d
  induction d with
  | zero =>
    intro k hk hj
    exact pk_le l k (fun _ => h1 (fun j y => hj j (by omega))) (fun z => absurd z (by omega))
  | succ d ih =>
    intro k hk hj
    have e : nI n - nI l + nI k = nI (n - l + k) := by rw [pk_sub hl, nI_add]
    refine pk_le l k (fun z => absurd z (by omega)) (fun z => ⟨pk_in (n - l + k) 48 (by omega) e, pk_in k 16 (by omega), ?_⟩)
    rw [tw_cl (k := k) (by omega), pk_cl (n - l + k) e]
    exact br_c (fun e => nm_r (nI_1 k) (ih (k + 1) (by omega) (lt_s (p := fun j => t (n - l + j) = w j) hj e))) (fun e => h0 (fun o => e (o k z)))
theorem yl_en (hn : n ≤ 48) {l : Nat} (hl : l ≤ n) (hl' : l ≤ 16) {post : Int32 → Prop} (h1 : tw_en w t n l → post 1) (h0 : ¬ tw_en w t n l → post 0) : wpY_endsWith post (M, nI n, w, t, mo) (nI l) := ⟨l + 1, yl_en2 hn hl hl' h1 h0 l 0 (by omega) (fun j y => absurd y (by omega))⟩
theorem yl_ov4 (hm : m ≤ 16) (hn : n ≤ 48) {K : Nat} (hK1 : K ≤ m) (hK2 : K ≤ n) (hK : m ≤ K ∨ n ≤ K) {post : Int32 → Prop} (h : post (nI (tw_ls 0 (tw_en w t n) K))) : ∀ d l, l + d = K → wY_overlap_4 post (nI m) (nI n) w t mo (d + 1) (nI (tw_ls 0 (tw_en w t n) l)) (nI (l + 1)) := by
  intro d
  induction d with
  | zero =>
    intro l hl
    rw [show l = K from by omega]
    exact pk_lt m (K + 1) (fun _ => h) (fun y => pk_lt n (K + 1) (fun _ => h) (fun z => absurd z (by omega)))
  | succ d ih =>
    intro l hl
    refine pk_lt m (l + 1) (fun z => absurd z (by omega)) (fun y => pk_lt n (l + 1) (fun z => absurd z (by omega)) (fun z => yl_en hn z (by omega) (fun o => br_f tw_n1 (nm_r (nI_1 (l + 1)) ?_)) (fun o => br_t rfl (nm_r (nI_1 (l + 1)) ?_))))
    · have g := ih (l + 1) (by omega)
      rw [tw_ls_t (P := tw_en w t n) (l := l) o] at g
      exact g
    · have g := ih (l + 1) (by omega)
      rw [tw_ls_f (P := tw_en w t n) (l := l) o] at g
      exact g
theorem yl_fp19 (hm : m ≤ 16) (hnm : n + m ≤ 48) {post : Int32 → SY → Prop} (h : post (nI (n + m)) (nI m, nI (n + m), w, tw_fp w t n m, mo)) : ∀ d k, k + d = m → wY_feedPattern_19 post (nI m) (d + 1) (nI k) (nI (n + k)) w (tw_fp w t n k) mo := by
  intro d
  induction d with
  | zero =>
    intro k hk
    refine pk_le m k (fun _ => ?_) (fun z => absurd z (by omega))
    rw [show k = m from by omega]
    exact h
  | succ d ih =>
    intro k hk
    have e : upd (tw_fp w t n k) (nI (n + k)).toNatClampNeg (w (nI k).toNatClampNeg) = tw_fp w t n (k + 1) := by
      rw [tw_cl (k := k) (by omega), tw_cl (k := n + k) (by omega)]
      rfl
    exact pk_le m k (fun z => absurd z (by omega)) (fun z => ⟨pk_in k 16 (by omega), pk_in (n + k) 48 (by omega), nm_r e (nm_r (nI_1 (n + k)) (nm_r (nI_1 k) (ih (k + 1) (by omega))))⟩)
end
end
section
def i_Rel (k : Nat) (u : SX) (v : SY) : Prop := ∃ m n : Nat, ∃ w t mo : Nat → Int32, m ≤ 16 ∧ n ≤ 48 ∧ u = (nI m, nI n, w, t) ∧ v = (nI m, nI n, w, t, mo)
theorem tw_R {k m n : Nat} {w t mo : Nat → Int32} (hm : m ≤ 16) (hn : n ≤ 48) : i_Rel k (nI m, nI n, w, t) (nI m, nI n, w, t, mo) := ⟨m, n, w, t, mo, hm, hn, rfl, rfl⟩
theorem i_up {k : Nat} {u : SX} {v : SY} (h : i_Rel k u v) : i_Rel (k + 2) u v := h
theorem i_vc0 : wpX_init (fun u => wpY_init (fun v => i_Rel 0 u v)) := ⟨0, 0, fun _ => 0, fun _ => 0, fun _ => 0, by omega, by omega, rfl, rfl⟩
theorem i_vc_pattern {k : Nat} {u : SX} {v : SY} (I : i_Rel k u v) (hk : k + 2 ≤ 1024) (v1 : Int32) : wpX_pattern (fun r u' => wpY_pattern (fun r' v' => r' = r ∧ i_Rel (k + 2) u' v') v v1) u v1 := by
  obtain ⟨m, n, w, t, mo, hm, hn, rfl, rfl⟩ := I
  unfold wpX_pattern wpY_pattern
  dsimp only
  by_cases hl : ¬ v1 < 0 ∧ ¬ 2 < v1
  · refine xl_let1 hl (br_f tw_n1 ?_)
    refine pk_lt m 16 (fun z => ⟨pk_in m 16 z, nm_e (nm_r (nI_1 m) ?_)⟩) (fun z => ?_)
    · exact yl_let1 hl (br_f tw_n1 (pk_eq m 16 (fun y => absurd z (by omega)) (fun y => ⟨pk_in m 16 z, nm_e (nm_r (nI_1 m) ⟨rfl, tw_R (by omega) hn⟩)⟩)))
    · exact yl_let1 hl (br_f tw_n1 (pk_eq m 16 (fun y => ⟨rfl, tw_R hm hn⟩) (fun y => absurd hm (by omega))))
  · exact xl_let0 hl (br_t rfl (yl_let0 hl (br_t rfl ⟨rfl, tw_R hm hn⟩)))
theorem i_vc_scrap {k : Nat} {u : SX} {v : SY} (I : i_Rel k u v) (hk : k + 2 ≤ 1024) : wpX_scrap (fun u' => wpY_scrap (fun v' => i_Rel (k + 2) u' v') v) u := by
  obtain ⟨m, n, w, t, mo, hm, hn, rfl, rfl⟩ := I
  exact tw_R (k := k + 2) (m := 0) (by omega) hn
theorem i_vc_feed {k : Nat} {u : SX} {v : SY} (I : i_Rel k u v) (hk : k + 2 ≤ 1024) (v1 : Int32) : wpX_feed (fun r u' => wpY_feed (fun r' v' => r' = r ∧ i_Rel (k + 2) u' v') v v1) u v1 := by
  obtain ⟨m, n, w, t, mo, hm, hn, rfl, rfl⟩ := I
  unfold wpX_feed wpY_feed
  dsimp only
  by_cases hl : ¬ v1 < 0 ∧ ¬ 2 < v1
  · refine xl_let1 hl (br_f tw_n1 ?_)
    refine pk_lt n 48 (fun z => ⟨pk_in n 48 z, nm_e (nm_r (nI_1 n) ?_)⟩) (fun z => ?_)
    · exact yl_let1 hl (br_f tw_n1 (pk_eq n 48 (fun y => absurd z (by omega)) (fun y => ⟨pk_in n 48 z, nm_e (nm_r (nI_1 n) ⟨rfl, tw_R hm (by omega)⟩)⟩)))
    · exact yl_let1 hl (br_f tw_n1 (pk_eq n 48 (fun y => ⟨rfl, tw_R hm hn⟩) (fun y => absurd hn (by omega))))
  · exact xl_let0 hl (br_t rfl (yl_let0 hl (br_t rfl ⟨rfl, tw_R hm hn⟩)))
theorem i_vc_feedPattern {k : Nat} {u : SX} {v : SY} (I : i_Rel k u v) (hk : k + 2 ≤ 1024) : wpX_feedPattern (fun r u' => wpY_feedPattern (fun r' v' => r' = r ∧ i_Rel (k + 2) u' v') v) u := by
  obtain ⟨m, n, w, t, mo, hm, hn, rfl, rfl⟩ := I
  refine pk_le (n + m) 48 (fun z => ⟨m + 1, xl_fp19 hm z ?_ m 0 (by omega)⟩) (fun z => pk_le (n + m) 48 (fun y => absurd y (by omega)) (fun _ => ⟨rfl, tw_R hm hn⟩) (nI_add n m)) (nI_add n m)
  refine pk_le (n + m) 48 (fun _ => ⟨m + 1, yl_fp19 hm z ?_ m 0 (by omega)⟩) (fun y => absurd z (by omega)) (nI_add n m)
  exact ⟨rfl, tw_R hm z⟩
theorem i_vc_erase {k : Nat} {u : SX} {v : SY} (I : i_Rel k u v) (hk : k + 2 ≤ 1024) : wpX_erase (fun u' => wpY_erase (fun v' => i_Rel (k + 2) u' v') v) u := by
  obtain ⟨m, n, w, t, mo, hm, hn, rfl, rfl⟩ := I
  exact tw_R (k := k + 2) (n := 0) hm (by omega)
theorem i_vc_patternLength {k : Nat} {u : SX} {v : SY} (I : i_Rel k u v) (hk : k + 2 ≤ 1024) : wpX_patternLength (fun r => wpY_patternLength (fun r' => r' = r ∧ i_Rel (k + 2) u v) v) u := by
  obtain ⟨m, n, w, t, mo, hm, hn, rfl, rfl⟩ := I
  exact ⟨rfl, tw_R hm hn⟩
theorem i_vc_textLength {k : Nat} {u : SX} {v : SY} (I : i_Rel k u v) (hk : k + 2 ≤ 1024) : wpX_textLength (fun r => wpY_textLength (fun r' => r' = r ∧ i_Rel (k + 2) u v) v) u := by
  obtain ⟨m, n, w, t, mo, hm, hn, rfl, rfl⟩ := I
  exact ⟨rfl, tw_R hm hn⟩
theorem i_vc_occurrences {k : Nat} {u : SX} {v : SY} (I : i_Rel k u v) (hk : k + 2 ≤ 1024) : wpX_occurrences (fun r => wpY_occurrences (fun r' => r' = r ∧ i_Rel (k + 2) u v) v) u := by
  obtain ⟨m, n, w, t, mo, hm, hn, rfl, rfl⟩ := I
  exact xl_occ hm hn (yl_occ hm hn ⟨rfl, tw_R hm hn⟩)
theorem i_vc_next {k : Nat} {u : SX} {v : SY} (I : i_Rel k u v) (hk : k + 2 ≤ 1024) (v1 : Int32) : wpX_next (fun r => wpY_next (fun r' => r' = r ∧ i_Rel (k + 2) u v) v v1) u v1 := by
  obtain ⟨m, n, w, t, mo, hm, hn, rfl, rfl⟩ := I
  by_cases h0 : (0 : Int32) ≤ v1
  · obtain ⟨f, hf, rfl⟩ := nI_of (x := v1) (Int32.not_lt.mpr h0)
    refine br_t h0 ?_
    by_cases hfn : f ≤ n
    · refine ⟨n - f + 1, xl_nx12 hm hn (n - f) f (by omega) (yl_nx hm hn ⟨?_, tw_R hm hn⟩)⟩
      have s := tw_fs_skip (P := fun i => ¬ nI i < nI f ∧ tw_oc w t m n 0 i) (n - f) f 0 (fun i a b q => q.1 (nI_lt (by omega) hf))
      rw [show n - f + f = n from by omega, Nat.zero_add] at s
      rw [s]
      exact (tw_fs_eq (n - f) f (fun i a => ⟨fun q => q.2, fun o => ⟨nI_nlt a (by have := o.2.1; omega), o⟩⟩))
    · refine ⟨1, pk_le n f (fun _ => yl_nx hm hn ⟨?_, tw_R hm hn⟩) (fun z => absurd z (by omega))⟩
      have s := tw_fs_skip (P := fun i => ¬ nI i < nI f ∧ tw_oc w t m n 0 i) 0 n 0 (fun i a b q => q.1 (nI_lt (by omega) hf))
      rw [Nat.zero_add] at s
      rw [s]
      rfl
  · refine br_f h0 ⟨n + 1, xl_nx12 hm hn n 0 (by omega) (yl_nx hm hn ⟨?_, tw_R hm hn⟩)⟩
    refine (tw_fs_eq n 0 (fun i _ => ⟨fun q => q.2, fun o => ⟨fun y => h0 (Int32.le_of_lt (Int32.lt_of_le_of_lt (nI_pos' (by have := o.2.1; omega)) y)), o⟩⟩))
theorem i_vc_apart {k : Nat} {u : SX} {v : SY} (I : i_Rel k u v) (hk : k + 2 ≤ 1024) : wpX_apart (fun r => wpY_apart (fun r' v' => r' = r ∧ i_Rel (k + 2) u v') v) u := by
  obtain ⟨m, n, w, t, mo, hm, hn, rfl, rfl⟩ := I
  obtain ⟨D, h0, h1, h2⟩ := tw_exD (tw_oc w t m n 0) m n tw_oc_in
  exact xl_ap hm hn h0 h1 h2 (yl_ap hm hn h0 h1 h2 (fun mo' => ⟨rfl, tw_R hm hn⟩))
theorem i_vc_covered {k : Nat} {u : SX} {v : SY} (I : i_Rel k u v) (hk : k + 2 ≤ 1024) : wpX_covered (fun r => wpY_covered (fun r' => r' = r ∧ i_Rel (k + 2) u v) v) u := by
  obtain ⟨m, n, w, t, mo, hm, hn, rfl, rfl⟩ := I
  exact xl_cv hm hn (yl_cv hm hn ⟨rfl, tw_R hm hn⟩)
theorem i_vc_period {k : Nat} {u : SX} {v : SY} (I : i_Rel k u v) (hk : k + 2 ≤ 1024) : wpX_period (fun r => wpY_period (fun r' => r' = r ∧ i_Rel (k + 2) u v) v) u := by
  obtain ⟨m, n, w, t, mo, hm, hn, rfl, rfl⟩ := I
  exact xl_pe hm (yl_pe hm ⟨rfl, tw_R hm hn⟩)
theorem i_vc_border {k : Nat} {u : SX} {v : SY} (I : i_Rel k u v) (hk : k + 2 ≤ 1024) (v1 : Int32) : wpX_border (fun r => wpY_border (fun r' => r' = r ∧ i_Rel (k + 2) u v) v v1) u v1 := by
  obtain ⟨m, n, w, t, mo, hm, hn, rfl, rfl⟩ := I
  by_cases h1 : v1 < 1
  · exact br_t h1 (br_t h1 ⟨rfl, tw_R hm hn⟩)
  · have hx : ¬ v1 < 0 := fun y => h1 (Int32.lt_trans y (by decide))
    obtain ⟨k, hk, rfl⟩ := nI_of hx
    have k1 : 1 ≤ k := by
      rcases Nat.eq_zero_or_pos k with e | e
      · exact absurd (by rw [e]; decide) h1
      · exact e
    refine br_f h1 (pk_le k m (fun z => nm_r (show nI k - 1 = nI (k - 1) from ?_) ⟨k - 1 + 1, xl_br20 (by omega) (k - 1) (by omega) ?_⟩) (fun z => br_f h1 (pk_le k m (fun y => absurd y (by omega)) (fun _ => ⟨rfl, tw_R hm hn⟩))))
    · obtain ⟨j, rfl⟩ : ∃ j, k = j + 1 := ⟨k - 1, by omega⟩
      exact nI_pred j
    · exact br_f h1 (pk_le k m (fun _ => ⟨k - 1 + 1, yl_br20 (by omega) ⟨rfl, tw_R hm hn⟩ (k - 1) 0 (by omega)⟩) (fun y => absurd z (by omega)))
theorem i_vc_periods {k : Nat} {u : SX} {v : SY} (I : i_Rel k u v) (hk : k + 2 ≤ 1024) : wpX_periods (fun r => wpY_periods (fun r' => r' = r ∧ i_Rel (k + 2) u v) v) u := by
  obtain ⟨m, n, w, t, mo, hm, hn, rfl, rfl⟩ := I
  exact xl_ps hm (yl_ps hm ⟨rfl, tw_R hm hn⟩)
theorem i_vc_greatestEnd {k : Nat} {u : SX} {v : SY} (I : i_Rel k u v) (hk : k + 2 ≤ 1024) (v1 : Int32) : wpX_greatestEnd (fun r => wpY_greatestEnd (fun r' => r' = r ∧ i_Rel (k + 2) u v) v v1) u v1 := by
  obtain ⟨m, n, w, t, mo, hm, hn, rfl, rfl⟩ := I
  have A : (v1 = 0 ∨ v1 = 1) → wX_greatestEnd_11 (fun r => wpY_greatestEnd (fun r' => r' = r ∧ i_Rel (k + 2) (nI m, nI n, w, t) (nI m, nI n, w, t, mo)) (nI m, nI n, w, t, mo) v1) v1 (nI m) (nI n) w t := by
    intro hv
    have c1 : ¬ v1 < 0 := by rcases hv with e | e <;> rw [e] <;> decide
    have c2 : v1 ≤ 1 := by rcases hv with e | e <;> rw [e] <;> decide
    refine pk_eq m 0 (fun z => br_f c1 (br_t c2 ⟨1, pk_le m 1 (fun _ => pk_eq m 0 (fun _ => ⟨rfl, tw_R hm hn⟩) (fun y => absurd z y)) (fun y => absurd z (by omega))⟩)) (fun z => ⟨m - 1 + 1, xl_ge25 hm ?_ (m - 1) 0 (by omega)⟩)
    exact br_f c1 (br_t c2 ⟨m - 1 + 1, yl_ge15 hm (by omega) ⟨rfl, tw_R hm hn⟩ (m - 1) 0 (by omega)⟩)
  refine br_c (fun e => A (Or.inl e)) (fun e0 => br_c (fun e => A (Or.inr e)) (fun e1 => ?_))
  refine br_c (fun _ => ⟨rfl, tw_R hm hn⟩) (fun c1 => br_c (fun c2 => ?_) (fun _ => ⟨rfl, tw_R hm hn⟩))
  obtain ⟨j, hj, e⟩ := nI_of2 (x := v1) (M := 1) (n := 1) (by decide) c1 c2
  rcases (by omega : j = 0 ∨ j = 1) with q | q
  · exact absurd (by rw [e, q]; rfl) e0
  · exact absurd (by rw [e, q]; rfl) e1
theorem i_vc_leastRotation {k : Nat} {u : SX} {v : SY} (I : i_Rel k u v) (hk : k + 2 ≤ 1024) : wpX_leastRotation (fun r => wpY_leastRotation (fun r' => r' = r ∧ i_Rel (k + 2) u v) v) u := by
  obtain ⟨m, n, w, t, mo, hm, hn, rfl, rfl⟩ := I
  refine pk_eq m 0 (fun z => ⟨1, pk_le m 1 (fun _ => pk_eq m 0 (fun _ => ⟨rfl, tw_R hm hn⟩) (fun y => absurd z y)) (fun y => absurd z (by omega))⟩) (fun z => ⟨m - 1 + 1, xl_lr14 hm ?_ (m - 1) 0 (by omega)⟩)
  exact ⟨m - 1 + 1, yl_lr4 hm (by omega) ⟨rfl, tw_R hm hn⟩ (m - 1) 0 (by omega)⟩
theorem i_vc_factors {k : Nat} {u : SX} {v : SY} (I : i_Rel k u v) (hk : k + 2 ≤ 1024) : wpX_factors (fun r => wpY_factors (fun r' => r' = r ∧ i_Rel (k + 2) u v) v) u := by
  obtain ⟨m, n, w, t, mo, hm, hn, rfl, rfl⟩ := I
  obtain ⟨F, h0, h1⟩ := tw_exF (tw_L w m) m (fun s h => (tw_L_in w h).1)
  exact xl_fa hm h0 h1 (yl_fa hm h0 h1 ⟨rfl, tw_R hm hn⟩)
theorem i_vc_factor {k : Nat} {u : SX} {v : SY} (I : i_Rel k u v) (hk : k + 2 ≤ 1024) (v1 : Int32) : wpX_factor (fun r => wpY_factor (fun r' => r' = r ∧ i_Rel (k + 2) u v) v v1) u v1 := by
  obtain ⟨m, n, w, t, mo, hm, hn, rfl, rfl⟩ := I
  obtain ⟨G, h0, h1, h2⟩ := tw_exG (tw_L w m) m v1 (fun s h => (tw_L_in w h).1)
  refine ⟨m + 1, xl_fr7 hm h0 h1 h2 m 0 0 0 (by omega) (by omega) (by omega) ?_⟩
  exact ⟨m + 1, yl_fr4 hm h0 h1 h2 m 0 0 (by omega) (by omega) ⟨rfl, tw_R hm hn⟩⟩
theorem i_vc_rotationsFound {k : Nat} {u : SX} {v : SY} (I : i_Rel k u v) (hk : k + 2 ≤ 1024) : wpX_rotationsFound (fun r => wpY_rotationsFound (fun r' => r' = r ∧ i_Rel (k + 2) u v) v) u := by
  obtain ⟨m, n, w, t, mo, hm, hn, rfl, rfl⟩ := I
  exact xl_rf hm hn (yl_rf hm hn ⟨rfl, tw_R hm hn⟩)
theorem i_vc_overlap {k : Nat} {u : SX} {v : SY} (I : i_Rel k u v) (hk : k + 2 ≤ 1024) : wpX_overlap (fun r => wpY_overlap (fun r' => r' = r ∧ i_Rel (k + 2) u v) v) u := by
  obtain ⟨m, n, w, t, mo, hm, hn, rfl, rfl⟩ := I
  refine pk_le n m (fun z => ⟨n + 1, xl_ov25 hn n (Nat.le_refl _) (by omega) ?_⟩) (fun z => ⟨m + 1, xl_ov25 hn m (by omega) hm ?_⟩)
  · exact ⟨n + 1, yl_ov4 hm hn z (Nat.le_refl _) (Or.inr (Nat.le_refl _)) ⟨rfl, tw_R hm hn⟩ n 0 (by omega)⟩
  · exact ⟨m + 1, yl_ov4 hm hn (Nat.le_refl _) (by omega) (Or.inl (Nat.le_refl _)) ⟨rfl, tw_R hm hn⟩ m 0 (by omega)⟩
end
