theorem pk_us {f : Nat → Int32} {k : Nat} {x : Int32} : upd f k x k = x := if_pos rfl
theorem pk_un {f : Nat → Int32} {k j : Nat} {x : Int32} (h : j ≠ k) : upd f k x j = f j := if_neg h
theorem pk_sub {a b : Nat} (h : b ≤ a) : nI a - nI b = nI (a - b) := by
  obtain ⟨c, rfl⟩ : ∃ c, a = c + b := ⟨a - b, by omega⟩
  rw [← nI_add, Int32.add_sub_cancel, Nat.add_sub_cancel]
theorem pk_m1 (n : Nat) : nI (n + 1) + (-1) = nI n := by
  rw [← nI_1, Int32.add_assoc, show (1 : Int32) + (-1) = 0 from rfl, Int32.add_zero]
theorem pk_mul (a b : Nat) : nI a * nI b = nI (a * b) := (Int32.ofNat_mul a b).symm
theorem pk_div {a d : Nat} (ha : a < 2 ^ 31) (h0 : 0 < d) (hd : d < 2 ^ 31) : nI a / nI d = nI (a / d) := by
  apply Int32.toInt_inj.mp
  rw [lg_idiv_nonneg (by rw [nI_toInt ha]; omega) (by rw [nI_toInt hd]; omega), nI_toInt ha, nI_toInt hd, nI_toInt (Nat.lt_of_le_of_lt (Nat.div_le_self a d) ha)]
  first | rfl | exact (Int.natCast_ediv _ _).symm
theorem pk_rem {a d : Nat} (ha : a < 2 ^ 31) (h0 : 0 < d) (hd : d < 2 ^ 31) : nI a - nI a / nI d * nI d = nI (a % d) := by
  rw [pk_div ha h0 hd, pk_mul, pk_sub (Nat.div_mul_le_self a d)]
  exact congrArg nI (by have := Nat.div_add_mod' a d; omega)
theorem pk_sub_toInt {a b : Nat} (ha : a < 2 ^ 30) (hb : b < 2 ^ 30) : (nI a - nI b).toInt = (a : Int) - b := by
  rw [Int32.toInt_sub, nI_toInt (by omega), nI_toInt (by omega)]
  exact Int.bmod_eq_of_le (by omega) (by omega)
theorem pk_sneg {a b : Nat} (hb : b < 2 ^ 30) (h : a < b) : nI a - nI b < 0 := by
  rw [Int32.lt_iff_toInt_lt, pk_sub_toInt (by omega) hb, show (0 : Int32).toInt = 0 from by decide]
  omega
theorem pk_ix (x : Int32) {n : Nat} (hn : n < 2 ^ 31) : x < 0 ∨ nI n ≤ x ∨ ∃ j : Nat, j < n ∧ x = nI j := by
  by_cases h : x < 0
  · exact Or.inl h
  · obtain ⟨j, hj, rfl⟩ := nI_of h
    by_cases h2 : j < n
    · exact Or.inr (Or.inr ⟨j, h2, rfl⟩)
    · exact Or.inr (Or.inl (nI_le (by omega) hj))
theorem pk_le {x y : Int32} {A B : Prop} (a b : Nat) (f : a ≤ b → A) (g : b < a → B) (hx : x = nI a := by rfl) (hy : y = nI b := by rfl) (ha : a < 2 ^ 31 := by omega) (hb : b < 2 ^ 31 := by omega) : (x ≤ y → A) ∧ (¬ x ≤ y → B) := by
  subst hx hy
  rw [nI_leI ha hb]
  exact ⟨f, fun z => g (by omega)⟩
theorem pk_lt {x y : Int32} {A B : Prop} (a b : Nat) (f : a < b → A) (g : b ≤ a → B) (hx : x = nI a := by rfl) (hy : y = nI b := by rfl) (ha : a < 2 ^ 31 := by omega) (hb : b < 2 ^ 31 := by omega) : (x < y → A) ∧ (¬ x < y → B) := by
  subst hx hy
  rw [nI_ltI ha hb]
  exact ⟨f, fun z => g (by omega)⟩
theorem pk_eq {x y : Int32} {A B : Prop} (a b : Nat) (f : a = b → A) (g : a ≠ b → B) (hx : x = nI a := by rfl) (hy : y = nI b := by rfl) (ha : a < 2 ^ 31 := by omega) (hb : b < 2 ^ 31 := by omega) : (x = y → A) ∧ (¬ x = y → B) := by
  subst hx hy
  rw [nI_eq ha hb]
  exact ⟨f, g⟩
theorem pk_in {x : Int32} (n N : Nat) (h : n < N) (hx : x = nI n := by rfl) (hN : N < 2 ^ 31 := by omega) : vp_in x N := by
  subst hx
  exact vp_in_nI h hN
theorem pk_cl {x : Int32} (n : Nat) (hx : x = nI n := by rfl) (h : n < 2 ^ 31 := by omega) : x.toNatClampNeg = n := by
  subst hx
  exact nI_clamp h
/-! the pure part: counts, searches, best places, recursions on places (mine) -/
theorem tw_fx {α V : Type} [Inhabited V] (μ : α → Nat) (F : (α → V) → α → V) : ∃ f : α → V, ∀ a, f a = F (fun b => if μ b < μ a then f b else default) a := by
  refine ⟨(measure μ).wf.fix (fun a r => F (fun b => if h : μ b < μ a then r b h else default) a), fun a => ?_⟩
  rw [WellFounded.fix_eq]
  apply congrArg (fun z => F z a)
  funext b
  by_cases h : μ b < μ a <;> simp [h]
noncomputable def tw_b (P : Prop) : Nat := @ite Nat P (Classical.propDecidable P) 1 0
theorem tw_bt {P : Prop} (h : P) : tw_b P = 1 := by unfold tw_b; rw [if_pos h]
theorem tw_bf {P : Prop} (h : ¬ P) : tw_b P = 0 := by unfold tw_b; rw [if_neg h]
noncomputable def tw_cn (P : Nat → Prop) : Nat → Nat
  | 0 => 0
  | k + 1 => tw_cn P k + tw_b (P k)
theorem tw_cn_t {P : Nat → Prop} {k : Nat} (h : P k) : tw_cn P (k + 1) = tw_cn P k + 1 := by
  show tw_cn P k + tw_b (P k) = _
  rw [tw_bt h]
theorem tw_cn_f {P : Nat → Prop} {k : Nat} (h : ¬ P k) : tw_cn P (k + 1) = tw_cn P k := by
  show tw_cn P k + tw_b (P k) = _
  rw [tw_bf h]
  rfl
noncomputable def tw_fs (P : Nat → Prop) : Nat → Nat → Int32
  | 0, _ => -4
  | d + 1, j => @ite Int32 (P j) (Classical.propDecidable _) (nI j) (tw_fs P d (j + 1))
theorem tw_fs_t {P : Nat → Prop} {d j : Nat} (h : P j) : tw_fs P (d + 1) j = nI j := by
  show @ite Int32 (P j) (Classical.propDecidable _) (nI j) (tw_fs P d (j + 1)) = _
  rw [if_pos h]
theorem tw_fs_f {P : Nat → Prop} {d j : Nat} (h : ¬ P j) : tw_fs P (d + 1) j = tw_fs P d (j + 1) := by
  show @ite Int32 (P j) (Classical.propDecidable _) (nI j) (tw_fs P d (j + 1)) = _
  rw [if_neg h]
theorem tw_fs_eq {P Q : Nat → Prop} : ∀ d j, (∀ i, j ≤ i → (P i ↔ Q i)) → tw_fs P d j = tw_fs Q d j := by
  intro d
  induction d with
  | zero => intro j _; rfl
  | succ d ih =>
    intro j h
    rcases Classical.em (P j) with z | z
    · rw [tw_fs_t z, tw_fs_t ((h j (Nat.le_refl _)).mp z)]
    · rw [tw_fs_f z, tw_fs_f (fun q => z ((h j (Nat.le_refl _)).mpr q)), ih (j + 1) (fun i hi => h i (by omega))]
theorem tw_fs_skip {P : Nat → Prop} (d : Nat) : ∀ f j, (∀ i, j ≤ i → i < j + f → ¬ P i) → tw_fs P (d + f) j = tw_fs P d (j + f) := by
  intro f
  induction f with
  | zero => intro j _; rfl
  | succ f ih =>
    intro j h
    rw [show d + (f + 1) = (d + f) + 1 from rfl, tw_fs_f (h j (Nat.le_refl _) (by omega)), ih (j + 1) (fun i h1 h2 => h i (by omega) (by omega)), show j + 1 + f = j + (f + 1) from by omega]
noncomputable def tw_ls (b : Nat) (P : Nat → Prop) : Nat → Nat
  | 0 => b
  | l + 1 => @ite Nat (P (l + 1)) (Classical.propDecidable _) (l + 1) (tw_ls b P l)
theorem tw_ls_t {b : Nat} {P : Nat → Prop} {l : Nat} (h : P (l + 1)) : tw_ls b P (l + 1) = l + 1 := by
  show @ite Nat (P (l + 1)) (Classical.propDecidable _) (l + 1) (tw_ls b P l) = _
  rw [if_pos h]
theorem tw_ls_f {b : Nat} {P : Nat → Prop} {l : Nat} (h : ¬ P (l + 1)) : tw_ls b P (l + 1) = tw_ls b P l := by
  show @ite Nat (P (l + 1)) (Classical.propDecidable _) (l + 1) (tw_ls b P l) = _
  rw [if_neg h]
theorem tw_ls1 (P : Nat → Prop) : ∀ l, 0 < tw_ls 1 P l ∧ (0 < l → tw_ls 1 P l ≤ l) := by
  intro l
  induction l with
  | zero => exact ⟨Nat.one_pos, fun h => absurd h (by omega)⟩
  | succ l ih =>
    rcases Classical.em (P (l + 1)) with z | z
    · rw [tw_ls_t z]; omega
    · rw [tw_ls_f z]
      refine ⟨ih.1, fun _ => ?_⟩
      rcases Nat.eq_zero_or_pos l with e | e
      · subst e; exact Nat.le_refl _
      · have := ih.2 e; omega
theorem tw_ls11 (P : Nat → Prop) : tw_ls 1 P 1 = 1 := by
  have := tw_ls1 P 1
  omega
noncomputable def tw_bs (B : Nat → Nat → Prop) : Nat → Nat
  | 0 => 0
  | i + 1 => @ite Nat (B (tw_bs B i) (i + 1)) (Classical.propDecidable _) (i + 1) (tw_bs B i)
theorem tw_bs_t {B : Nat → Nat → Prop} {i : Nat} (h : B (tw_bs B i) (i + 1)) : tw_bs B (i + 1) = i + 1 := by
  show @ite Nat (B (tw_bs B i) (i + 1)) (Classical.propDecidable _) (i + 1) (tw_bs B i) = _
  rw [if_pos h]
theorem tw_bs_f {B : Nat → Nat → Prop} {i : Nat} (h : ¬ B (tw_bs B i) (i + 1)) : tw_bs B (i + 1) = tw_bs B i := by
  show @ite Nat (B (tw_bs B i) (i + 1)) (Classical.propDecidable _) (i + 1) (tw_bs B i) = _
  rw [if_neg h]
theorem tw_bs_le (B : Nat → Nat → Prop) : ∀ i, tw_bs B i ≤ i := by
  intro i
  induction i with
  | zero => exact Nat.le_refl _
  | succ i ih =>
    rcases Classical.em (B (tw_bs B i) (i + 1)) with z | z
    · rw [tw_bs_t z]; exact Nat.le_refl _
    · rw [tw_bs_f z]; omega
/-- the rotation from s of the word stands in the text at i -/
def tw_oc (w t : Nat → Int32) (m n s i : Nat) : Prop := 0 < m ∧ i + m ≤ n ∧ ∀ k, k < m → t (i + k) = w ((s + k) % m)
/-- the beginning of length l of the word is an end of its beginning of length q -/
def tw_bo (w : Nat → Int32) (l q : Nat) : Prop := ∀ k, k < l → w k = w (q - l + k)
/-- the beginning of length l of the word is an end of the text -/
def tw_en (w t : Nat → Int32) (n l : Nat) : Prop := ∀ k, k < l → t (n - l + k) = w k
/-- x before y in the order o -/
def tw_lt (o x y : Int32) : Prop := (o = 0 → x < y) ∧ (¬ o = 0 → y < x)
/-- the part from a comes before the part from b (a < b), both up to e -/
def tw_be (w : Nat → Int32) (o : Int32) (e a b : Nat) : Prop := ∃ k, b + k < e ∧ (∀ j, j < k → w (a + j) = w (b + j)) ∧ ¬ w (a + k) = w (b + k) ∧ tw_lt o (w (a + k)) (w (b + k))
/-- the rotation from a comes before that from b -/
def tw_ro (w : Nat → Int32) (m a b : Nat) : Prop := ∃ k, k < m ∧ (∀ j, j < k → w ((a + j) % m) = w ((b + j) % m)) ∧ ¬ w ((a + k) % m) = w ((b + k) % m) ∧ w ((a + k) % m) < w ((b + k) % m)
/-- the part from s up to e is Lyndon -/
def tw_ly (w : Nat → Int32) (s e : Nat) : Prop := ∀ i, s < i → i < e → tw_be w 0 e s i
/-- the beginning of length l of the part from s is Lyndon; the length of the longest such up to m -/
def tw_lp (w : Nat → Int32) (s l : Nat) : Prop := tw_ly w s (s + l)
noncomputable def tw_L (w : Nat → Int32) (m s : Nat) : Nat := tw_ls 1 (tw_lp w s) (m - s)
theorem tw_L_in (w : Nat → Int32) {m s : Nat} (h : s < m) : 0 < tw_L w m s ∧ s + tw_L w m s ≤ m := by
  have a := tw_ls1 (tw_lp w s) (m - s)
  have b := a.2 (by omega)
  unfold tw_L
  omega
theorem tw_rot {m s k : Nat} (hs : s < m) (hk : k < m) : (s + k) % m = if s + k < m then s + k else s + k - m := by
  by_cases h : s + k < m
  · rw [if_pos h, Nat.mod_eq_of_lt h]
  · rw [if_neg h, Nat.mod_eq_sub_mod (by omega), Nat.mod_eq_of_lt (by omega)]
/-- the text with the first k letters of the word put behind its n -/
def tw_fp (w t : Nat → Int32) (n : Nat) : Nat → (Nat → Int32)
  | 0 => t
  | k + 1 => upd (tw_fp w t n k) (n + k) (w k)
/-- the number of Lyndon factors from s on -/
theorem tw_exF (L : Nat → Nat) (m : Nat) (hL : ∀ s, s < m → 0 < L s) : ∃ F : Nat → Nat, (∀ s, m ≤ s → F s = 0) ∧ (∀ s, s < m → F s = F (s + L s) + 1) := by
  obtain ⟨f, hf⟩ := tw_fx (V := Nat) (fun s : Nat => m - s) (fun r s => if s < m then r (s + L s) + 1 else 0)
  refine ⟨f, fun s h => ?_, fun s h => ?_⟩
  · rw [hf s, if_neg (by omega)]
  · have := hL s h
    rw [hf s, if_pos h]
    dsimp only
    rw [if_pos (by omega)]
/-- the length of the factor number i, from s on, where the factor at s has the number c -/
theorem tw_exG (L : Nat → Nat) (m : Nat) (i : Int32) (hL : ∀ s, s < m → 0 < L s) : ∃ G : Nat → Nat → Int32, (∀ s c, m ≤ s → G s c = -4) ∧ (∀ s c, s < m → nI c = i → G s c = nI (L s)) ∧ (∀ s c, s < m → ¬ nI c = i → G s c = G (s + L s) (c + 1)) := by
  obtain ⟨f, hf⟩ := tw_fx (V := Nat → Int32) (fun s : Nat => m - s) (fun r s c => if s < m then (if nI c = i then nI (L s) else r (s + L s) (c + 1)) else -4)
  refine ⟨f, fun s c h => ?_, fun s c h e => ?_, fun s c h e => ?_⟩
  · rw [hf s]
    dsimp only
    rw [if_neg (by omega)]
  · rw [hf s]
    dsimp only
    rw [if_pos h, if_pos e]
  · have := hL s h
    rw [hf s]
    dsimp only
    rw [if_pos h, if_neg e, if_pos (by omega)]
def tw_mx (a b : Nat) : Nat := if a < b then b else a
theorem tw_mx_in (a b : Nat) : (a < b ∧ tw_mx a b = b) ∨ (b ≤ a ∧ tw_mx a b = a) := by
  unfold tw_mx
  by_cases h : a < b
  · rw [if_pos h]; exact Or.inl ⟨h, rfl⟩
  · rw [if_neg h]; exact Or.inr ⟨by omega, rfl⟩
/-- the most occurrences apart from i on -/
theorem tw_exD (P : Nat → Prop) (m n : Nat) (hP : ∀ i, P i → 0 < m ∧ i + m ≤ n) : ∃ D : Nat → Nat, (∀ i, n ≤ i → D i = 0) ∧ (∀ i, i < n → P i → D i = tw_mx (D (i + 1)) (1 + D (i + m))) ∧ (∀ i, i < n → ¬ P i → D i = D (i + 1)) := by
  obtain ⟨f, hf⟩ := tw_fx (V := Nat) (fun s : Nat => n - s) (fun r i => if i < n then (@ite Nat (P i) (Classical.propDecidable _) (tw_mx (r (i + 1)) (1 + r (i + m))) (r (i + 1))) else 0)
  refine ⟨f, fun s h => ?_, fun s h p => ?_, fun s h p => ?_⟩
  · rw [hf s, if_neg (by omega)]
  · have := hP s p
    rw [hf s, if_pos h, if_pos p]
    dsimp only
    rw [if_pos (by omega), if_pos (by omega)]
  · rw [hf s, if_pos h, if_neg p]
    dsimp only
    rw [if_pos (by omega)]
section
variable {P : Nat → Prop} {m n : Nat} {D : Nat → Nat}
theorem tw_D_le (hP : ∀ i, P i → 0 < m ∧ i + m ≤ n) (h0 : ∀ i, n ≤ i → D i = 0) (h1 : ∀ i, i < n → P i → D i = tw_mx (D (i + 1)) (1 + D (i + m))) (h2 : ∀ i, i < n → ¬ P i → D i = D (i + 1)) : ∀ d i, n ≤ i + d → D i ≤ d := by
  intro d
  induction d using Nat.strongRecOn with
  | _ d ih =>
    intro i h
    by_cases z : i < n
    · have a := ih (d - 1) (by omega) (i + 1) (by omega)
      rcases Classical.em (P i) with p | p
      · have q := hP i p
        have b := ih (d - 1) (by omega) (i + m) (by omega)
        rw [h1 i z p]
        rcases tw_mx_in (D (i + 1)) (1 + D (i + m)) with ⟨_, e⟩ | ⟨_, e⟩ <;> rw [e] <;> omega
      · rw [h2 i z p]; omega
    · rw [h0 i (by omega)]; omega
theorem tw_D_step (h0 : ∀ i, n ≤ i → D i = 0) (h1 : ∀ i, i < n → P i → D i = tw_mx (D (i + 1)) (1 + D (i + m))) (h2 : ∀ i, i < n → ¬ P i → D i = D (i + 1)) (i : Nat) : D (i + 1) ≤ D i := by
  by_cases z : i < n
  · rcases Classical.em (P i) with p | p
    · rw [h1 i z p]
      rcases tw_mx_in (D (i + 1)) (1 + D (i + m)) with ⟨_, e⟩ | ⟨_, e⟩ <;> rw [e] <;> omega
    · rw [h2 i z p]; exact Nat.le_refl _
  · rw [h0 (i + 1) (by omega)]; exact Nat.zero_le _
theorem tw_D_anti (h0 : ∀ i, n ≤ i → D i = 0) (h1 : ∀ i, i < n → P i → D i = tw_mx (D (i + 1)) (1 + D (i + m))) (h2 : ∀ i, i < n → ¬ P i → D i = D (i + 1)) (i : Nat) : ∀ d, D (i + d) ≤ D i := by
  intro d
  induction d with
  | zero => exact Nat.le_refl _
  | succ d ih => exact Nat.le_trans (tw_D_step h0 h1 h2 (i + d)) ih
theorem tw_D_one (hP : ∀ i, P i → 0 < m ∧ i + m ≤ n) (h0 : ∀ i, n ≤ i → D i = 0) (h1 : ∀ i, i < n → P i → D i = tw_mx (D (i + 1)) (1 + D (i + m))) (h2 : ∀ i, i < n → ¬ P i → D i = D (i + 1)) (i : Nat) : ∀ d j, n ≤ j + d → i ≤ j → D j ≤ 1 + D (i + m) := by
  intro d
  induction d with
  | zero => intro j h _; rw [h0 j h]; omega
  | succ d ih =>
    intro j h hj
    by_cases z : j < n
    · have a := ih (j + 1) (by omega) (by omega)
      rcases Classical.em (P j) with p | p
      · have b := tw_D_anti h0 h1 h2 (i + m) (j - i)
        rw [show i + m + (j - i) = j + m from by omega] at b
        rw [h1 j z p]
        rcases tw_mx_in (D (j + 1)) (1 + D (j + m)) with ⟨_, e⟩ | ⟨_, e⟩ <;> rw [e] <;> omega
      · rw [h2 j z p]; exact a
    · rw [h0 j (by omega)]; omega
/-- an occurrence at i: taking it is as good as any other way -/
theorem tw_D_t (hP : ∀ i, P i → 0 < m ∧ i + m ≤ n) (h0 : ∀ i, n ≤ i → D i = 0) (h1 : ∀ i, i < n → P i → D i = tw_mx (D (i + 1)) (1 + D (i + m))) (h2 : ∀ i, i < n → ¬ P i → D i = D (i + 1)) {i : Nat} (p : P i) : D i = 1 + D (i + m) := by
  have q := hP i p
  have a := tw_D_one hP h0 h1 h2 i n (i + 1) (by omega) (by omega)
  rw [h1 i (by omega) p]
  rcases tw_mx_in (D (i + 1)) (1 + D (i + m)) with ⟨_, e⟩ | ⟨_, e⟩ <;> rw [e] <;> omega
end
/-! sums and differences of small numbers -/
theorem tw_sle {p n m : Nat} (hp : p < 2 ^ 30) (hn : n < 2 ^ 30) (hm : m < 2 ^ 30) : nI p ≤ nI n - nI m ↔ p + m ≤ n := by
  rw [Int32.le_iff_toInt_le, pk_sub_toInt hn hm, nI_toInt (by omega)]
  omega
theorem tw_sle2 {p n m : Nat} (hp : p < 2 ^ 30) (hn : n < 2 ^ 30) (hm : m < 2 ^ 30) : nI n - nI m ≤ nI p ↔ n ≤ p + m := by
  rw [Int32.le_iff_toInt_le, pk_sub_toInt hn hm, nI_toInt (by omega)]
  omega
theorem tw_slt {p n m : Nat} (hp : p < 2 ^ 30) (hn : n < 2 ^ 30) (hm : m < 2 ^ 30) : nI p < nI n - nI m ↔ p + m < n := by
  rw [Int32.lt_iff_toInt_lt, pk_sub_toInt hn hm, nI_toInt (by omega)]
  omega
theorem tw_slt2 {p n m : Nat} (hp : p < 2 ^ 30) (hn : n < 2 ^ 30) (hm : m < 2 ^ 30) : nI n - nI m < nI p ↔ n < p + m := by
  rw [Int32.lt_iff_toInt_lt, pk_sub_toInt hn hm, nI_toInt (by omega)]
  omega
theorem tw_sub1 (a m : Nat) : nI a - nI m + 1 = nI (a + 1) - nI m := by
  rw [← nI_1]
  grind
theorem tw_m1s (a : Nat) : nI a - 1 = nI a + (-1) := by grind
theorem tw_cl {k : Nat} (h : k < 1000) : (nI k).toNatClampNeg = k := nI_clamp (by omega)
theorem tw_ib {c d A B : Prop} (e : c ↔ d) (f : d → A) (g : ¬ d → B) : (c → A) ∧ (¬ c → B) := ⟨fun h => f (e.mp h), fun h => g (fun z => h (e.mpr z))⟩
theorem tw_n1 : ¬ (1 : Int32) = 0 := by decide
theorem tw_mx_l {a b : Nat} (h : a ≤ b) : tw_mx a b = b := by
  rcases tw_mx_in a b with ⟨_, e⟩ | ⟨_, e⟩ <;> omega
theorem tw_mx_r {a b : Nat} (h : b ≤ a) : tw_mx a b = a := by
  rcases tw_mx_in a b with ⟨_, e⟩ | ⟨_, e⟩ <;> omega
/-- q is a period of the word of length m -/
def tw_pe (w : Nat → Int32) (m q : Nat) : Prop := tw_bo w (m - q) m
/-- l is the length of a border of the beginning of length q -/
def tw_bp (w : Nat → Int32) (q l : Nat) : Prop := tw_bo w l q
/-- the place p of the text is covered -/
def tw_cv (w t : Nat → Int32) (m n p : Nat) : Prop := ∃ i, i ≤ p ∧ p < i + m ∧ tw_oc w t m n 0 i
/-- the rotation from s is found -/
def tw_fd (w t : Nat → Int32) (m n s : Nat) : Prop := ∃ i, i < n ∧ tw_oc w t m n s i
theorem tw_be_at {w : Nat → Int32} {o : Int32} {e a b k : Nat} (hk : b + k < e) (hj : ∀ j, j < k → w (a + j) = w (b + j)) (hne : ¬ w (a + k) = w (b + k)) : tw_be w o e a b ↔ tw_lt o (w (a + k)) (w (b + k)) := by
  constructor
  · rintro ⟨q, _, hq, hn, hl⟩
    rcases Nat.lt_trichotomy q k with y | y | y
    · exact absurd (hj q y) hn
    · rw [y] at hl; exact hl
    · exact absurd (hq k y) hne
  · exact fun h => ⟨k, hk, hj, hne, h⟩
theorem tw_ro_at {w : Nat → Int32} {m a b k : Nat} (hk : k < m) (hj : ∀ j, j < k → w ((a + j) % m) = w ((b + j) % m)) (hne : ¬ w ((a + k) % m) = w ((b + k) % m)) : tw_ro w m a b ↔ w ((a + k) % m) < w ((b + k) % m) := by
  constructor
  · rintro ⟨q, _, hq, hn, hl⟩
    rcases Nat.lt_trichotomy q k with y | y | y
    · exact absurd (hj q y) hn
    · rw [y] at hl; exact hl
    · exact absurd (hq k y) hne
  · exact fun h => ⟨k, hk, hj, hne, h⟩
theorem tw_oc_in {w t : Nat → Int32} {m n : Nat} : ∀ i, tw_oc w t m n 0 i → 0 < m ∧ i + m ≤ n := fun _ o => ⟨o.1, o.2.1⟩
