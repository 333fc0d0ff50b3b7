section
/-! rows pasted from the kit's pure rows -/
theorem pk_us {f : Nat → Int32} {k : Nat} {x : Int32} : upd f k x k = x := if_pos rfl
theorem pk_un {f : Nat → Int32} {k j : Nat} {x : Int32} (h : j ≠ k) : upd f k x j = f j := if_neg h
theorem pk_sub {a b : Nat} (h : b ≤ a) : nI a - nI b = nI (a - b) := by
  obtain ⟨c, rfl⟩ : ∃ c, a = c + b := ⟨a - b, by omega⟩
  rw [← nI_add, Int32.add_sub_cancel, Nat.add_sub_cancel]
theorem pk_m1 (n : Nat) : nI (n + 1) + (-1) = nI n := by
  rw [← nI_1, Int32.add_assoc, show (1 : Int32) + (-1) = 0 from rfl, Int32.add_zero]
theorem pk_mul (a b : Nat) : nI a * nI b = nI (a * b) := (Int32.ofNat_mul a b).symm
theorem pk_div {a d : Nat} (ha : a < 2 ^ 31) (h0 : 0 < d) (hd : d < 2 ^ 31) : nI a / nI d = nI (a / d) := by
  apply Int32.toInt_inj.mp
  rw [lg_idiv_nonneg (by rw [nI_toInt ha]; omega) (by rw [nI_toInt hd]; omega), nI_toInt ha, nI_toInt hd, nI_toInt (Nat.lt_of_le_of_lt (Nat.div_le_self a d) ha)]
  first | rfl | exact (Int.natCast_ediv _ _).symm
theorem pk_rem {a d : Nat} (ha : a < 2 ^ 31) (h0 : 0 < d) (hd : d < 2 ^ 31) : nI a - nI a / nI d * nI d = nI (a % d) := by
  rw [pk_div ha h0 hd, pk_mul, pk_sub (Nat.div_mul_le_self a d)]
  exact congrArg nI (by have := Nat.div_add_mod' a d; omega)
theorem pk_ix (x : Int32) {n : Nat} (hn : n < 2 ^ 31) : x < 0 ∨ nI n ≤ x ∨ ∃ j : Nat, j < n ∧ x = nI j := by
  by_cases h : x < 0
  · exact Or.inl h
  · obtain ⟨j, hj, rfl⟩ := nI_of h
    by_cases h2 : j < n
    · exact Or.inr (Or.inr ⟨j, h2, rfl⟩)
    · exact Or.inr (Or.inl (nI_le (by omega) hj))
theorem pk_le {x y : Int32} {A B : Prop} (a b : Nat) (f : a ≤ b → A) (g : b < a → B) (hx : x = nI a := by rfl) (hy : y = nI b := by rfl) (ha : a < 2 ^ 31 := by omega) (hb : b < 2 ^ 31 := by omega) : (x ≤ y → A) ∧ (¬ x ≤ y → B) := by
  subst hx hy
  rw [nI_leI ha hb]
  exact ⟨f, fun z => g (by omega)⟩
theorem pk_lt {x y : Int32} {A B : Prop} (a b : Nat) (f : a < b → A) (g : b ≤ a → B) (hx : x = nI a := by rfl) (hy : y = nI b := by rfl) (ha : a < 2 ^ 31 := by omega) (hb : b < 2 ^ 31 := by omega) : (x < y → A) ∧ (¬ x < y → B) := by
  subst hx hy
  rw [nI_ltI ha hb]
  exact ⟨f, fun z => g (by omega)⟩
theorem pk_eq {x y : Int32} {A B : Prop} (a b : Nat) (f : a = b → A) (g : a ≠ b → B) (hx : x = nI a := by rfl) (hy : y = nI b := by rfl) (ha : a < 2 ^ 31 := by omega) (hb : b < 2 ^ 31 := by omega) : (x = y → A) ∧ (¬ x = y → B) := by
  subst hx hy
  rw [nI_eq ha hb]
  exact ⟨f, g⟩
theorem pk_in {x : Int32} (n N : Nat) (h : n < N) (hx : x = nI n := by rfl) (hN : N < 2 ^ 31 := by omega) : vp_in x N := by
  subst hx
  exact vp_in_nI h hN
theorem pk_cl {x : Int32} (n : Nat) (hx : x = nI n := by rfl) (h : n < 2 ^ 31 := by omega) : x.toNatClampNeg = n := by
  subst hx
  exact nI_clamp h
theorem pk_tn {n : Nat} (h : n < 2 ^ 32) : (nI n).toBitVec.toNat = n := Nat.mod_eq_of_lt h
theorem pk_and (x : Int32) {m : Int32} (k : Nat) (hm : m.toBitVec.toNat = 2 ^ k - 1) : x &&& m = nI (x.toBitVec.toNat % 2 ^ k) := by
  apply Int32.toBitVec_inj.mp
  apply BitVec.eq_of_toNat_eq
  rw [Int32.toBitVec_and, BitVec.toNat_and, hm, Nat.and_two_pow_sub_one_eq_mod]
  show _ = (BitVec.ofNat 32 _).toNat
  rw [BitVec.toNat_ofNat]
  exact (Nat.mod_eq_of_lt (Nat.lt_of_le_of_lt (Nat.mod_le _ _) x.toBitVec.isLt)).symm
theorem pk_andN {n : Nat} (h : n < 2 ^ 32) {m : Int32} (k : Nat) (hm : m.toBitVec.toNat = 2 ^ k - 1) : nI n &&& m = nI (n % 2 ^ k) := by
  rw [pk_and _ k hm, pk_tn h]
theorem pk_andE (x : Int32) {m : Int32} (k : Nat) (hm : m.toBitVec.toNat = 2 ^ k - 1) : ∃ j : Nat, j < 2 ^ k ∧ x &&& m = nI j := ⟨_, Nat.mod_lt _ (Nat.two_pow_pos k), pk_and x k hm⟩
theorem pk_andIn (x : Int32) {m : Int32} (k : Nat) (hm : m.toBitVec.toNat = 2 ^ k - 1) (hk : k ≤ 30) : vp_in (x &&& m) (2 ^ k) := by
  obtain ⟨j, hj, e⟩ := pk_andE x k hm
  rw [e]
  exact vp_in_nI hj (Nat.lt_of_le_of_lt (Nat.pow_le_pow_right (by decide) hk) (by decide))
end
section
/-! the lesser and the greater of two ints; iteration; neighbours; counting -/
def ft_mn (a b : Int32) : Int32 := if a < b then a else b
def ft_mx (a b : Int32) : Int32 := if b < a then a else b
theorem ft_mn_i (a b : Int32) : (ft_mn a b).toInt = min a.toInt b.toInt := by
  unfold ft_mn
  by_cases h : a < b
  · rw [if_pos h]; rw [Int32.lt_iff_toInt_lt] at h; omega
  · rw [if_neg h]; rw [Int32.lt_iff_toInt_lt] at h; omega
theorem ft_mx_i (a b : Int32) : (ft_mx a b).toInt = max a.toInt b.toInt := by
  unfold ft_mx
  by_cases h : b < a
  · rw [if_pos h]; rw [Int32.lt_iff_toInt_lt] at h; omega
  · rw [if_neg h]; rw [Int32.lt_iff_toInt_lt] at h; omega
theorem ft_100 : (100 : Int32).toInt = 100 := by decide
theorem ft_99 : (99 : Int32).toInt = 99 := by decide
theorem ft_m1 : (-1 : Int32).toInt = -1 := by decide
theorem ft_0 : (0 : Int32).toInt = 0 := by decide
def ft_it {S : Type} (f : Nat → S → S) : Nat → Nat → S → S
  | _, 0, s => s
  | i, d + 1, s => ft_it f (i + 1) d (f i s)
theorem ft_it_inv {S : Type} (f : Nat → S → S) (I : Nat → S → Prop) (e : Nat) (hs : ∀ i s, i < e → I i s → I (i + 1) (f i s)) : ∀ d i s, i + d = e → I i s → I e (ft_it f i d s) := by
  intro d
  induction d with
  | zero => intro i s h hi; cases h; exact hi
  | succ d ih => intro i s h hi; exact ih (i + 1) (f i s) (by omega) (hs i s (by omega) hi)
theorem ft_it_rel {S T : Type} (f : Nat → S → S) (g : Nat → T → T) (I : Nat → S → T → Prop) (e : Nat) (hs : ∀ i s t, i < e → I i s t → I (i + 1) (f i s) (g i t)) : ∀ d i s t, i + d = e → I i s t → I e (ft_it f i d s) (ft_it g i d t) := by
  intro d
  induction d with
  | zero => intro i s t h hi; cases h; exact hi
  | succ d ih => intro i s t h hi; exact ih (i + 1) (f i s) (g i t) (by omega) (hs i s t (by omega) hi)
theorem ft_it_loop {S : Type} (W : Nat → Nat → S → Prop) (f : Nat → S → S) (e : Nat) (P : S → Prop) (hx : ∀ n s, P s → W (n + 1) e s) (hs : ∀ n i s, i < e → W n (i + 1) (f i s) → W (n + 1) i s) : ∀ d i s, i + d = e → P (ft_it f i d s) → W (d + 1) i s := by
  intro d
  induction d with
  | zero => intro i s h hp; cases h; exact hx 0 s hp
  | succ d ih => intro i s h hp; exact hs (d + 1) i s (by omega) (ih (i + 1) (f i s) (by omega) hp)
/-- a loop that fills an array, each cell from its own old value -/
theorem ft_fill (e : Nat → Int32 → Int32) (N : Nat) (a : Nat → Int32) : ∀ j, j < N → ft_it (fun c s => upd s c (e c (s c))) 0 N a j = e j (a j) := by
  have h := ft_it_inv (fun c s => upd s c (e c (s c))) (fun i s => (∀ j, j < i → s j = e j (a j)) ∧ ∀ j, i ≤ j → s j = a j) N (by
    intro i s _ ⟨h1, h2⟩
    refine ⟨fun j hj => ?_, fun j hj => ?_⟩
    · by_cases hji : j = i
      · subst hji; show upd s j (e j (s j)) j = _; rw [pk_us, h2 j (Nat.le_refl j)]
      · show upd s i (e i (s i)) j = _; rw [pk_un hji]; exact h1 j (by omega)
    · show upd s i (e i (s i)) j = _; rw [pk_un (by omega)]; exact h2 j (by omega)) N 0 a (by omega) ⟨fun j hj => absurd hj (Nat.not_lt_zero j), fun _ _ => rfl⟩
  exact h.1
/-- counting, over any condition -/
noncomputable def ft_ct (p : Nat → Prop) (i : Nat) (n : Int32) : Int32 := @ite _ (p i) (Classical.propDecidable _) (n + 1) n
theorem ft_ct_t {p : Nat → Prop} {i : Nat} {n : Int32} (h : p i) : ft_ct p i n = n + 1 := if_pos h
theorem ft_ct_f {p : Nat → Prop} {i : Nat} {n : Int32} (h : ¬ p i) : ft_ct p i n = n := if_neg h
noncomputable def ft_cnt (p : Nat → Prop) (N : Nat) : Int32 := ft_it (ft_ct p) 0 N 0
theorem ft_cnt_eq {p q : Nat → Prop} (N : Nat) (h : ∀ i, i < N → (p i ↔ q i)) : ft_cnt p N = ft_cnt q N := by
  refine ft_it_rel (ft_ct p) (ft_ct q) (fun _ s t => s = t) N (fun i s t hi e => ?_) N 0 0 0 (by omega) rfl
  cases e
  by_cases hp : p i
  · rw [ft_ct_t hp, ft_ct_t ((h i hi).mp hp)]
  · rw [ft_ct_f hp, ft_ct_f (fun hq => hp ((h i hi).mpr hq))]
/-- the neighbours: 64 where there is none -/
def ft_nb (c d : Nat) : Nat :=
  if d = 0 then (if c < 8 then 64 else c - 8)
  else if d = 1 then (if 55 < c then 64 else c + 8)
  else if d = 2 then (if c % 8 = 0 then 64 else c - 1)
  else (if c % 8 = 7 then 64 else c + 1)
def ft_od (d : Nat) : Nat := if d = 0 then 1 else if d = 1 then 0 else if d = 2 then 3 else 2
theorem ft_nb_le {c d : Nat} (hc : c < 64) : ft_nb c d ≤ 64 := by
  unfold ft_nb
  repeat' split
  all_goals omega
theorem ft_nb_lt {c d : Nat} (hc : c < 64) (h : ¬ ft_nb c d = 64) : ft_nb c d < 64 := by
  have := ft_nb_le (d := d) hc
  omega
theorem ft_nb_ne {c d : Nat} (hc : c < 64) : ft_nb c d ≠ c := by
  unfold ft_nb
  repeat' split
  all_goals omega
theorem ft_od_lt (d : Nat) : ft_od d < 4 := by
  unfold ft_od
  repeat' split
  all_goals omega
theorem ft_nb_sym : ∀ c, c < 64 → ∀ d, d < 4 → ft_nb c d ≠ 64 → ft_nb (ft_nb c d) (ft_od d) = c := by decide +kernel
/-- beside it, and of one kind -/
def ft_E (K : Nat → Int32) (a b : Nat) : Prop := ∃ d, d < 4 ∧ ft_nb a d = b ∧ b ≠ 64 ∧ K b = K a
theorem ft_E_lt {K : Nat → Int32} {a b : Nat} (ha : a < 64) (h : ft_E K a b) : b < 64 := by
  obtain ⟨d, _, e, n, _⟩ := h
  subst e
  exact ft_nb_lt ha n
theorem ft_E_sym {K : Nat → Int32} {a b : Nat} (ha : a < 64) (h : ft_E K a b) : ft_E K b a := by
  obtain ⟨d, hd, e, n, k⟩ := h
  refine ⟨ft_od d, ft_od_lt d, ?_, by omega, k.symm⟩
  rw [← e]
  exact ft_nb_sym a ha d hd (by rw [e]; exact n)
/-- counting naturals -/
def ft_cn (p : Nat → Bool) : Nat → Nat
  | 0 => 0
  | n + 1 => ft_cn p n + (if p n = true then 1 else 0)
theorem ft_cn_le (p : Nat → Bool) : ∀ n, ft_cn p n ≤ n := by
  intro n
  induction n with
  | zero => exact Nat.le_refl 0
  | succ n ih => unfold ft_cn; split <;> omega
theorem ft_cn_mono {p q : Nat → Bool} : ∀ n, (∀ i, i < n → p i = true → q i = true) → ft_cn p n ≤ ft_cn q n := by
  intro n
  induction n with
  | zero => intro _; exact Nat.le_refl 0
  | succ n ih =>
    intro h
    have h1 := ih (fun i hi => h i (by omega))
    have h2 := h n (by omega)
    unfold ft_cn
    by_cases hp : p n = true
    · rw [if_pos hp, if_pos (h2 hp)]; omega
    · rw [if_neg hp]; omega
theorem ft_cn_strict {p q : Nat → Bool} {j : Nat} (hp : ¬ p j = true) (hq : q j = true) : ∀ n, j < n → (∀ i, i < n → p i = true → q i = true) → ft_cn p n + 1 ≤ ft_cn q n := by
  intro n
  induction n with
  | zero => intro h; omega
  | succ n ih =>
    intro hj h
    by_cases hn : j = n
    · subst hn
      have h1 := ft_cn_mono j (fun i hi => h i (by omega))
      unfold ft_cn
      rw [if_neg hp, if_pos hq]
      omega
    · have h1 := ih (by omega) (fun i hi => h i (by omega))
      have h2 := h n (by omega)
      unfold ft_cn
      by_cases hpn : p n = true
      · rw [if_pos hpn, if_pos (h2 hpn)]; omega
      · rw [if_neg hpn]; omega
theorem ft_cn_pos {p : Nat → Bool} {j : Nat} (hp : p j = true) (n : Nat) (hj : j < n) : 1 ≤ ft_cn p n := by
  have h := ft_cn_strict (p := fun _ => false) (q := p) (j := j) Bool.false_ne_true hp n hj (fun _ _ h => absurd h Bool.false_ne_true)
  omega
end
section
/-! least labels: one step, a sweep, 64 sweeps; they settle -/
def ft_av (K g : Nat → Int32) (c : Nat) : Nat → Int32
  | 0 => g c
  | d + 1 => if ft_nb c d = 64 then ft_av K g c d else if K (ft_nb c d) = K c then ft_mn (ft_av K g c d) (g (ft_nb c d)) else ft_av K g c d
theorem ft_av_n {K g : Nat → Int32} {c d : Nat} (h : ft_nb c d = 64) : ft_av K g c (d + 1) = ft_av K g c d := if_pos h
theorem ft_av_a {K g : Nat → Int32} {c d : Nat} (h : ¬ ft_nb c d = 64) (k : K (ft_nb c d) = K c) : ft_av K g c (d + 1) = ft_mn (ft_av K g c d) (g (ft_nb c d)) := (if_neg h).trans (if_pos k)
theorem ft_av_o {K g : Nat → Int32} {c d : Nat} (h : ¬ ft_nb c d = 64) (k : ¬ K (ft_nb c d) = K c) : ft_av K g c (d + 1) = ft_av K g c d := (if_neg h).trans (if_neg k)
def ft_js (K : Nat → Int32) (c : Nat) (g : Nat → Int32) : Nat → Int32 := upd g c (ft_av K g c 4)
def ft_sw (K : Nat → Int32) (g : Nat → Int32) : Nat → Int32 := ft_it (ft_js K) 0 64 g
def ft_jn (K : Nat → Int32) (g : Nat → Int32) : Nat → Int32 := ft_it (fun _ g => ft_sw K g) 0 64 g
theorem ft_av_step {K g : Nat → Int32} {c d : Nat} : (ft_av K g c (d + 1)).toInt ≤ (ft_av K g c d).toInt := by
  by_cases h : ft_nb c d = 64
  · rw [ft_av_n h]; omega
  · by_cases k : K (ft_nb c d) = K c
    · rw [ft_av_a h k, ft_mn_i]; omega
    · rw [ft_av_o h k]; omega
theorem ft_av_le0 {K g : Nat → Int32} {c : Nat} : ∀ d, (ft_av K g c d).toInt ≤ (g c).toInt := by
  intro d
  induction d with
  | zero => exact Int.le_refl _
  | succ d ih => have := @ft_av_step K g c d; omega
theorem ft_av_le {K g : Nat → Int32} {c e : Nat} (h : ¬ ft_nb c e = 64) (k : K (ft_nb c e) = K c) : ∀ d, e < d → (ft_av K g c d).toInt ≤ (g (ft_nb c e)).toInt := by
  intro d
  induction d with
  | zero => intro hd; omega
  | succ d ih =>
    intro hd
    by_cases hde : e = d
    · subst hde; rw [ft_av_a h k, ft_mn_i]; omega
    · have h1 := ih (by omega)
      have h2 := @ft_av_step K g c d
      omega
/-- where a label comes from -/
theorem ft_av_src {K g : Nat → Int32} {c : Nat} {Q : Int32 → Prop} (h0 : Q (g c)) (h1 : ∀ b, ft_E K c b → Q (g b)) : ∀ d, d ≤ 4 → Q (ft_av K g c d) := by
  intro d
  induction d with
  | zero => intro _; exact h0
  | succ d ih =>
    intro hd
    have i := ih (by omega)
    by_cases h : ft_nb c d = 64
    · rw [ft_av_n h]; exact i
    · by_cases k : K (ft_nb c d) = K c
      · rw [ft_av_a h k]
        unfold ft_mn
        by_cases l : ft_av K g c d < g (ft_nb c d)
        · rw [if_pos l]; exact i
        · rw [if_neg l]; exact h1 _ ⟨d, by omega, rfl, h, k⟩
      · rw [ft_av_o h k]; exact i
theorem ft_js_le {K g : Nat → Int32} {c j : Nat} : (ft_js K c g j).toInt ≤ (g j).toInt := by
  unfold ft_js
  by_cases h : j = c
  · subst h; rw [pk_us]; exact ft_av_le0 4
  · rw [pk_un h]; exact Int.le_refl _
theorem ft_sw_le (K g : Nat → Int32) : (∀ c, (ft_sw K g c).toInt ≤ (g c).toInt) ∧ ∀ c b, c < 64 → ft_E K c b → (ft_sw K g c).toInt ≤ (g b).toInt := by
  have h := ft_it_inv (ft_js K) (fun i s => (∀ c, (s c).toInt ≤ (g c).toInt) ∧ ∀ c b, c < i → ft_E K c b → (s c).toInt ≤ (g b).toInt) 64 (by
    intro i s _ ⟨h1, h2⟩
    refine ⟨fun c => ?_, fun c b hc e => ?_⟩
    · have a := @ft_js_le K s i c
      have b := h1 c
      omega
    · by_cases hci : c = i
      · subst hci
        obtain ⟨d, hd, eb, n, k⟩ := e
        subst eb
        have a := @ft_av_le K s c d n k 4 hd
        have b := h1 (ft_nb c d)
        have z : ft_js K c s c = ft_av K s c 4 := pk_us
        rw [z]
        omega
      · have a := @ft_js_le K s i c
        have b := h2 c b (by omega) e
        omega) 64 0 g (by omega) ⟨fun _ => Int.le_refl _, fun c _ hc => absurd hc (Nat.not_lt_zero c)⟩
  exact h
/-- what holds of a label and goes along, holds after a sweep -/
theorem ft_sw_src {K g : Nat → Int32} {Q : Nat → Int32 → Prop} (hQ : ∀ a b v, a < 64 → ft_E K a b → Q b v → Q a v) (h0 : ∀ c, c < 64 → Q c (g c)) : ∀ c, c < 64 → Q c (ft_sw K g c) := by
  refine ft_it_inv (ft_js K) (fun _ s => ∀ c, c < 64 → Q c (s c)) 64 (fun i s hi h c hc => ?_) 64 0 g (by omega) h0
  by_cases hci : c = i
  · subst hci
    have z : ft_js K c s c = ft_av K s c 4 := pk_us
    rw [z]
    exact ft_av_src (Q := Q c) (h c hc) (fun b e => hQ c b _ hc e (h b (ft_E_lt hc e))) 4 (Nat.le_refl 4)
  · have z : ft_js K i s c = s c := pk_un hci
    rw [z]
    exact h c hc
theorem ft_jn_src {K g : Nat → Int32} {Q : Nat → Int32 → Prop} (hQ : ∀ a b v, a < 64 → ft_E K a b → Q b v → Q a v) (h0 : ∀ c, c < 64 → Q c (g c)) : ∀ c, c < 64 → Q c (ft_jn K g c) :=
  ft_it_inv (fun _ g => ft_sw K g) (fun _ s => ∀ c, c < 64 → Q c (s c)) 64 (fun _ _ _ h => ft_sw_src hQ h) 64 0 g (by omega) h0
theorem ft_jn_le {K g : Nat → Int32} : ∀ c, (ft_jn K g c).toInt ≤ (g c).toInt :=
  ft_it_inv (fun _ g => ft_sw K g) (fun _ s => ∀ c, (s c).toInt ≤ (g c).toInt) 64 (fun _ s _ h c => Int.le_trans ((ft_sw_le K s).1 c) (h c)) 64 0 g (by omega) (fun _ => Int.le_refl _)
/-- closed below t -/
def ft_cl (K L : Nat → Int32) (t : Int) : Prop := ∀ a b, a < 64 → ft_E K a b → (L a).toInt ≤ t → (L b).toInt ≤ t
theorem ft_cl_sw {K L : Nat → Int32} {t : Int} (h : ft_cl K L t) : ft_cl K (ft_sw K L) t := by
  have hs := ft_sw_le K L
  have hq := ft_sw_src (K := K) (g := L) (Q := fun c v => v.toInt ≤ t → (L c).toInt ≤ t) (by
    intro a b v ha e hb hv
    exact h b a (ft_E_lt ha e) (ft_E_sym ha e) (hb hv)) (fun _ _ z => z)
  intro a b ha e z
  have := h a b ha e (hq a ha z)
  have := hs.1 b
  omega
def ft_un (L : Nat → Int32) (t : Int) : Nat → Bool := fun c => decide ((L c).toInt ≤ t)
theorem ft_settle (K g : Nat → Int32) : ∀ t : Int, ft_cl K (ft_jn K g) t := by
  have h := ft_it_inv (fun _ g => ft_sw K g) (fun k L => ∀ t : Int, ft_cl K L t ∨ k + 1 ≤ ft_cn (ft_un L t) 64) 64 (by
    intro k L _ h t
    by_cases hc : ft_cl K L t
    · exact Or.inl (ft_cl_sw hc)
    · right
      have hn := (h t).resolve_left hc
      have hs := ft_sw_le K L
      have : ∃ a b, a < 64 ∧ ft_E K a b ∧ (L a).toInt ≤ t ∧ ¬ (L b).toInt ≤ t := by
        apply Classical.byContradiction
        intro hno
        exact hc (fun a b ha e z => Classical.byContradiction (fun hb => hno ⟨a, b, ha, e, z, hb⟩))
      obtain ⟨a, b, ha, e, z, hb⟩ := this
      have hlt := ft_E_lt ha e
      have h1 := hs.2 b a hlt (ft_E_sym ha e)
      have h2 := ft_cn_strict (p := ft_un L t) (q := ft_un (ft_sw K L) t) (j := b) (by unfold ft_un; simpa using hb) (by unfold ft_un; simp only [decide_eq_true_eq]; omega) 64 hlt (by
        intro i _ hi
        have h3 := hs.1 i
        unfold ft_un at hi ⊢
        simp only [decide_eq_true_eq] at hi ⊢
        omega)
      omega) 64 0 g (by omega) (by
    intro t
    by_cases hc : ft_cl K g t
    · exact Or.inl hc
    · right
      have : ∃ a, a < 64 ∧ (g a).toInt ≤ t := by
        apply Classical.byContradiction
        intro hno
        exact hc (fun a b ha e z => absurd ⟨a, ha, z⟩ hno)
      obtain ⟨a, ha, z⟩ := this
      have := ft_cn_pos (p := ft_un g t) (j := a) (by unfold ft_un; simp only [decide_eq_true_eq]; exact z) 64 ha
      omega)
  intro t
  rcases h t with h1 | h1
  · exact h1
  · have := ft_cn_le (ft_un (ft_it (fun _ g => ft_sw K g) 0 64 g) t) 64
    omega
theorem ft_settled {K g : Nat → Int32} {a b : Nat} (ha : a < 64) (e : ft_E K a b) : ft_jn K g a = ft_jn K g b := by
  have h1 := ft_settle K g (ft_jn K g a).toInt a b ha e (Int.le_refl _)
  have h2 := ft_settle K g (ft_jn K g b).toInt b a (ft_E_lt ha e) (ft_E_sym ha e) (Int.le_refl _)
  exact Int32.toInt_inj.mp (by omega)
/-- a function that goes along with the kinds -/
def ft_F (K F : Nat → Int32) : Prop := ∀ a b, a < 64 → ft_E K a b → F a = F b
theorem ft_jn_F (K g : Nat → Int32) : ft_F K (ft_jn K g) := fun _ _ ha e => ft_settled ha e
/-- the labels of cells themselves -/
theorem ft_lab {K g : Nat → Int32} (h0 : ∀ c, c < 64 → g c = nI c) : ∀ c, c < 64 → ∃ m, m < 64 ∧ ft_jn K g c = nI m ∧ ∀ F, ft_F K F → F m = F c :=
  ft_jn_src (Q := fun c v => ∃ m, m < 64 ∧ v = nI m ∧ ∀ F, ft_F K F → F m = F c)
    (fun a b _ ha e ⟨m, hm, hv, hF⟩ => ⟨m, hm, hv, fun F f => (hF F f).trans (f a b ha e).symm⟩)
    (fun c hc => ⟨c, hc, h0 c hc, fun _ _ => rfl⟩)
theorem ft_nI_i {n : Nat} (h : n < 64) : (nI n).toInt = (n : Int) := nI_toInt (by omega)
/-- summits: least labels and a mark against labels that are -1 where something is higher -/
theorem ft_summit {K g m0 : Nat → Int32} {hi : Nat → Prop} (h0 : ∀ c, c < 64 → g c = nI c) (h1 : ∀ c, c < 64 → hi c → m0 c = -1) (h2 : ∀ c, c < 64 → ¬ hi c → m0 c = nI c) :
    ∀ c, c < 64 → ((ft_jn K g c = nI c ∧ ¬ ∃ d, d < 64 ∧ ft_jn K g d = nI c ∧ hi d) ↔ ft_jn K m0 c = nI c) := by
  have hl := ft_lab (K := K) h0
  have hm : ∀ c, c < 64 → (ft_jn K m0 c = -1 ∧ ∃ d, d < 64 ∧ hi d ∧ ∀ F, ft_F K F → F d = F c) ∨ (∃ m, m < 64 ∧ ft_jn K m0 c = nI m ∧ ∀ F, ft_F K F → F m = F c) :=
    ft_jn_src (Q := fun c v => (v = -1 ∧ ∃ d, d < 64 ∧ hi d ∧ ∀ F, ft_F K F → F d = F c) ∨ (∃ m, m < 64 ∧ v = nI m ∧ ∀ F, ft_F K F → F m = F c))
      (by
        intro a b v ha e h
        rcases h with ⟨hv, d, hd, hh, hF⟩ | ⟨m, hm, hv, hF⟩
        · exact Or.inl ⟨hv, d, hd, hh, fun F f => (hF F f).trans (f a b ha e).symm⟩
        · exact Or.inr ⟨m, hm, hv, fun F f => (hF F f).trans (f a b ha e).symm⟩)
      (by
        intro c hc
        by_cases hh : hi c
        · exact Or.inl ⟨h1 c hc hh, c, hc, hh, fun _ _ => rfl⟩
        · exact Or.inr ⟨c, hc, h2 c hc hh, fun _ _ => rfl⟩)
  have hml : ∀ c, c < 64 → (ft_jn K m0 c).toInt ≤ (c : Int) := by
    intro c hc
    have h := @ft_jn_le K m0 c
    by_cases hh : hi c
    · rw [h1 c hc hh, ft_m1] at h; omega
    · rw [h2 c hc hh, ft_nI_i hc] at h; exact h
  intro c hc
  constructor
  · intro ⟨hg, hno⟩
    rcases hm c hc with ⟨_, d, hd, hh, hF⟩ | ⟨m, hmm, hv, hF⟩
    · exact absurd ⟨d, hd, (hF _ (ft_jn_F K g)).trans hg, hh⟩ hno
    · have e1 := hF _ (ft_jn_F K g)
      rw [hg] at e1
      have e2 := @ft_jn_le K g m
      rw [e1, h0 m hmm, ft_nI_i hmm, ft_nI_i hc] at e2
      have e3 := hml c hc
      rw [hv, ft_nI_i hmm] at e3
      rw [hv]
      exact congrArg nI (by omega)
  · intro hv
    obtain ⟨m, hmm, hg, hF⟩ := hl c hc
    have e1 := hF _ (ft_jn_F K m0)
    rw [hv] at e1
    have e2 := hml m hmm
    rw [e1, ft_nI_i hc] at e2
    have e3 := @ft_jn_le K g c
    rw [hg, h0 c hc, ft_nI_i hmm, ft_nI_i hc] at e3
    have e4 : m = c := by omega
    subst e4
    refine ⟨hg, ?_⟩
    intro ⟨d, hd, hgd, hh⟩
    obtain ⟨m2, hm2, hg2, hF2⟩ := hl d hd
    have e5 : m2 = m := by
      rw [hg2] at hgd
      exact (nI_eq (by omega) (by omega)).mp hgd
    subst e5
    have e6 := hF2 _ (ft_jn_F K m0)
    have e7 := @ft_jn_le K m0 d
    rw [h1 d hd hh, ← e6, hv, ft_m1, ft_nI_i hm2] at e7
    omega
end
section
/-! rounds of relaxing: X's step by directions, Y's by the least (or the greatest) beside -/
def ft_rd (f : Nat → (Nat → Int32) → Nat → Int32) (g : Nat → Int32) : Nat → Int32 := ft_it (fun _ g => ft_it f 0 64 g) 0 64 g
theorem ft_jn_rd (K g : Nat → Int32) : ft_jn K g = ft_rd (ft_js K) g := rfl
theorem ft_rounds {f g : Nat → (Nat → Int32) → Nat → Int32} {I : (Nat → Int32) → (Nat → Int32) → Prop} (hs : ∀ i s t, i < 64 → I s t → I (f i s) (g i t)) {s t : Nat → Int32} (h : I s t) : I (ft_rd f s) (ft_rd g t) :=
  ft_it_rel (fun _ g => ft_it f 0 64 g) (fun _ s => ft_it g 0 64 s) (fun _ s t => I s t) 64
    (fun _ s t _ hst => ft_it_rel f g (fun _ s t => I s t) 64 hs 64 0 s t (by omega) hst) 64 0 s t (by omega) h
def ft_rv (h g : Nat → Int32) (c : Nat) : Nat → Int32
  | 0 => g c
  | d + 1 => if ft_nb c d = 64 then ft_rv h g c d else ft_mn (ft_rv h g c d) (ft_mx (g (ft_nb c d)) (h c))
theorem ft_rv_n {h g : Nat → Int32} {c d : Nat} (e : ft_nb c d = 64) : ft_rv h g c (d + 1) = ft_rv h g c d := if_pos e
theorem ft_rv_a {h g : Nat → Int32} {c d : Nat} (e : ¬ ft_nb c d = 64) : ft_rv h g c (d + 1) = ft_mn (ft_rv h g c d) (ft_mx (g (ft_nb c d)) (h c)) := if_neg e
def ft_lb (g : Nat → Int32) (c : Nat) : Nat → Int32
  | 0 => 100
  | d + 1 => if ft_nb c d = 64 then ft_lb g c d else ft_mn (ft_lb g c d) (g (ft_nb c d))
theorem ft_lb_n {g : Nat → Int32} {c d : Nat} (e : ft_nb c d = 64) : ft_lb g c (d + 1) = ft_lb g c d := if_pos e
theorem ft_lb_a {g : Nat → Int32} {c d : Nat} (e : ¬ ft_nb c d = 64) : ft_lb g c (d + 1) = ft_mn (ft_lb g c d) (g (ft_nb c d)) := if_neg e
def ft_mb (g : Nat → Int32) (c : Nat) : Nat → Int32
  | 0 => -1
  | d + 1 => if ft_nb c d = 64 then ft_mb g c d else ft_mx (ft_mb g c d) (g (ft_nb c d))
theorem ft_mb_n {g : Nat → Int32} {c d : Nat} (e : ft_nb c d = 64) : ft_mb g c (d + 1) = ft_mb g c d := if_pos e
theorem ft_mb_a {g : Nat → Int32} {c d : Nat} (e : ¬ ft_nb c d = 64) : ft_mb g c (d + 1) = ft_mx (ft_mb g c d) (g (ft_nb c d)) := if_neg e
def ft_xs (h : Nat → Int32) (c : Nat) (g : Nat → Int32) : Nat → Int32 := upd g c (ft_rv h g c 4)
def ft_ys (h : Nat → Int32) (c : Nat) (g : Nat → Int32) : Nat → Int32 := upd g c (ft_mn (g c) (ft_mx (h c) (ft_lb g c 4)))
def ft_ps (h : Nat → Int32) (c : Nat) (g : Nat → Int32) : Nat → Int32 := upd g c (ft_mx (g c) (ft_mn (h c) (ft_mb g c 4)))
def ft_sp (s t : Nat → Int32) : Prop := ∀ c, c < 64 → s c = t c ∧ (s c).toInt ≤ 100
theorem ft_sp_v {hx hy s t : Nat → Int32} {c : Nat} (hc : c < 64) (hh : hx c = hy c) (hst : ft_sp s t) : ∀ d, (ft_rv hx s c d).toInt = min (t c).toInt (max (hy c).toInt (ft_lb t c d).toInt) := by
  have h0 := hst c hc
  intro d
  induction d with
  | zero =>
    show (s c).toInt = min (t c).toInt (max (hy c).toInt (100 : Int32).toInt)
    rw [← h0.1, ft_100]
    have := h0.2
    omega
  | succ d ih =>
    by_cases e : ft_nb c d = 64
    · rw [ft_rv_n e, ft_lb_n e]; exact ih
    · have h1 := hst _ (ft_nb_lt hc e)
      rw [ft_rv_a e, ft_lb_a e, ft_mn_i, ft_mx_i, ft_mn_i, ih, h1.1, hh]
      omega
theorem ft_spread {hx hy s t : Nat → Int32} (hh : ∀ c, c < 64 → hx c = hy c) (hst : ft_sp s t) : ft_sp (ft_rd (ft_xs hx) s) (ft_rd (ft_ys hy) t) := by
  refine ft_rounds (I := ft_sp) (fun i s t hi hst c hc => ?_) hst
  by_cases hci : c = i
  · subst hci
    have z1 : ft_xs hx c s c = ft_rv hx s c 4 := pk_us
    have z2 : ft_ys hy c t c = ft_mn (t c) (ft_mx (hy c) (ft_lb t c 4)) := pk_us
    have h4 := ft_sp_v hc (hh c hc) hst 4
    have h0 := hst c hc
    rw [z1, z2]
    refine ⟨Int32.toInt_inj.mp ?_, ?_⟩
    · rw [h4, ft_mn_i, ft_mx_i]
    · rw [h4, ← h0.1]
      have := h0.2
      omega
  · have z1 : ft_xs hx i s c = s c := pk_un hci
    have z2 : ft_ys hy i t c = t c := pk_un hci
    rw [z1, z2]
    exact hst c hc
/-- upside down -/
def ft_ud (s t : Nat → Int32) : Prop := ∀ c, c < 64 → (s c).toInt = 99 - (t c).toInt ∧ -1 ≤ (t c).toInt ∧ (t c).toInt ≤ 99
theorem ft_ud_v {gr h s t : Nat → Int32} {c : Nat} (hc : c < 64) (hg : (gr c).toInt = 99 - (h c).toInt) (hst : ft_ud s t) : ∀ d, (ft_rv gr s c d).toInt = 99 - max (t c).toInt (min (h c).toInt (ft_mb t c d).toInt) := by
  have h0 := hst c hc
  intro d
  induction d with
  | zero =>
    show (s c).toInt = 99 - max (t c).toInt (min (h c).toInt (-1 : Int32).toInt)
    rw [ft_m1]
    omega
  | succ d ih =>
    by_cases e : ft_nb c d = 64
    · rw [ft_rv_n e, ft_mb_n e]; exact ih
    · have h1 := hst _ (ft_nb_lt hc e)
      rw [ft_rv_a e, ft_mb_a e, ft_mn_i, ft_mx_i, ft_mx_i, ih, h1.1, hg]
      omega
theorem ft_updown {gr h s t : Nat → Int32} (hh : ∀ c, c < 64 → (gr c).toInt = 99 - (h c).toInt ∧ (h c).toInt ≤ 99) (hst : ft_ud s t) : ft_ud (ft_rd (ft_xs gr) s) (ft_rd (ft_ps h) t) := by
  refine ft_rounds (I := ft_ud) (fun i s t hi hst c hc => ?_) hst
  by_cases hci : c = i
  · subst hci
    have z1 : ft_xs gr c s c = ft_rv gr s c 4 := pk_us
    have z2 : ft_ps h c t c = ft_mx (t c) (ft_mn (h c) (ft_mb t c 4)) := pk_us
    have h4 := ft_ud_v hc (hh c hc).1 hst 4
    have h0 := hst c hc
    have h5 := (hh c hc).2
    rw [z1, z2, h4, ft_mx_i, ft_mn_i]
    omega
  · have z1 : ft_xs gr i s c = s c := pk_un hci
    have z2 : ft_ps h i t c = t c := pk_un hci
    rw [z1, z2]
    exact hst c hc
/-- lakes: labels over two kinds against labels with 100 where it is dry -/
def ft_ly (c : Nat) (g : Nat → Int32) : Nat → Int32 := if g c < 100 then upd g c (ft_mn (g c) (ft_lb g c 4)) else g
def ft_lk (K s t : Nat → Int32) : Prop := ∀ c, c < 64 → (∃ m, m < 64 ∧ s c = nI m ∧ K m = K c) ∧ (K c = 1 → t c = s c) ∧ (¬ K c = 1 → t c = 100)
theorem ft_lk_v {K s t : Nat → Int32} {c : Nat} (hc : c < 64) (hk : K c = 1) (hst : ft_lk K s t) : ∀ d, (ft_av K s c d).toInt = min (t c).toInt (ft_lb t c d).toInt ∧ (ft_lb t c d).toInt ≤ 100 := by
  obtain ⟨⟨m, hm, em, _⟩, h1, _⟩ := hst c hc
  have e1 := h1 hk
  have e2 : (s c).toInt = (m : Int) := by rw [em]; exact ft_nI_i hm
  intro d
  induction d with
  | zero =>
    show (s c).toInt = min (t c).toInt (100 : Int32).toInt ∧ (100 : Int32).toInt ≤ 100
    rw [e1, ft_100, e2]
    omega
  | succ d ih =>
    by_cases e : ft_nb c d = 64
    · rw [ft_av_n e, ft_lb_n e]; exact ih
    · obtain ⟨⟨m2, hm2, em2, _⟩, h3, h4⟩ := hst _ (ft_nb_lt hc e)
      by_cases k : K (ft_nb c d) = K c
      · rw [ft_av_a e k, ft_lb_a e, ft_mn_i, ft_mn_i, ih.1, h3 (k.trans hk)]
        have := ih.2
        omega
      · have k2 : ¬ K (ft_nb c d) = 1 := fun z => k (z.trans hk.symm)
        rw [ft_av_o e k, ft_lb_a e, ft_mn_i, ih.1, h4 k2, ft_100]
        have := ih.2
        omega
theorem ft_lake {K s t : Nat → Int32} (hst : ft_lk K s t) : ft_lk K (ft_jn K s) (ft_rd ft_ly t) := by
  rw [ft_jn_rd]
  refine ft_rounds (I := ft_lk K) (fun i s t hi hst c hc => ?_) hst
  have hsrc : ∃ m, m < 64 ∧ ft_js K i s c = nI m ∧ K m = K c := by
    by_cases hci : c = i
    · subst hci
      have z1 : ft_js K c s c = ft_av K s c 4 := pk_us
      rw [z1]
      refine ft_av_src (Q := fun v => ∃ m, m < 64 ∧ v = nI m ∧ K m = K c) (hst c hc).1 (fun b e => ?_) 4 (Nat.le_refl 4)
      obtain ⟨m, hm, em, km⟩ := (hst b (ft_E_lt hc e)).1
      obtain ⟨d, _, _, _, kb⟩ := e
      exact ⟨m, hm, em, km.trans kb⟩
    · have z1 : ft_js K i s c = s c := pk_un hci
      rw [z1]
      exact (hst c hc).1
  refine ⟨hsrc, ?_⟩
  by_cases hci : c = i
  · subst hci
    obtain ⟨⟨m, hm, em, _⟩, h1, h2⟩ := hst c hc
    refine ⟨fun hk => ?_, fun hk => ?_⟩
    · have e1 := h1 hk
      have lt : t c < 100 := by
        rw [Int32.lt_iff_toInt_lt, e1, em, ft_nI_i hm, ft_100]
        omega
      have z1 : ft_js K c s c = ft_av K s c 4 := pk_us
      have z2 : ft_ly c t c = ft_mn (t c) (ft_lb t c 4) := (congrFun (if_pos lt) c).trans pk_us
      rw [z1, z2]
      apply Int32.toInt_inj.mp
      rw [(ft_lk_v hc hk hst 4).1, ft_mn_i]
    · have e1 := h2 hk
      have nlt : ¬ t c < 100 := by
        rw [Int32.lt_iff_toInt_lt, e1]
        omega
      have z2 : ft_ly c t c = t c := congrFun (if_neg nlt) c
      rw [z2]
      exact e1
  · have z1 : ft_js K i s c = s c := pk_un hci
    have z2 : ft_ly i t c = t c := by
      unfold ft_ly
      by_cases l : t i < 100
      · rw [if_pos l, pk_un hci]
      · rw [if_neg l]
    rw [z1, z2]
    exact (hst c hc).2
theorem ft_lake_count {K s t : Nat → Int32} (hst : ft_lk K s t) : ∀ c, c < 64 → ((K c = 1 ∧ s c = nI c) ↔ t c = nI c) := by
  intro c hc
  obtain ⟨_, h1, h2⟩ := hst c hc
  by_cases k : K c = 1
  · rw [h1 k]
    exact ⟨fun z => z.2, fun z => ⟨k, z⟩⟩
  · refine ⟨fun z => absurd z.1 k, fun z => ?_⟩
    have e := congrArg Int32.toInt ((h2 k).symm.trans z)
    rw [ft_100, ft_nI_i hc] at e
    omega
theorem ft_lake_dry {K s t : Nat → Int32} (hst : ft_lk K s t) {c : Nat} (hc : c < 64) : t c = 100 ↔ ¬ K c = 1 := by
  obtain ⟨⟨m, hm, em, _⟩, h1, h2⟩ := hst c hc
  refine ⟨fun z k => ?_, h2⟩
  have e := congrArg Int32.toInt (em.symm.trans ((h1 k).symm.trans z))
  rw [ft_100, ft_nI_i hm] at e
  omega
theorem ft_lake_size {K s t : Nat → Int32} (hst : ft_lk K s t) {a : Nat} (ha : a < 64) (ka : K a = 1) : ∀ c, c < 64 → (s c = s a ↔ t c = t a) := by
  intro c hc
  obtain ⟨⟨m, hm, em, km⟩, h1, h2⟩ := hst c hc
  obtain ⟨⟨m2, hm2, em2, km2⟩, h3, _⟩ := hst a ha
  by_cases k : K c = 1
  · rw [h1 k, h3 ka]
  · refine ⟨fun z => ?_, fun z => ?_⟩
    · rw [em, em2] at z
      have e := (nI_eq (by omega) (by omega)).mp z
      subst e
      exact absurd (km.symm.trans (km2.trans ka)) k
    · rw [h2 k, h3 ka, em2] at z
      have e := congrArg Int32.toInt z
      rw [ft_100, ft_nI_i hm2] at e
      omega
end
section
/-! the descent, the marks of what is overlooked, the shift -/
theorem ft_it_snoc {S : Type} (f : Nat → S → S) : ∀ d i s, ft_it f i (d + 1) s = f (i + d) (ft_it f i d s) := by
  intro d
  induction d with
  | zero => intro i s; rfl
  | succ d ih =>
    intro i s
    show ft_it f (i + 1) (d + 1) (f i s) = f (i + (d + 1)) (ft_it f (i + 1) d (f i s))
    rw [ih, show i + 1 + d = i + (d + 1) by omega]
theorem ft_iv_loop {S : Type} (W : Nat → Nat → S → Prop) (I : Nat → S → Prop) (e : Nat) (hx : ∀ n s, I e s → W (n + 1) e s) (hs : ∀ n i s, i < e → I i s → (∀ s', I (i + 1) s' → W n (i + 1) s') → W (n + 1) i s) : ∀ d i s, i + d = e → I i s → W (d + 1) i s := by
  intro d
  induction d with
  | zero => intro i s h hi; cases h; exact hx 0 s hi
  | succ d ih => intro i s h hi; exact hs (d + 1) i s (by omega) hi (fun s' hi' => ih (i + 1) s' (by omega) hi')
/-- the descent to higher cells: X from above, Y with the least height beside it -/
def ft_dx (h cr : Nat → Int32) (a : Nat) (o : Nat) (s : Int32) : Int32 := if h a < h o then ft_mn s (cr o) else s
def ft_lw (h : Nat → Int32) (o : Nat) (s : Int32) : Int32 := ft_mn s (h o)
def ft_dy (h m : Nat → Int32) (a : Nat) (o : Nat) (s : Int32 × Int32) : Int32 × Int32 := (if h a < h o then ft_mx s.1 (m o) else s.1, ft_mn s.2 (h o))
theorem ft_descent {h cr m : Nat → Int32} {a : Nat} (hst : ft_ud cr m) : (ft_it (ft_dx h cr a) 0 64 100).toInt = 99 - (ft_it (ft_dy h m a) 0 64 (-1, 99)).1.toInt ∧ -1 ≤ (ft_it (ft_dy h m a) 0 64 (-1, 99)).1.toInt ∧ (ft_it (ft_dy h m a) 0 64 (-1, 99)).1.toInt ≤ 99 := by
  refine ft_it_rel (ft_dx h cr a) (ft_dy h m a) (fun _ s t => s.toInt = 99 - t.1.toInt ∧ -1 ≤ t.1.toInt ∧ t.1.toInt ≤ 99) 64 (fun i s t hi hI => ?_) 64 0 100 (-1, 99) (by omega) (by show (100 : Int32).toInt = 99 - (-1 : Int32).toInt ∧ -1 ≤ (-1 : Int32).toInt ∧ (-1 : Int32).toInt ≤ 99; decide)
  have h1 := hst i hi
  unfold ft_dx ft_dy
  dsimp only
  by_cases z : h a < h i
  · rw [if_pos z, if_pos z, ft_mn_i, ft_mx_i]
    omega
  · rw [if_neg z, if_neg z]
    exact hI
theorem ft_low {h m : Nat → Int32} {a : Nat} : ft_it (ft_lw h) 0 64 99 = (ft_it (ft_dy h m a) 0 64 (-1, 99)).2 :=
  ft_it_rel (ft_lw h) (ft_dy h m a) (fun _ s t => s = t.2) 64 (fun i s t _ e => by
    cases e
    rfl) 64 0 99 (-1, 99) (by omega) rfl
theorem ft_99m {x : Int32} (h0 : 0 ≤ x.toInt) (h1 : x.toInt ≤ 99) : (99 - x).toInt = 99 - x.toInt := by
  rw [Int32.toInt_sub, ft_99]
  exact Int.bmod_eq_of_le (by omega) (by omega)
theorem ft_prom {dx gr ha b : Int32} (hd : dx.toInt = 99 - b.toInt) (hg : gr.toInt = 99 - ha.toInt) : dx - gr = ha - b := by
  apply Int32.toInt_inj.mp
  rw [Int32.toInt_sub, Int32.toInt_sub]
  congr 1
  omega
/-- something beside it is higher -/
def ft_hi (h : Nat → Int32) (c : Nat) : Prop := ∃ d, d < 4 ∧ ¬ ft_nb c d = 64 ∧ h c < h (ft_nb c d)
def ft_os (h G : Nat → Int32) (c d : Nat) (ov : Nat → Int32) : Nat → Int32 := if ft_nb c d = 64 then ov else if h c < h (ft_nb c d) then upd ov (G c).toNatClampNeg 1 else ov
def ft_oc (h G : Nat → Int32) (c : Nat) (ov : Nat → Int32) : Nat → Int32 := ft_it (ft_os h G c) 0 4 ov
def ft_ov (h G ov : Nat → Int32) : Nat → Int32 := ft_it (ft_oc h G) 0 64 ov
theorem ft_oc_is {h G ov : Nat → Int32} {c m : Nat} (hm : m < 64) (hG : G c = nI m) : ∀ j, j < 64 → (ft_oc h G c ov j = 0 ↔ (ov j = 0 ∧ ¬ (G c = nI j ∧ ft_hi h c))) := by
  have hcl : (G c).toNatClampNeg = m := by rw [hG]; exact nI_clamp (by omega)
  have hh := ft_it_inv (ft_os h G c) (fun i s => ∀ j, j < 64 → (s j = 0 ↔ (ov j = 0 ∧ ¬ (G c = nI j ∧ ∃ d, d < i ∧ ¬ ft_nb c d = 64 ∧ h c < h (ft_nb c d))))) 4 (by
    intro i s _ hI j hj
    have hIj := hI j hj
    unfold ft_os
    by_cases e : ft_nb c i = 64
    · rw [if_pos e, hIj]
      refine and_congr_right (fun _ => not_congr (and_congr_right (fun _ => ⟨fun ⟨d, hd, h1, h2⟩ => ⟨d, by omega, h1, h2⟩, fun ⟨d, hd, h1, h2⟩ => ⟨d, ?_, h1, h2⟩⟩)))
      have : d ≠ i := fun z => h1 (by rw [z]; exact e)
      omega
    · rw [if_neg e]
      by_cases l : h c < h (ft_nb c i)
      · rw [if_pos l, hcl]
        by_cases jm : j = m
        · subst jm
          rw [pk_us]
          refine ⟨fun z => absurd z (by decide), fun z => absurd ⟨hG, i, by omega, e, l⟩ z.2⟩
        · rw [pk_un jm, hIj]
          have ng : ¬ G c = nI j := by
            rw [hG]
            intro z
            exact jm ((nI_eq (by omega) (by omega)).mp z).symm
          exact and_congr_right (fun _ => ⟨fun _ z => ng z.1, fun _ z => ng z.1⟩)
      · rw [if_neg l, hIj]
        refine and_congr_right (fun _ => not_congr (and_congr_right (fun _ => ⟨fun ⟨d, hd, h1, h2⟩ => ⟨d, by omega, h1, h2⟩, fun ⟨d, hd, h1, h2⟩ => ⟨d, ?_, h1, h2⟩⟩)))
        have : d ≠ i := fun z => l (by rw [← z]; exact h2)
        omega) 4 0 ov (by omega) (fun j _ => ⟨fun z => ⟨z, fun ⟨_, d, hd, _⟩ => absurd hd (Nat.not_lt_zero d)⟩, fun z => z.1⟩)
  exact hh
theorem ft_ov_is {h G ov : Nat → Int32} (hG : ∀ c, c < 64 → ∃ m, m < 64 ∧ G c = nI m) (h0 : ∀ j, j < 64 → ov j = 0) : ∀ j, j < 64 → (ft_ov h G ov j = 0 ↔ ¬ ∃ c, c < 64 ∧ G c = nI j ∧ ft_hi h c) := by
  refine ft_it_inv (ft_oc h G) (fun i s => ∀ j, j < 64 → (s j = 0 ↔ ¬ ∃ c, c < i ∧ G c = nI j ∧ ft_hi h c)) 64 (fun i s hi hI j hj => ?_) 64 0 ov (by omega) (fun j hj => ⟨fun _ ⟨c, hc, _⟩ => absurd hc (Nat.not_lt_zero c), fun _ => h0 j hj⟩)
  obtain ⟨m, hm, em⟩ := hG i hi
  rw [ft_oc_is hm em j hj, hI j hj]
  constructor
  · intro ⟨h1, h2⟩ ⟨c, hc, h3⟩
    by_cases ci : c = i
    · subst ci; exact h2 h3
    · exact h1 ⟨c, by omega, h3⟩
  · intro h1
    exact ⟨fun ⟨c, hc, h3⟩ => h1 ⟨c, by omega, h3⟩, fun h3 => h1 ⟨i, by omega, h3⟩⟩
/-- an array of which the cells below i with p have been changed -/
noncomputable def ft_sh (p : Nat → Prop) (f : Int32 → Int32) (h : Nat → Int32) (i : Nat) : Nat → Int32 := fun j => @ite _ (j < i ∧ p j) (Classical.propDecidable _) (f (h j)) (h j)
theorem ft_sh_in {p : Nat → Prop} {f : Int32 → Int32} {h : Nat → Int32} {i j : Nat} (z : j < i ∧ p j) : ft_sh p f h i j = f (h j) := if_pos z
theorem ft_sh_out {p : Nat → Prop} {f : Int32 → Int32} {h : Nat → Int32} {i j : Nat} (z : ¬ (j < i ∧ p j)) : ft_sh p f h i j = h j := if_neg z
theorem ft_sh_at {p : Nat → Prop} {f : Int32 → Int32} {h : Nat → Int32} {i : Nat} : ft_sh p f h i i = h i := ft_sh_out (fun z => Nat.lt_irrefl i z.1)
theorem ft_sh_step {p : Nat → Prop} {f : Int32 → Int32} {h : Nat → Int32} {i : Nat} (z : p i) : upd (ft_sh p f h i) i (f (h i)) = ft_sh p f h (i + 1) := by
  funext j
  by_cases hj : j = i
  · subst hj; rw [pk_us, ft_sh_in ⟨by omega, z⟩]
  · rw [pk_un hj]
    by_cases q : j < i ∧ p j
    · rw [ft_sh_in q, ft_sh_in ⟨by omega, q.2⟩]
    · rw [ft_sh_out q, ft_sh_out (fun r => q ⟨by omega, r.2⟩)]
theorem ft_sh_skip {p : Nat → Prop} {f : Int32 → Int32} {h : Nat → Int32} {a b : Nat} (hab : a ≤ b) (z : ∀ j, a ≤ j → j < b → ¬ p j) : ft_sh p f h a = ft_sh p f h b := by
  funext j
  by_cases q : j < a ∧ p j
  · rw [ft_sh_in q, ft_sh_in ⟨by omega, q.2⟩]
  · rw [ft_sh_out q, ft_sh_out (fun r => by
      by_cases ja : j < a
      · exact q ⟨ja, r.2⟩
      · exact z j (by omega) r.1 r.2)]
theorem ft_sh_0 {p : Nat → Prop} {f : Int32 → Int32} {h : Nat → Int32} {a : Nat} (z : ∀ j, j < a → ¬ p j) : ft_sh p f h a = h := by
  funext j
  exact ft_sh_out (fun r => z j r.1 r.2)
theorem ft_cnt_s (p : Nat → Prop) (n : Nat) : ft_cnt p (n + 1) = ft_ct p n (ft_cnt p n) := by
  unfold ft_cnt
  rw [ft_it_snoc, Nat.zero_add]
theorem ft_cnt_skip {p : Nat → Prop} {a : Nat} : ∀ b, a ≤ b → (∀ j, a ≤ j → j < b → ¬ p j) → ft_cnt p a = ft_cnt p b := by
  intro b
  induction b with
  | zero => intro h _; rw [Nat.le_zero.mp h]
  | succ b ih =>
    intro h z
    by_cases e : a = b + 1
    · rw [e]
    · rw [ft_cnt_s, ft_ct_f (z b (by omega) (by omega))]
      exact ih (by omega) (fun j h1 h2 => z j h1 (by omega))
theorem ft_cnt_0 {p : Nat → Prop} {a : Nat} (z : ∀ j, j < a → ¬ p j) : ft_cnt p a = 0 := (ft_cnt_skip a (Nat.zero_le a) (fun j _ h => z j h)).symm
/-- a cell of a rectangle -/
def ft_in (t b l r j : Nat) : Prop := t ≤ j / 8 ∧ j / 8 ≤ b ∧ l ≤ j % 8 ∧ j % 8 ≤ r
/-- the heights of a terrain -/
def ft_ok (h : Nat → Int32) : Prop := ∀ i, 0 ≤ (h i).toInt ∧ (h i).toInt ≤ 99
theorem ft_ok_u {h : Nat → Int32} (z : ft_ok h) {i : Nat} {x : Int32} (h0 : 0 ≤ x.toInt) (h1 : x.toInt ≤ 99) : ft_ok (upd h i x) := by
  intro j
  by_cases e : j = i
  · subst e; rw [pk_us]; exact ⟨h0, h1⟩
  · rw [pk_un e]; exact z j
theorem ft_ok_sh {p : Nat → Prop} {f : Int32 → Int32} {h : Nat → Int32} (z : ft_ok h) (hf : ∀ x, 0 ≤ (f x).toInt ∧ (f x).toInt ≤ 99) (i : Nat) : ft_ok (ft_sh p f h i) := by
  intro j
  by_cases q : j < i ∧ p j
  · rw [ft_sh_in q]; exact hf _
  · rw [ft_sh_out q]; exact z j
end
section
/-! the small methods of both sides -/
theorem ft_n8 : ¬ (8 : Int32) = 0 := by decide
theorem ft_g64 : (64 : Int32) ≤ nI 64 := Int32.le_refl _
theorem ft_g4 : (4 : Int32) ≤ nI 4 := Int32.le_refl _
theorem ft_l64 {i : Nat} (h : i < 64) : ¬ (64 : Int32) ≤ nI i := nI_ge (b := 64) h (by decide)
theorem ft_l4 {i : Nat} (h : i < 4) : ¬ (4 : Int32) ≤ nI i := nI_ge (b := 4) h (by decide)
theorem ft_vin {i : Nat} (h : i < 64) : vp_in (nI i) 64 := vp_in_nI h (by decide)
theorem ft_c {i : Nat} (h : i < 64) : (nI i).toNatClampNeg = i := nI_clamp (by omega)
theorem ft_q8 {i : Nat} (h : i < 64) : nI i / 8 = nI (i / 8) := pk_div (d := 8) (by omega) (by decide) (by decide)
theorem ft_r8 {i : Nat} (h : i < 64) : nI i - nI i / 8 * 8 = nI (i % 8) := pk_rem (d := 8) (by omega) (by decide) (by decide)
theorem ft_nm1 {i : Nat} (h : i < 64) : ¬ nI i = -1 := by
  intro z
  have e := congrArg Int32.toInt z
  rw [ft_nI_i h, ft_m1] at e
  omega
theorem ft_upd_self (f : Nat → Int32) (k : Nat) : upd f k (f k) = f := by
  funext j
  by_cases h : j = k
  · subst h; exact pk_us
  · exact pk_un h
theorem ft_upd_upd (f : Nat → Int32) (k : Nat) (x y : Int32) : upd (upd f k x) k y = upd f k y := by
  funext j
  by_cases h : j = k
  · subst h; rw [pk_us, pk_us]
  · rw [pk_un h, pk_un h, pk_un h]
theorem ft_mn_n {a b : Nat} (ha : a < 64) (hb : b < 64) : ft_mn (nI a) (nI b) = nI (min a b) := by
  apply Int32.toInt_inj.mp
  rw [ft_mn_i, ft_nI_i ha, ft_nI_i hb, ft_nI_i (by omega)]
  omega
theorem ft_mx_n {a b : Nat} (ha : a < 64) (hb : b < 64) : ft_mx (nI a) (nI b) = nI (max a b) := by
  apply Int32.toInt_inj.mp
  rw [ft_mx_i, ft_nI_i ha, ft_nI_i hb, ft_nI_i (by omega)]
  omega
theorem xw_lesser {post : Int32 → Prop} {a b : Int32} (h : post (ft_mn a b)) : wpX_lesser post a b := by
  unfold ft_mn at h
  by_cases c : a < b
  · rw [if_pos c] at h; exact br_f (Int32.not_le.mpr c) h
  · rw [if_neg c] at h; exact br_t (Int32.not_lt.mp c) h
theorem xw_greater {post : Int32 → Prop} {a b : Int32} (h : post (ft_mx a b)) : wpX_greater post a b := by
  unfold ft_mx at h
  by_cases c : b < a
  · rw [if_pos c] at h; exact br_f (Int32.not_le.mpr c) h
  · rw [if_neg c] at h; exact br_t (Int32.not_lt.mp c) h
theorem yw_least {post : Int32 → Prop} {H M : Nat → Int32} {a b : Int32} (h : post (ft_mn a b)) : wpY_least post (H, M) a b := by
  unfold ft_mn at h
  by_cases c : a < b
  · rw [if_pos c] at h; exact br_f (Int32.not_le.mpr c) h
  · rw [if_neg c] at h; exact br_t (Int32.not_lt.mp c) h
theorem yw_most {post : Int32 → Prop} {H M : Nat → Int32} {a b : Int32} (h : post (ft_mx a b)) : wpY_most post (H, M) a b := by
  unfold ft_mx at h
  by_cases c : b < a
  · rw [if_pos c] at h; exact br_f (Int32.not_le.mpr c) h
  · rw [if_neg c] at h; exact br_t (Int32.not_lt.mp c) h
theorem xw_bad {post : Int32 → Prop} {p : Int32} (h : p < 0 ∨ nI 64 ≤ p) (z : post 0) : wpX_isCell post p := by
  rcases h with h | h
  · exact br_t h z
  · have h0 : ¬ p < 0 := by
      rw [Int32.lt_iff_toInt_lt, ft_0]
      rw [Int32.le_iff_toInt_le, nI_toInt (by omega)] at h
      omega
    exact br_f h0 (br_t h z)
theorem xw_ok {post : Int32 → Prop} {j : Nat} (h : j < 64) (z : post 1) : wpX_isCell post (nI j) :=
  br_f (nI_pos (by omega)) (br_f (ft_l64 h) z)
theorem yw_bad {post : Int32 → Prop} {H M : Nat → Int32} {p : Int32} (h : p < 0 ∨ nI 64 ≤ p) (z : post 1) : wpY_bad post (H, M) p := by
  rcases h with h | h
  · exact br_t h z
  · rw [Int32.le_iff_toInt_le, nI_toInt (by omega)] at h
    have h0 : ¬ p < 0 := by
      rw [Int32.lt_iff_toInt_lt, ft_0]
      omega
    have h1 : ¬ p ≤ 63 := by
      rw [Int32.le_iff_toInt_le, show (63 : Int32).toInt = 63 from by decide]
      omega
    exact br_f h0 (br_f h1 z)
theorem yw_ok {post : Int32 → Prop} {H M : Nat → Int32} {j : Nat} (h : j < 64) (z : post 0) : wpY_bad post (H, M) (nI j) :=
  br_f (nI_pos (by omega)) (br_t (nI_le (b := 63) (by omega) (by decide)) z)
/-- a cell, or not -/
theorem ft_cell (x : Int32) : (x < 0 ∨ nI 64 ≤ x) ∨ ∃ j : Nat, j < 64 ∧ x = nI j := by
  rcases pk_ix x (n := 64) (by decide) with h | h | h
  · exact Or.inl (Or.inl h)
  · exact Or.inl (Or.inr h)
  · exact Or.inr h
theorem ft_nb0 (c : Nat) : ft_nb c 0 = if c < 8 then 64 else c - 8 := rfl
theorem ft_nb1 (c : Nat) : ft_nb c 1 = if 55 < c then 64 else c + 8 := rfl
theorem ft_nb2 (c : Nat) : ft_nb c 2 = if c % 8 = 0 then 64 else c - 1 := rfl
theorem ft_nb3 (c : Nat) : ft_nb c 3 = if c % 8 = 7 then 64 else c + 1 := rfl
theorem ft_d4 {d : Nat} (h : d < 4) : d = 0 ∨ d = 1 ∨ d = 2 ∨ d = 3 := by omega
theorem ft_s8 {c : Nat} (h : 8 ≤ c) : nI c - 8 = nI (c - 8) := pk_sub (b := 8) h
theorem ft_s1 {c : Nat} (h : 1 ≤ c) : nI c - 1 = nI (c - 1) := pk_sub (b := 1) h
theorem ft_a8 {c : Nat} : nI c + 8 = nI (c + 8) := nI_add c 8
theorem xw_nbr {post : Int32 → Prop} {c d : Nat} (hc : c < 64) (hd : d < 4) (hn : ft_nb c d = 64 → post (-1)) (hs : ¬ ft_nb c d = 64 → post (nI (ft_nb c d))) : wpX_neighbour post (nI c) (nI d) := by
  refine ⟨ft_n8, nm_r (ft_q8 hc) ⟨ft_n8, nm_r (ft_r8 hc) (br_f (nI_pos (by omega)) ?_)⟩⟩
  rcases ft_d4 hd with rfl | rfl | rfl | rfl
  · refine br_f (nI_nlt (a := 2) (b := 0) (by omega) (by decide)) (br_t rfl (pk_le (c / 8) 0 (fun h => ?_) (fun h => ?_)))
    · exact hn (by rw [ft_nb0, if_pos (by omega)])
    · have e : ft_nb c 0 = c - 8 := by rw [ft_nb0, if_neg (by omega)]
      rw [e] at hs
      rw [ft_s8 (by omega)]
      exact hs (by omega)
  · refine br_f (nI_nlt (a := 2) (b := 1) (by omega) (by decide)) (br_f (by decide) (br_t rfl (pk_le 7 (c / 8) (fun h => ?_) (fun h => ?_))))
    · exact hn (by rw [ft_nb1, if_pos (by omega)])
    · have e : ft_nb c 1 = c + 8 := by rw [ft_nb1, if_neg (by omega)]
      rw [e] at hs
      rw [ft_a8]
      exact hs (by omega)
  · refine br_f (nI_nlt (a := 2) (b := 2) (by omega) (by decide)) (br_f (by decide) (br_f (by decide) (br_t rfl (pk_le (c % 8) 0 (fun h => ?_) (fun h => ?_)))))
    · exact hn (by rw [ft_nb2, if_pos (by omega)])
    · have e : ft_nb c 2 = c - 1 := by rw [ft_nb2, if_neg (by omega)]
      rw [e] at hs
      rw [ft_s1 (by omega)]
      exact hs (by omega)
  · refine br_t (nI_lt (a := 2) (b := 3) (by omega) (by decide)) (pk_le 7 (c % 8) (fun h => ?_) (fun h => ?_))
    · exact hn (by rw [ft_nb3, if_pos (by omega)])
    · have e : ft_nb c 3 = c + 1 := by rw [ft_nb3, if_neg (by omega)]
      rw [e] at hs
      rw [nI_1]
      exact hs (by omega)
theorem yw_nbr {post : Int32 → Prop} {H M : Nat → Int32} {c d : Nat} (hc : c < 64) (hd : d < 4) (hn : ft_nb c d = 64 → post (-1)) (hs : ¬ ft_nb c d = 64 → post (nI (ft_nb c d))) : wpY_beside post (H, M) (nI c) (nI d) := by
  rcases ft_d4 hd with rfl | rfl | rfl | rfl
  · refine br_t rfl (pk_le 8 c (fun h => ?_) (fun h => ?_))
    · have e : ft_nb c 0 = c - 8 := by rw [ft_nb0, if_neg (by omega)]
      rw [e] at hs
      rw [ft_s8 (by omega)]
      exact hs (by omega)
    · exact hn (by rw [ft_nb0, if_pos (by omega)])
  · refine br_f (by decide) (br_t rfl (pk_le c 55 (fun h => ?_) (fun h => ?_)))
    · have e : ft_nb c 1 = c + 8 := by rw [ft_nb1, if_neg (by omega)]
      rw [e] at hs
      rw [ft_a8]
      exact hs (by omega)
    · exact hn (by rw [ft_nb1, if_pos (by omega)])
  · refine br_f (by decide) (br_f (by decide) (br_t rfl ⟨ft_n8, pk_eq (c % 8) 0 (fun h => ?_) (fun h => ?_) (ft_r8 hc)⟩))
    · exact hn (by rw [ft_nb2, if_pos (by omega)])
    · have e : ft_nb c 2 = c - 1 := by rw [ft_nb2, if_neg (by omega)]
      rw [e] at hs
      rw [ft_s1 (by omega)]
      exact hs (by omega)
  · refine br_f (by decide) (br_f (by decide) (br_f (by decide) ⟨ft_n8, pk_eq (c % 8) 7 (fun h => ?_) (fun h => ?_) (ft_r8 hc)⟩))
    · exact hn (by rw [ft_nb3, if_pos (by omega)])
    · have e : ft_nb c 3 = c + 1 := by rw [ft_nb3, if_neg (by omega)]
      rw [e] at hs
      rw [nI_1]
      exact hs (by omega)
/-- the border -/
def ft_bd (c : Nat) : Prop := c < 8 ∨ 55 < c ∨ c % 8 = 0 ∨ c % 8 = 7
theorem xw_bd {post : Int32 → Prop} {c : Nat} (hc : c < 64) (h1 : ft_bd c → post 1) (h0 : ¬ ft_bd c → post 0) : wpX_isBorder post (nI c) := by
  unfold ft_bd at h1 h0
  refine ⟨ft_n8, nm_r (ft_q8 hc) ⟨ft_n8, nm_r (ft_r8 hc) (pk_eq (c / 8) 0 (fun e => h1 (by omega)) (fun n1 => pk_eq (c / 8) 7 (fun e => h1 (by omega)) (fun n2 => pk_eq (c % 8) 0 (fun e => h1 (by omega)) (fun n3 => pk_eq (c % 8) 7 (fun e => h1 (by omega)) (fun n4 => h0 (by omega))))))⟩⟩
theorem yw_bd {post : Int32 → Prop} {H M : Nat → Int32} {c : Nat} (hc : c < 64) (h1 : ft_bd c → post 1) (h0 : ¬ ft_bd c → post 0) : wpY_border post (H, M) (nI c) := by
  unfold ft_bd at h1 h0
  exact pk_lt c 8 (fun e => h1 (by omega)) (fun n1 => pk_lt 55 c (fun e => h1 (by omega)) (fun n2 => ⟨ft_n8, pk_eq (c % 8) 0 (fun e => h1 (by omega)) (fun n3 => ⟨ft_n8, pk_eq (c % 8) 7 (fun e => h1 (by omega)) (fun n4 => h0 (by omega)) (ft_r8 hc)⟩) (ft_r8 hc)⟩))
end
section
/-! X's private methods -/
theorem xw_sp18 {post : SX → Prop} {J2 J10 : Int32 → (Nat → Int32) → (Nat → Int32) → (Nat → Int32) → (Nat → Int32) → (Nat → Int32) → (Nat → Int32) → Prop} {x1 : Int32} {H G C K R O : Nat → Int32} {c : Nat} (hc : c < 64) (h : J10 (nI (c + 1)) H G (ft_xs G c C) K R O) : wX_spreadCrests_18 post J2 J10 x1 (nI c) 5 0 H G C K R O := by
  refine ft_iv_loop (fun n i (s : Nat → Int32) => wX_spreadCrests_18 post J2 J10 x1 (nI c) n (nI i) H G s K R O) (fun i s => s = upd C c (ft_rv G C c i)) 4 ?_ ?_ 4 0 C (by omega) (ft_upd_self C c).symm
  · intro n s e
    subst e
    exact br_t ft_g4 (nm_r (nI_1 c) h)
  · intro n i s hi e k
    subst e
    refine br_f (ft_l4 hi) (xw_nbr hc hi (fun e => ?_) (fun e => ?_))
    · exact br_t rfl (nm_r (nI_1 i) (k _ (by rw [ft_rv_n e])))
    · have hb := ft_nb_lt hc e
      refine br_f (ft_nm1 hb) ⟨ft_vin hb, ft_vin hc, xw_greater ⟨ft_vin hc, xw_lesser ⟨ft_vin hc, nm_r ?_ (nm_r (nI_1 i) (k _ rfl))⟩⟩⟩
      rw [ft_c hb, ft_c hc, pk_us, pk_un (ft_nb_ne hc), ft_upd_upd, ft_rv_a e]
theorem xw_sp10 {post : SX → Prop} {J2 : Int32 → (Nat → Int32) → (Nat → Int32) → (Nat → Int32) → (Nat → Int32) → (Nat → Int32) → (Nat → Int32) → Prop} {H G C K R O : Nat → Int32} {k : Nat} (h : J2 (nI (k + 1)) H G (ft_it (ft_xs G) 0 64 C) K R O) : wX_spreadCrests_10 post J2 (nI k) 65 0 H G C K R O :=
  ft_it_loop (fun n i (s : Nat → Int32) => wX_spreadCrests_10 post J2 (nI k) n (nI i) H G s K R O) (ft_xs G) 64 (fun s => J2 (nI (k + 1)) H G s K R O)
    (fun n s hp => br_t ft_g64 (nm_r (nI_1 k) hp))
    (fun n i s hi hw => br_f (ft_l64 hi) ⟨5, xw_sp18 hi hw⟩) 64 0 C (by omega) h
theorem xw_spread {post : SX → Prop} {H G C K R O : Nat → Int32} (h : post (H, G, ft_rd (ft_xs G) C, K, R, O)) : wpX_spreadCrests post (H, G, C, K, R, O) :=
  ⟨65, ft_it_loop (fun n i (s : Nat → Int32) => wX_spreadCrests_2 post n (nI i) H G s K R O) (fun _ s => ft_it (ft_xs G) 0 64 s) 64 (fun s => post (H, G, s, K, R, O))
    (fun n s hp => br_t ft_g64 hp)
    (fun n i s hi hw => br_f (ft_l64 hi) ⟨65, xw_sp10 hw⟩) 64 0 C (by omega) h⟩
theorem xw_useHeights {post : SX → Prop} {H G C K R O : Nat → Int32} (h : ∀ G', (∀ c, c < 64 → G' c = H c) → post (H, G', C, K, R, O)) : wpX_useHeights post (H, G, C, K, R, O) :=
  ⟨65, ft_it_loop (fun n i (s : Nat → Int32) => wX_useHeights_2 post n (nI i) H s C K R O) (fun c s => upd s c ((fun c (_ : Int32) => H c) c (s c))) 64 (fun s => post (H, s, C, K, R, O))
    (fun n s hp => br_t ft_g64 hp)
    (fun n i s hi hw => br_f (ft_l64 hi) ⟨ft_vin hi, ft_vin hi, nm_r (by rw [ft_c hi]) (nm_r (nI_1 i) hw)⟩) 64 0 G (by omega)
    (h _ (ft_fill (fun c _ => H c) 64 G))⟩
theorem xw_upside {post : SX → Prop} {H G C K R O : Nat → Int32} (h : ∀ G', (∀ c, c < 64 → G' c = 99 - H c) → post (H, G', C, K, R, O)) : wpX_useHeightsUpsideDown post (H, G, C, K, R, O) :=
  ⟨65, ft_it_loop (fun n i (s : Nat → Int32) => wX_useHeightsUpsideDown_2 post n (nI i) H s C K R O) (fun c s => upd s c ((fun c (_ : Int32) => 99 - H c) c (s c))) 64 (fun s => post (H, s, C, K, R, O))
    (fun n s hp => br_t ft_g64 hp)
    (fun n i s hi hw => br_f (ft_l64 hi) ⟨ft_vin hi, ft_vin hi, nm_r (by rw [ft_c hi]) (nm_r (nI_1 i) hw)⟩) 64 0 G (by omega)
    (h _ (ft_fill (fun c _ => 99 - H c) 64 G))⟩
/-- the start of the levels -/
noncomputable def ft_L0 (H : Nat → Int32) (c : Nat) : Int32 := @ite _ (ft_bd c) (Classical.propDecidable _) (H c) 100
theorem ft_L0_t {H : Nat → Int32} {c : Nat} (h : ft_bd c) : ft_L0 H c = H c := if_pos h
theorem ft_L0_f {H : Nat → Int32} {c : Nat} (h : ¬ ft_bd c) : ft_L0 H c = 100 := if_neg h
def ft_W (H s : Nat → Int32) : Nat → Int32 := ft_rd (ft_ys H) s
def ft_a0 (H : Nat → Int32) (a c : Nat) : Int32 := if c = a then H c else 100
theorem ft_wx {G H s s0 : Nat → Int32} (hG : ∀ c, c < 64 → G c = H c) (hs : ∀ c, c < 64 → s c = s0 c) (h0 : ∀ c, c < 64 → (s0 c).toInt ≤ 100) : ∀ c, c < 64 → ft_rd (ft_xs G) s c = ft_W H s0 c :=
  fun c hc => (ft_spread hG (s := s) (t := s0) (fun c hc => ⟨hs c hc, by rw [hs c hc]; exact h0 c hc⟩) c hc).1
theorem ft_wy {H s s0 : Nat → Int32} (hs : ∀ c, c < 64 → s c = s0 c) (h0 : ∀ c, c < 64 → (s0 c).toInt ≤ 100) : ∀ c, c < 64 → ft_rd (ft_ys H) s c = ft_W H s0 c := by
  intro c hc
  have e1 := (ft_spread (hx := H) (hy := H) (fun _ _ => rfl) (s := s0) (t := s) (fun c hc => ⟨(hs c hc).symm, h0 c hc⟩) c hc).1
  have e2 := (ft_spread (hx := H) (hy := H) (fun _ _ => rfl) (s := s0) (t := s0) (fun c hc => ⟨rfl, h0 c hc⟩) c hc).1
  exact e1.symm.trans e2
theorem ft_L0_le {H : Nat → Int32} (hH : ft_ok H) : ∀ c, c < 64 → (ft_L0 H c).toInt ≤ 100 := by
  intro c _
  by_cases b : ft_bd c
  · rw [ft_L0_t b]; have := (hH c).2; omega
  · rw [ft_L0_f b, ft_100]; omega
theorem ft_a0_le {H : Nat → Int32} (hH : ft_ok H) (a : Nat) : ∀ c, c < 64 → (ft_a0 H a c).toInt ≤ 100 := by
  intro c _
  unfold ft_a0
  by_cases b : c = a
  · rw [if_pos b]; have := (hH c).2; omega
  · rw [if_neg b, ft_100]; omega
theorem xw_levels {post : SX → Prop} {H G C K R O : Nat → Int32} (hH : ft_ok H) (h : ∀ G' C', (∀ c, c < 64 → C' c = ft_W H (ft_L0 H) c) → post (H, G', C', K, R, O)) : wpX_findLevels post (H, G, C, K, R, O) := by
  unfold wpX_findLevels
  dsimp only
  refine xw_useHeights (fun G' hG => ?_)
  refine ⟨65, ft_it_loop (fun n i (s : Nat → Int32) => wX_findLevels_6 post n (nI i) H G' s K R O) (fun c s => upd s c ((fun c (_ : Int32) => ft_L0 H c) c (s c))) 64 (fun s => ∀ c, c < 64 → s c = ft_L0 H c) ?_ ?_ 64 0 C (by omega) (ft_fill (fun c _ => ft_L0 H c) 64 C)⟩
  · intro n s hp
    exact br_t ft_g64 (xw_spread (h G' _ (ft_wx hG hp (ft_L0_le hH))))
  · intro n i s hi hw
    refine br_f (ft_l64 hi) (xw_bd hi (fun b => ?_) (fun b => ?_))
    · exact br_f (by decide) ⟨ft_vin hi, ft_vin hi, nm_r (by rw [ft_c hi, hG i hi]; show _ = upd s i (ft_L0 H i); rw [ft_L0_t b]) (nm_r (nI_1 i) hw)⟩
    · exact br_t rfl ⟨ft_vin hi, nm_r (by rw [ft_c hi]; show _ = upd s i (ft_L0 H i); rw [ft_L0_f b]) (nm_r (nI_1 i) hw)⟩
theorem xw_from {post : SX → Prop} {H G C K R O : Nat → Int32} {a : Nat} (ha : a < 64) (h : ∀ C0, (∀ c, c < 64 → C0 c = ft_a0 G a c) → post (H, G, ft_rd (ft_xs G) C0, K, R, O)) : wpX_findCrestsFrom post (H, G, C, K, R, O) (nI a) := by
  refine ⟨65, ft_it_loop (fun n i (s : Nat → Int32) => wX_findCrestsFrom_2 post (nI a) n (nI i) H G s K R O) (fun c s => upd s c ((fun _ (_ : Int32) => 100) c (s c))) 64 (fun s => ∀ c, c < 64 → s c = 100) ?_ ?_ 64 0 C (by omega) (ft_fill (fun _ _ => 100) 64 C)⟩
  · intro n s hp
    refine br_t ft_g64 ⟨ft_vin ha, ft_vin ha, nm_r (by rw [ft_c ha]) (xw_spread (h (upd s a (G a)) (fun c hc => ?_)))⟩
    unfold ft_a0
    by_cases e : c = a
    · rw [if_pos e, e, pk_us]
    · rw [if_neg e, pk_un e, hp c hc]
  · intro n i s hi hw
    exact br_f (ft_l64 hi) ⟨ft_vin hi, nm_r (by rw [ft_c hi]) (nm_r (nI_1 i) hw)⟩
theorem xw_jn39 {post : SX → Prop} {J23 J31 : Int32 → (Nat → Int32) → (Nat → Int32) → (Nat → Int32) → (Nat → Int32) → (Nat → Int32) → (Nat → Int32) → Prop} {x1 : Int32} {H G C K R O : Nat → Int32} {c : Nat} (hc : c < 64) (h : J31 (nI (c + 1)) H G C K (ft_js K c R) O) : wX_joinKinds_39 post J23 J31 x1 (nI c) 5 0 H G C K R O := by
  refine ft_iv_loop (fun n i (s : Nat → Int32) => wX_joinKinds_39 post J23 J31 x1 (nI c) n (nI i) H G C K s O) (fun i s => s = upd R c (ft_av K R c i)) 4 ?_ ?_ 4 0 R (by omega) (ft_upd_self R c).symm
  · intro n s e
    subst e
    exact br_t ft_g4 (nm_r (nI_1 c) h)
  · intro n i s hi e k
    subst e
    refine br_f (ft_l4 hi) (xw_nbr hc hi (fun e => ?_) (fun e => ?_))
    · exact br_t rfl (nm_r (nI_1 i) (k _ (by rw [ft_av_n e])))
    · have hb := ft_nb_lt hc e
      by_cases q : K (ft_nb c i) = K c
      · refine br_f (ft_nm1 hb) ⟨ft_vin hb, ft_vin hc, br_t (by rw [ft_c hb, ft_c hc]; exact q) ⟨ft_vin hc, ft_vin hb, xw_lesser ⟨ft_vin hc, nm_r ?_ (nm_r (nI_1 i) (k _ rfl))⟩⟩⟩
        rw [ft_c hb, ft_c hc, pk_us, pk_un (ft_nb_ne hc), ft_upd_upd, ft_av_a e q]
      · exact br_f (ft_nm1 hb) ⟨ft_vin hb, ft_vin hc, br_f (by rw [ft_c hb, ft_c hc]; exact q) (nm_r (nI_1 i) (k _ (by rw [ft_av_o e q])))⟩
theorem xw_jn31 {post : SX → Prop} {J23 : Int32 → (Nat → Int32) → (Nat → Int32) → (Nat → Int32) → (Nat → Int32) → (Nat → Int32) → (Nat → Int32) → Prop} {H G C K R O : Nat → Int32} {k : Nat} (h : J23 (nI (k + 1)) H G C K (ft_sw K R) O) : wX_joinKinds_31 post J23 (nI k) 65 0 H G C K R O :=
  ft_it_loop (fun n i (s : Nat → Int32) => wX_joinKinds_31 post J23 (nI k) n (nI i) H G C K s O) (ft_js K) 64 (fun s => J23 (nI (k + 1)) H G C K s O)
    (fun n s hp => br_t ft_g64 (nm_r (nI_1 k) hp))
    (fun n i s hi hw => br_f (ft_l64 hi) ⟨5, xw_jn39 hi hw⟩) 64 0 R (by omega) h
theorem xw_jn23 {post : SX → Prop} {H G C K R O : Nat → Int32} (h : post (H, G, C, K, ft_jn K R, O)) : wX_joinKinds_23 post 65 0 H G C K R O :=
  ft_it_loop (fun n i (s : Nat → Int32) => wX_joinKinds_23 post n (nI i) H G C K s O) (fun _ s => ft_sw K s) 64 (fun s => post (H, G, C, K, s, O))
    (fun n s hp => br_t ft_g64 hp)
    (fun n i s hi hw => br_f (ft_l64 hi) ⟨65, xw_jn31 hw⟩) 64 0 R (by omega) h
theorem xw_join {post : SX → Prop} {H G C K R O : Nat → Int32} (h : ∀ R0, (∀ c, c < 64 → R0 c = nI c) → post (H, G, C, K, ft_jn K R0, O)) : wpX_joinKinds post (H, G, C, K, R, O) :=
  ⟨65, ft_it_loop (fun n i (s : Nat → Int32) => wX_joinKinds_2 post n (nI i) H G C K s O) (fun c s => upd s c ((fun c (_ : Int32) => nI c) c (s c))) 64 (fun s => ∀ c, c < 64 → s c = nI c)
    (fun n s hp => br_t ft_g64 ⟨65, xw_jn23 (h s hp)⟩)
    (fun n i s hi hw => br_f (ft_l64 hi) ⟨ft_vin hi, nm_r (by rw [ft_c hi]) (nm_r (nI_1 i) hw)⟩) 64 0 R (by omega)
    (ft_fill (fun c _ => nI c) 64 R)⟩
theorem xw_lakes {post : SX → Prop} {H G C K R O : Nat → Int32} (hH : ft_ok H) (h : ∀ G' C' K' R0, (∀ c, c < 64 → K' c = if ft_W H (ft_L0 H) c ≤ H c then 0 else 1) → (∀ c, c < 64 → R0 c = nI c) → post (H, G', C', K', ft_jn K' R0, O)) : wpX_findLakes post (H, G, C, K, R, O) := by
  unfold wpX_findLakes
  dsimp only
  refine xw_levels hH (fun G' C' hC => ?_)
  refine ⟨65, ft_it_loop (fun n i (s : Nat → Int32) => wX_findLakes_6 post n (nI i) H G' C' s R O) (fun c s => upd s c ((fun c (_ : Int32) => if C' c ≤ H c then (0 : Int32) else 1) c (s c))) 64 (fun s => ∀ c, c < 64 → s c = if C' c ≤ H c then (0 : Int32) else 1) ?_ ?_ 64 0 K (by omega) (ft_fill (fun c _ => if C' c ≤ H c then (0 : Int32) else 1) 64 K)⟩
  · intro n s hp
    exact br_t ft_g64 (xw_join (fun R0 hR => h G' C' s R0 (fun c hc => by rw [hp c hc, hC c hc]) hR))
  · intro n i s hi hw
    refine br_f (ft_l64 hi) ⟨ft_vin hi, ft_vin hi, ?_⟩
    rw [ft_c hi]
    by_cases z : C' i ≤ H i
    · refine br_t z ⟨ft_vin hi, nm_r ?_ (nm_r (nI_1 i) hw)⟩
      dsimp only
      rw [if_pos z]
    · refine br_f z ⟨ft_vin hi, nm_r ?_ (nm_r (nI_1 i) hw)⟩
      dsimp only
      rw [if_neg z]
end
section
/-! X: what is overlooked, and the counting loops -/
theorem ft_b1 : vp_nar .boolean 1 = 1 := by decide
theorem ft_b0 : vp_nar .boolean 0 = 0 := by decide
theorem xw_ov31 {post : SX → Prop} {J23 : Int32 → (Nat → Int32) → (Nat → Int32) → (Nat → Int32) → (Nat → Int32) → (Nat → Int32) → (Nat → Int32) → Prop} {H G C K R O : Nat → Int32} {c m : Nat} (hc : c < 64) (hm : m < 64) (hR : R c = nI m) (h : J23 (nI (c + 1)) H G C K R (ft_oc H R c O)) : wX_findOverlookedGroups_31 post J23 (nI c) 5 0 H G C K R O := by
  refine ft_it_loop (fun n i (s : Nat → Int32) => wX_findOverlookedGroups_31 post J23 (nI c) n (nI i) H G C K R s) (ft_os H R c) 4 (fun s => J23 (nI (c + 1)) H G C K R s) ?_ ?_ 4 0 O (by omega) h
  · intro n s hp
    exact br_t ft_g4 (nm_r (nI_1 c) hp)
  · intro n i s hi hw
    refine br_f (ft_l4 hi) (xw_nbr hc hi (fun e => ?_) (fun e => ?_))
    · have z : ft_os H R c i s = s := if_pos e
      rw [z] at hw
      exact br_t rfl (nm_r (nI_1 i) hw)
    · have hb := ft_nb_lt hc e
      by_cases l : H c < H (ft_nb c i)
      · have z : ft_os H R c i s = upd s (R c).toNatClampNeg 1 := (if_neg e).trans (if_pos l)
        rw [z] at hw
        refine br_f (ft_nm1 hb) ⟨ft_vin hb, ft_vin hc, br_f (by rw [ft_c hb, ft_c hc]; exact Int32.not_le.mpr l) ⟨ft_vin hc, by rw [ft_c hc, hR]; exact ft_vin hm, nm_r (by rw [ft_c hc, ft_b1]) (nm_r (nI_1 i) hw)⟩⟩
      · have z : ft_os H R c i s = s := (if_neg e).trans (if_neg l)
        rw [z] at hw
        exact br_f (ft_nm1 hb) ⟨ft_vin hb, ft_vin hc, br_t (by rw [ft_c hb, ft_c hc]; exact Int32.not_lt.mp l) (nm_r (nI_1 i) hw)⟩
theorem xw_ov23 {post : SX → Prop} {H G C K R O : Nat → Int32} (hR : ∀ c, c < 64 → ∃ m, m < 64 ∧ R c = nI m) (h : post (H, G, C, K, R, ft_ov H R O)) : wX_findOverlookedGroups_23 post 65 0 H G C K R O :=
  ft_it_loop (fun n i (s : Nat → Int32) => wX_findOverlookedGroups_23 post n (nI i) H G C K R s) (ft_oc H R) 64 (fun s => post (H, G, C, K, R, s))
    (fun n s hp => br_t ft_g64 hp)
    (fun n i s hi hw => br_f (ft_l64 hi) ⟨5, (hR i hi).elim (fun _ hm => xw_ov31 hi hm.1 hm.2 hw)⟩) 64 0 O (by omega) h
theorem xw_over {post : SX → Prop} {H G C K R O : Nat → Int32} (hR : ∀ c, c < 64 → ∃ m, m < 64 ∧ R c = nI m) (h : ∀ O0, (∀ c, c < 64 → O0 c = 0) → post (H, G, C, K, R, ft_ov H R O0)) : wpX_findOverlookedGroups post (H, G, C, K, R, O) :=
  ⟨65, ft_it_loop (fun n i (s : Nat → Int32) => wX_findOverlookedGroups_2 post n (nI i) H G C K R s) (fun c s => upd s c ((fun _ (_ : Int32) => 0) c (s c))) 64 (fun s => ∀ c, c < 64 → s c = 0)
    (fun n s hp => br_t ft_g64 ⟨65, xw_ov23 hR (h s hp)⟩)
    (fun n i s hi hw => br_f (ft_l64 hi) ⟨ft_vin hi, nm_r (by rw [ft_c hi, ft_b0]) (nm_r (nI_1 i) hw)⟩) 64 0 O (by omega)
    (ft_fill (fun _ _ => 0) 64 O)⟩
theorem xw_lakes8 {post : Int32 → SX → Prop} {H G C K R O : Nat → Int32} (h : post (ft_cnt (fun c => K c = 1 ∧ R c = nI c) 64) (H, G, C, K, R, O)) : wX_lakes_8 post H G C K R O 65 0 0 := by
  refine ft_it_loop (fun n i (s : Int32) => wX_lakes_8 post H G C K R O n s (nI i)) (ft_ct (fun c => K c = 1 ∧ R c = nI c)) 64 (fun s => post s (H, G, C, K, R, O)) (fun n s hp => br_t ft_g64 hp) ?_ 64 0 0 (by omega) h
  intro n i s hi hw
  refine br_f (ft_l64 hi) ⟨ft_vin hi, ?_⟩
  rw [ft_c hi]
  by_cases a : K i = 1
  · refine br_t a ⟨ft_vin hi, ?_⟩
    by_cases b : R i = nI i
    · rw [ft_ct_t ⟨a, b⟩] at hw
      exact br_t b (nm_e (nm_r (nI_1 i) hw))
    · rw [ft_ct_f (fun z => b z.2)] at hw
      exact br_f b (nm_r (nI_1 i) hw)
  · rw [ft_ct_f (fun z => a z.1)] at hw
    exact br_f a (nm_r (nI_1 i) hw)
theorem xw_size28 {post : Int32 → SX → Prop} {H G C K R O : Nat → Int32} {a : Nat} (ha : a < 64) (h : post (ft_cnt (fun c => R c = R a) 64) (H, G, C, K, R, O)) : wX_lakeSize_28 post (nI a) H G C K R O 65 0 0 := by
  refine ft_it_loop (fun n i (s : Int32) => wX_lakeSize_28 post (nI a) H G C K R O n s (nI i)) (ft_ct (fun c => R c = R a)) 64 (fun s => post s (H, G, C, K, R, O)) (fun n s hp => br_t ft_g64 hp) ?_ 64 0 0 (by omega) h
  intro n i s hi hw
  refine br_f (ft_l64 hi) ⟨ft_vin hi, ft_vin ha, ?_⟩
  rw [ft_c hi, ft_c ha]
  by_cases b : R i = R a
  · rw [ft_ct_t b] at hw
    exact br_t b (nm_e (nm_r (nI_1 i) hw))
  · rw [ft_ct_f b] at hw
    exact br_f b (nm_r (nI_1 i) hw)
theorem xw_reach23 {post : Int32 → SX → Prop} {H G C K R O : Nat → Int32} {x : Int32} (h : post (ft_cnt (fun c => ¬ x < C c) 64) (H, G, C, K, R, O)) : wX_reach_23 post x H G C K R O 65 0 0 := by
  refine ft_it_loop (fun n i (s : Int32) => wX_reach_23 post x H G C K R O n s (nI i)) (ft_ct (fun c => ¬ x < C c)) 64 (fun s => post s (H, G, C, K, R, O)) (fun n s hp => br_t ft_g64 hp) ?_ 64 0 0 (by omega) h
  intro n i s hi hw
  refine br_f (ft_l64 hi) ⟨ft_vin hi, ?_⟩
  rw [ft_c hi]
  by_cases b : x < C i
  · rw [ft_ct_f (fun z => z b)] at hw
    exact br_t b (nm_r (nI_1 i) hw)
  · rw [ft_ct_t b] at hw
    exact br_f b (nm_e (nm_r (nI_1 i) hw))
theorem xw_vol8 {post : Int32 → SX → Prop} {H G C K R O : Nat → Int32} (h : post (ft_it (fun c s => s + (C c - H c)) 0 64 0) (H, G, C, K, R, O)) : wX_volume_8 post H G C K R O 65 0 0 := by
  refine ft_it_loop (fun n i (s : Int32) => wX_volume_8 post H G C K R O n s (nI i)) (fun c s => s + (C c - H c)) 64 (fun s => post s (H, G, C, K, R, O)) (fun n s hp => br_t ft_g64 hp) ?_ 64 0 0 (by omega) h
  intro n i s hi hw
  exact br_f (ft_l64 hi) ⟨ft_vin hi, ft_vin hi, nm_r (by rw [ft_c hi]) (nm_r (nI_1 i) hw)⟩
theorem xw_low {post : Int32 → Prop} {H G C K R O : Nat → Int32} (h : post (ft_it (ft_lw H) 0 64 99)) : wpX_leastHeight post (H, G, C, K, R, O) := by
  refine ⟨65, ft_it_loop (fun n i (s : Int32) => wX_leastHeight_5 post H G C K R O n s (nI i)) (ft_lw H) 64 (fun s => post s) (fun n s hp => br_t ft_g64 hp) ?_ 64 0 99 (by omega) h⟩
  intro n i s hi hw
  refine br_f (ft_l64 hi) ⟨ft_vin hi, ?_⟩
  rw [ft_c hi]
  exact xw_lesser (nm_r (nI_1 i) hw)
theorem xw_prom23 {post : Int32 → SX → Prop} {H G C K R O : Nat → Int32} {a : Nat} (ha : a < 64) (h1 : ft_it (ft_dx H C a) 0 64 100 = 100 → post (H a - ft_it (ft_lw H) 0 64 99) (H, G, C, K, R, O)) (h2 : ¬ ft_it (ft_dx H C a) 0 64 100 = 100 → post (ft_it (ft_dx H C a) 0 64 100 - G a) (H, G, C, K, R, O)) : wX_prominence_23 post (nI a) H G C K R O 65 100 0 := by
  refine ft_it_loop (fun n i (s : Int32) => wX_prominence_23 post (nI a) H G C K R O n s (nI i)) (ft_dx H C a) 64 (fun s => (s = 100 → post (H a - ft_it (ft_lw H) 0 64 99) (H, G, C, K, R, O)) ∧ (¬ s = 100 → post (s - G a) (H, G, C, K, R, O))) ?_ ?_ 64 0 100 (by omega) ⟨h1, h2⟩
  · intro n s hp
    refine br_t ft_g64 (br_c (fun e => ⟨ft_vin ha, xw_low ?_⟩) (fun e => ⟨ft_vin ha, ?_⟩))
    · rw [ft_c ha]
      exact hp.1 e
    · rw [ft_c ha]
      exact hp.2 e
  · intro n i s hi hw
    refine br_f (ft_l64 hi) ⟨ft_vin hi, ft_vin ha, ?_⟩
    rw [ft_c hi, ft_c ha]
    by_cases b : H a < H i
    · have z : ft_dx H C a i s = ft_mn s (C i) := if_pos b
      rw [z] at hw
      exact br_f (Int32.not_le.mpr b) ⟨ft_vin hi, xw_lesser (nm_r (nI_1 i) hw)⟩
    · have z : ft_dx H C a i s = s := if_neg b
      rw [z] at hw
      exact br_t (Int32.not_lt.mp b) (nm_r (nI_1 i) hw)
theorem xw_sum38 {post : Int32 → SX → Prop} {H G C K R O : Nat → Int32} (h : post (ft_cnt (fun c => R c = nI c ∧ O c = 0) 64) (H, G, C, K, R, O)) : wX_summits_38 post H G C K R O 65 0 0 := by
  refine ft_it_loop (fun n i (s : Int32) => wX_summits_38 post H G C K R O n s (nI i)) (ft_ct (fun c => R c = nI c ∧ O c = 0)) 64 (fun s => post s (H, G, C, K, R, O)) (fun n s hp => br_t ft_g64 hp) ?_ 64 0 0 (by omega) h
  intro n i s hi hw
  refine br_f (ft_l64 hi) ⟨ft_vin hi, ?_⟩
  rw [ft_c hi]
  by_cases a : R i = nI i
  · refine br_t a ⟨ft_vin hi, ?_⟩
    by_cases b : O i = 0
    · rw [ft_ct_t ⟨a, b⟩] at hw
      exact br_t b (nm_e (nm_r (nI_1 i) hw))
    · rw [ft_ct_f (fun z => b z.2)] at hw
      exact br_f b (nm_r (nI_1 i) hw)
  · rw [ft_ct_f (fun z => a z.1)] at hw
    exact br_f a (nm_r (nI_1 i) hw)
theorem xw_summits {post : Int32 → SX → Prop} {H G C K R O : Nat → Int32} (h : ∀ K' R0 O0, (∀ c, c < 64 → K' c = H c) → (∀ c, c < 64 → R0 c = nI c) → (∀ c, c < 64 → O0 c = 0) → post (ft_cnt (fun c => ft_jn K' R0 c = nI c ∧ ft_ov H (ft_jn K' R0) O0 c = 0) 64) (H, G, C, K', ft_jn K' R0, ft_ov H (ft_jn K' R0) O0)) : wpX_summits post (H, G, C, K, R, O) := by
  refine ⟨65, ft_it_loop (fun n i (s : Nat → Int32) => wX_summits_2 post n (nI i) H G C s R O) (fun c s => upd s c ((fun c (_ : Int32) => H c) c (s c))) 64 (fun s => ∀ c, c < 64 → s c = H c) ?_ ?_ 64 0 K (by omega) (ft_fill (fun c _ => H c) 64 K)⟩
  · intro n s hp
    refine br_t ft_g64 (xw_join (fun R0 hR => ?_))
    dsimp only
    refine xw_over (fun c hc => ?_) (fun O0 hO => ?_)
    · obtain ⟨m, hm, e, _⟩ := ft_lab (K := s) hR c hc
      exact ⟨m, hm, e⟩
    · exact ⟨65, xw_sum38 (h s R0 O0 hp hR hO)⟩
  · intro n i s hi hw
    exact br_f (ft_l64 hi) ⟨ft_vin hi, ft_vin hi, nm_r (by rw [ft_c hi]) (nm_r (nI_1 i) hw)⟩
end
section
/-! Y's private methods -/
theorem ft_neg1 : (-1 : Int32) < 0 := by decide
theorem ft_nneg {i : Nat} (h : i < 64) : ¬ nI i < 0 := nI_pos (by omega)
theorem yw_lb {post : Int32 → Prop} {H M : Nat → Int32} {c : Nat} (hc : c < 64) (h : post (ft_lb M c 4)) : wpY_leastBeside post (H, M) (nI c) := by
  refine ⟨5, ft_iv_loop (fun n i (s : Int32) => wY_leastBeside_5 post (nI c) H M n s (nI i)) (fun i s => s = ft_lb M c i) 4 ?_ ?_ 4 0 100 (by omega) rfl⟩
  · intro n s e
    subst e
    exact br_t ft_g4 h
  · intro n i s hi e k
    subst e
    refine br_f (ft_l4 hi) (yw_nbr hc hi (fun e => ?_) (fun e => ?_))
    · exact br_t ft_neg1 (nm_r (nI_1 i) (k _ (ft_lb_n e).symm))
    · have hb := ft_nb_lt hc e
      refine br_f (ft_nneg hb) ⟨ft_vin hb, ?_⟩
      rw [ft_c hb]
      exact yw_least (nm_r (nI_1 i) (k _ (ft_lb_a e).symm))
theorem yw_mb {post : Int32 → Prop} {H M : Nat → Int32} {c : Nat} (hc : c < 64) (h : post (ft_mb M c 4)) : wpY_mostBeside post (H, M) (nI c) := by
  refine ⟨5, ft_iv_loop (fun n i (s : Int32) => wY_mostBeside_4 post (nI c) H M n s (nI i)) (fun i s => s = ft_mb M c i) 4 ?_ ?_ 4 0 (-1) (by omega) rfl⟩
  · intro n s e
    subst e
    exact br_t ft_g4 h
  · intro n i s hi e k
    subst e
    refine br_f (ft_l4 hi) (yw_nbr hc hi (fun e => ?_) (fun e => ?_))
    · exact br_t ft_neg1 (nm_r (nI_1 i) (k _ (ft_mb_n e).symm))
    · have hb := ft_nb_lt hc e
      refine br_f (ft_nneg hb) ⟨ft_vin hb, ?_⟩
      rw [ft_c hb]
      exact yw_most (nm_r (nI_1 i) (k _ (ft_mb_a e).symm))
theorem yw_alike {post : Int32 → Prop} {H M : Nat → Int32} {c : Nat} (hc : c < 64) (h : post (ft_av H M c 4)) : wpY_leastAlike post (H, M) (nI c) := by
  refine ⟨ft_vin hc, nm_r (e' := M c) (by rw [ft_c hc]) ⟨5, ft_iv_loop (fun n i (s : Int32) => wY_leastAlike_9 post (nI c) H M n s (nI i)) (fun i s => s = ft_av H M c i) 4 ?_ ?_ 4 0 (M c) (by omega) rfl⟩⟩
  · intro n s e
    subst e
    exact br_t ft_g4 h
  · intro n i s hi e k
    subst e
    refine br_f (ft_l4 hi) (yw_nbr hc hi (fun e => ?_) (fun e => ?_))
    · exact br_t ft_neg1 (nm_r (nI_1 i) (k _ (ft_av_n e).symm))
    · have hb := ft_nb_lt hc e
      refine br_f (ft_nneg hb) ⟨ft_vin hb, ft_vin hc, ?_⟩
      rw [ft_c hb, ft_c hc]
      by_cases q : H (ft_nb c i) = H c
      · exact br_t q ⟨ft_vin hb, yw_least (nm_r (nI_1 i) (k _ (ft_av_a e q).symm))⟩
      · exact br_f q (nm_r (nI_1 i) (k _ (ft_av_o e q).symm))
theorem yw_higher {post : Int32 → Prop} {H M : Nat → Int32} {c : Nat} (hc : c < 64) (h1 : ft_hi H c → post 1) (h0 : ¬ ft_hi H c → post 0) : wpY_hasHigher post (H, M) (nI c) := by
  refine ⟨5, ft_iv_loop (fun n i (_ : Unit) => wY_hasHigher_2 post (nI c) H M n (nI i)) (fun i _ => ∀ d, d < i → ¬ (¬ ft_nb c d = 64 ∧ H c < H (ft_nb c d))) 4 ?_ ?_ 4 0 () (by omega) (fun d hd => absurd hd (Nat.not_lt_zero d))⟩
  · intro n s e
    exact br_t ft_g4 (h0 (fun ⟨d, hd, z⟩ => e d hd z))
  · intro n i s hi e k
    refine br_f (ft_l4 hi) (yw_nbr hc hi (fun q => ?_) (fun q => ?_))
    · refine br_t ft_neg1 (nm_r (nI_1 i) (k () (fun d hd => ?_)))
      by_cases di : d = i
      · rw [di]; exact fun z => z.1 q
      · exact e d (by omega)
    · have hb := ft_nb_lt hc q
      refine br_f (ft_nneg hb) ⟨ft_vin hb, ft_vin hc, ?_⟩
      rw [ft_c hb, ft_c hc]
      by_cases l : H c < H (ft_nb c i)
      · exact br_f (Int32.not_le.mpr l) (h1 ⟨i, hi, q, l⟩)
      · refine br_t (Int32.not_lt.mp l) (nm_r (nI_1 i) (k () (fun d hd => ?_)))
        by_cases di : d = i
        · rw [di]; exact fun z => l z.2
        · exact e d (by omega)
theorem yw_lower10 {post : SY → Prop} {J2 : Int32 → (Nat → Int32) → (Nat → Int32) → Prop} {H M : Nat → Int32} {k : Nat} (h : J2 (nI (k + 1)) H (ft_it (ft_ys H) 0 64 M)) : wY_lower_10 post J2 (nI k) 65 0 H M := by
  refine ft_it_loop (fun n i (s : Nat → Int32) => wY_lower_10 post J2 (nI k) n (nI i) H s) (ft_ys H) 64 (fun s => J2 (nI (k + 1)) H s) (fun n s hp => br_t ft_g64 (nm_r (nI_1 k) hp)) ?_ 64 0 M (by omega) h
  intro n i s hi hw
  refine br_f (ft_l64 hi) (yw_lb hi ⟨ft_vin hi, ?_⟩)
  rw [ft_c hi]
  exact yw_most ⟨ft_vin hi, yw_least ⟨ft_vin hi, nm_e (nm_r (nI_1 i) hw)⟩⟩
theorem yw_lower {post : SY → Prop} {H M : Nat → Int32} (h : post (H, ft_rd (ft_ys H) M)) : wpY_lower post (H, M) :=
  ⟨65, ft_it_loop (fun n i (s : Nat → Int32) => wY_lower_2 post n (nI i) H s) (fun _ s => ft_it (ft_ys H) 0 64 s) 64 (fun s => post (H, s))
    (fun n s hp => br_t ft_g64 hp)
    (fun n i s hi hw => br_f (ft_l64 hi) ⟨65, yw_lower10 hw⟩) 64 0 M (by omega) h⟩
theorem yw_levels {post : SY → Prop} {H M : Nat → Int32} (hH : ft_ok H) (h : ∀ M', (∀ c, c < 64 → M' c = ft_W H (ft_L0 H) c) → post (H, M')) : wpY_levels post (H, M) := by
  refine ⟨65, ft_it_loop (fun n i (s : Nat → Int32) => wY_levels_2 post n (nI i) H s) (fun c s => upd s c ((fun c (_ : Int32) => ft_L0 H c) c (s c))) 64 (fun s => ∀ c, c < 64 → s c = ft_L0 H c) ?_ ?_ 64 0 M (by omega) (ft_fill (fun c _ => ft_L0 H c) 64 M)⟩
  · intro n s hp
    exact br_t ft_g64 (yw_lower (h _ (ft_wy hp (ft_L0_le hH))))
  · intro n i s hi hw
    refine br_f (ft_l64 hi) (yw_bd hi (fun b => ?_) (fun b => ?_))
    · exact br_f (by decide) ⟨ft_vin hi, ft_vin hi, nm_r (by rw [ft_c hi]; show _ = upd s i (ft_L0 H i); rw [ft_L0_t b]) (nm_r (nI_1 i) hw)⟩
    · exact br_t rfl ⟨ft_vin hi, nm_r (by rw [ft_c hi]; show _ = upd s i (ft_L0 H i); rw [ft_L0_f b]) (nm_r (nI_1 i) hw)⟩
theorem yw_passes {post : SY → Prop} {H M : Nat → Int32} {a : Nat} (ha : a < 64) (hH : ft_ok H) (h : ∀ M', (∀ c, c < 64 → M' c = ft_W H (ft_a0 H a) c) → post (H, M')) : wpY_passes post (H, M) (nI a) := by
  refine ⟨65, ft_it_loop (fun n i (s : Nat → Int32) => wY_passes_2 post (nI a) n (nI i) H s) (fun c s => upd s c ((fun c (_ : Int32) => ft_a0 H a c) c (s c))) 64 (fun s => ∀ c, c < 64 → s c = ft_a0 H a c) ?_ ?_ 64 0 M (by omega) (ft_fill (fun c _ => ft_a0 H a c) 64 M)⟩
  · intro n s hp
    exact br_t ft_g64 (yw_lower (h _ (ft_wy hp (ft_a0_le hH a))))
  · intro n i s hi hw
    refine br_f (ft_l64 hi) (pk_eq i a (fun e => ?_) (fun e => ?_))
    · exact ⟨ft_vin hi, ft_vin hi, nm_r (by rw [ft_c hi]; show _ = upd s i (ft_a0 H a i); unfold ft_a0; rw [if_pos e]) (nm_r (nI_1 i) hw)⟩
    · exact ⟨ft_vin hi, nm_r (by rw [ft_c hi]; show _ = upd s i (ft_a0 H a i); unfold ft_a0; rw [if_neg e]) (nm_r (nI_1 i) hw)⟩
theorem yw_lk55 {post : SY → Prop} {J47 : Int32 → (Nat → Int32) → (Nat → Int32) → Prop} {H M : Nat → Int32} {k : Nat} (h : J47 (nI (k + 1)) H (ft_it ft_ly 0 64 M)) : wY_lakeMarks_55 post J47 (nI k) 65 0 H M := by
  refine ft_it_loop (fun n i (s : Nat → Int32) => wY_lakeMarks_55 post J47 (nI k) n (nI i) H s) ft_ly 64 (fun s => J47 (nI (k + 1)) H s) (fun n s hp => br_t ft_g64 (nm_r (nI_1 k) hp)) ?_ 64 0 M (by omega) h
  intro n i s hi hw
  refine br_f (ft_l64 hi) ⟨ft_vin hi, ?_⟩
  rw [ft_c hi]
  by_cases l : s i < 100
  · have z : ft_ly i s = upd s i (ft_mn (s i) (ft_lb s i 4)) := if_pos l
    rw [z] at hw
    exact br_f (Int32.not_le.mpr l) (yw_lb hi ⟨ft_vin hi, yw_least ⟨ft_vin hi, nm_e (nm_r (nI_1 i) hw)⟩⟩)
  · have z : ft_ly i s = s := if_neg l
    rw [z] at hw
    exact br_t (Int32.not_lt.mp l) (nm_r (nI_1 i) hw)
theorem yw_lk47 {post : SY → Prop} {H M : Nat → Int32} (h : post (H, ft_rd ft_ly M)) : wY_lakeMarks_47 post 65 0 H M :=
  ft_it_loop (fun n i (s : Nat → Int32) => wY_lakeMarks_47 post n (nI i) H s) (fun _ s => ft_it ft_ly 0 64 s) 64 (fun s => post (H, s))
    (fun n s hp => br_t ft_g64 hp)
    (fun n i s hi hw => br_f (ft_l64 hi) ⟨65, yw_lk55 hw⟩) 64 0 M (by omega) h
theorem yw_lakeMarks {post : SY → Prop} {H M : Nat → Int32} (hH : ft_ok H) (h : ∀ M0, (∀ c, c < 64 → M0 c = if ft_W H (ft_L0 H) c ≤ H c then 100 else nI c) → post (H, ft_rd ft_ly M0)) : wpY_lakeMarks post (H, M) := by
  unfold wpY_lakeMarks
  dsimp only
  refine yw_levels hH (fun M' hM => ?_)
  refine ⟨65, ft_it_loop (fun n i (s : Nat → Int32) => wY_lakeMarks_6 post n (nI i) H s) (fun c s => upd s c ((fun c (x : Int32) => if x ≤ H c then (100 : Int32) else nI c) c (s c))) 64 (fun s => ∀ c, c < 64 → s c = if M' c ≤ H c then (100 : Int32) else nI c) ?_ ?_ 64 0 M' (by omega) (ft_fill (fun c x => if x ≤ H c then (100 : Int32) else nI c) 64 M')⟩
  · intro n s hp
    exact br_t ft_g64 ⟨65, yw_lk47 (h s (fun c hc => by rw [hp c hc, hM c hc]))⟩
  · intro n i s hi hw
    refine br_f (ft_l64 hi) ⟨ft_vin hi, ft_vin hi, ?_⟩
    rw [ft_c hi]
    by_cases z : s i ≤ H i
    · refine br_t z ⟨ft_vin hi, nm_r ?_ (nm_r (nI_1 i) hw)⟩
      dsimp only
      rw [if_pos z]
    · refine br_f z ⟨ft_vin hi, nm_r ?_ (nm_r (nI_1 i) hw)⟩
      dsimp only
      rw [if_neg z]
theorem yw_lakes8 {post : Int32 → SY → Prop} {H M : Nat → Int32} (h : post (ft_cnt (fun c => M c = nI c) 64) (H, M)) : wY_lakes_8 post H M 65 0 0 := by
  refine ft_it_loop (fun n i (s : Int32) => wY_lakes_8 post H M n s (nI i)) (ft_ct (fun c => M c = nI c)) 64 (fun s => post s (H, M)) (fun n s hp => br_t ft_g64 hp) ?_ 64 0 0 (by omega) h
  intro n i s hi hw
  refine br_f (ft_l64 hi) ⟨ft_vin hi, ?_⟩
  rw [ft_c hi]
  by_cases a : M i = nI i
  · rw [ft_ct_t a] at hw
    exact br_t a (nm_e (nm_r (nI_1 i) hw))
  · rw [ft_ct_f a] at hw
    exact br_f a (nm_r (nI_1 i) hw)
theorem yw_size31 {post : Int32 → SY → Prop} {H M : Nat → Int32} {a : Nat} (ha : a < 64) (h : post (ft_cnt (fun c => M c = M a) 64) (H, M)) : wY_lakeSize_31 post (nI a) H M 65 0 0 := by
  refine ft_it_loop (fun n i (s : Int32) => wY_lakeSize_31 post (nI a) H M n s (nI i)) (ft_ct (fun c => M c = M a)) 64 (fun s => post s (H, M)) (fun n s hp => br_t ft_g64 hp) ?_ 64 0 0 (by omega) h
  intro n i s hi hw
  refine br_f (ft_l64 hi) ⟨ft_vin hi, ft_vin ha, ?_⟩
  rw [ft_c hi, ft_c ha]
  by_cases b : M i = M a
  · rw [ft_ct_t b] at hw
    exact br_t b (nm_e (nm_r (nI_1 i) hw))
  · rw [ft_ct_f b] at hw
    exact br_f b (nm_r (nI_1 i) hw)
theorem yw_reach20 {post : Int32 → SY → Prop} {H M : Nat → Int32} {x : Int32} (h : post (ft_cnt (fun c => ¬ x < M c) 64) (H, M)) : wY_reach_20 post x H M 65 0 0 := by
  refine ft_it_loop (fun n i (s : Int32) => wY_reach_20 post x H M n s (nI i)) (ft_ct (fun c => ¬ x < M c)) 64 (fun s => post s (H, M)) (fun n s hp => br_t ft_g64 hp) ?_ 64 0 0 (by omega) h
  intro n i s hi hw
  refine br_f (ft_l64 hi) ⟨ft_vin hi, ?_⟩
  rw [ft_c hi]
  by_cases b : x < M i
  · rw [ft_ct_f (fun z => z b)] at hw
    exact br_t b (nm_r (nI_1 i) hw)
  · rw [ft_ct_t b] at hw
    exact br_f b (nm_e (nm_r (nI_1 i) hw))
theorem yw_vol8 {post : Int32 → SY → Prop} {H M : Nat → Int32} (h : post (ft_it (fun c s => s + M c - H c) 0 64 0) (H, M)) : wY_volume_8 post H M 65 0 0 := by
  refine ft_it_loop (fun n i (s : Int32) => wY_volume_8 post H M n s (nI i)) (fun c s => s + M c - H c) 64 (fun s => post s (H, M)) (fun n s hp => br_t ft_g64 hp) ?_ 64 0 0 (by omega) h
  intro n i s hi hw
  exact br_f (ft_l64 hi) ⟨ft_vin hi, ft_vin hi, nm_r (by rw [ft_c hi]) (nm_r (nI_1 i) hw)⟩
/-- prominence -/
def ft_p0 (H : Nat → Int32) (a c : Nat) : Int32 := if c = a then H c else -1
theorem yw_pr120 {post : Int32 → SY → Prop} {H M : Nat → Int32} {a : Nat} (ha : a < 64) (h1 : 0 ≤ (ft_it (ft_dy H M a) 0 64 (-1, 99)).1 → post (H a - (ft_it (ft_dy H M a) 0 64 (-1, 99)).1) (H, M)) (h2 : ¬ 0 ≤ (ft_it (ft_dy H M a) 0 64 (-1, 99)).1 → post (H a - (ft_it (ft_dy H M a) 0 64 (-1, 99)).2) (H, M)) : wY_prominence_120 post (nI a) H M 65 (-1) 99 0 := by
  refine ft_it_loop (fun n i (s : Int32 × Int32) => wY_prominence_120 post (nI a) H M n s.1 s.2 (nI i)) (ft_dy H M a) 64 (fun s => (0 ≤ s.1 → post (H a - s.1) (H, M)) ∧ (¬ 0 ≤ s.1 → post (H a - s.2) (H, M))) ?_ ?_ 64 0 (-1, 99) (by omega) ⟨h1, h2⟩
  · intro n s hp
    refine br_t ft_g64 ⟨ft_vin ha, ?_⟩
    rw [ft_c ha]
    exact hp
  · intro n i s hi hw
    refine br_f (ft_l64 hi) ⟨ft_vin hi, ?_⟩
    rw [ft_c hi]
    refine yw_least ⟨ft_vin hi, ft_vin ha, ?_⟩
    rw [ft_c ha]
    by_cases b : H a < H i
    · have z : ft_dy H M a i s = (ft_mx s.1 (M i), ft_mn s.2 (H i)) := by unfold ft_dy; rw [if_pos b]
      rw [z] at hw
      exact br_f (Int32.not_le.mpr b) ⟨ft_vin hi, yw_most (nm_r (nI_1 i) hw)⟩
    · have z : ft_dy H M a i s = (s.1, ft_mn s.2 (H i)) := by unfold ft_dy; rw [if_neg b]
      rw [z] at hw
      exact br_t (Int32.not_lt.mp b) (nm_r (nI_1 i) hw)
theorem yw_pr55 {post : Int32 → SY → Prop} {J47 : Int32 → (Nat → Int32) → (Nat → Int32) → Prop} {x1 : Int32} {H M : Nat → Int32} {k : Nat} (h : J47 (nI (k + 1)) H (ft_it (ft_ps H) 0 64 M)) : wY_prominence_55 post J47 x1 (nI k) 65 0 H M := by
  refine ft_it_loop (fun n i (s : Nat → Int32) => wY_prominence_55 post J47 x1 (nI k) n (nI i) H s) (ft_ps H) 64 (fun s => J47 (nI (k + 1)) H s) (fun n s hp => br_t ft_g64 (nm_r (nI_1 k) hp)) ?_ 64 0 M (by omega) h
  intro n i s hi hw
  refine br_f (ft_l64 hi) (yw_mb hi ⟨ft_vin hi, ?_⟩)
  rw [ft_c hi]
  exact yw_least ⟨ft_vin hi, yw_most ⟨ft_vin hi, nm_e (nm_r (nI_1 i) hw)⟩⟩
theorem yw_prom {post : Int32 → SY → Prop} {H M : Nat → Int32} {a : Nat} (h : ∀ M0, (∀ c, c < 64 → M0 c = ft_p0 H a c) → ∃ n, wY_prominence_120 post (nI a) H (ft_rd (ft_ps H) M0) n (-1) 99 0) (ha : a < 64) : ∃ n, wY_prominence_12 post (nI a) n 0 H M := by
  refine ⟨65, ft_it_loop (fun n i (s : Nat → Int32) => wY_prominence_12 post (nI a) n (nI i) H s) (fun c s => upd s c ((fun c (_ : Int32) => ft_p0 H a c) c (s c))) 64 (fun s => ∀ c, c < 64 → s c = ft_p0 H a c) ?_ ?_ 64 0 M (by omega) (ft_fill (fun c _ => ft_p0 H a c) 64 M)⟩
  · intro n s hp
    exact br_t ft_g64 ⟨65, ft_it_loop (fun n i (s : Nat → Int32) => wY_prominence_47 post (nI a) n (nI i) H s) (fun _ s => ft_it (ft_ps H) 0 64 s) 64 (fun s => ∃ n, wY_prominence_120 post (nI a) H s n (-1) 99 0)
      (fun n s hp => br_t ft_g64 hp)
      (fun n i s hi hw => br_f (ft_l64 hi) ⟨65, yw_pr55 hw⟩) 64 0 s (by omega) (h s hp)⟩
  · intro n i s hi hw
    refine br_f (ft_l64 hi) (pk_eq i a (fun e => ?_) (fun e => ?_))
    · exact ⟨ft_vin hi, ft_vin hi, nm_r (by rw [ft_c hi]; show _ = upd s i (ft_p0 H a i); unfold ft_p0; rw [if_pos e]) (nm_r (nI_1 i) hw)⟩
    · exact ⟨ft_vin hi, nm_r (by rw [ft_c hi]; show _ = upd s i (ft_p0 H a i); unfold ft_p0; rw [if_neg e]) (nm_r (nI_1 i) hw)⟩
/-- summits -/
noncomputable def ft_m0 (H : Nat → Int32) (c : Nat) : Int32 := @ite _ (ft_hi H c) (Classical.propDecidable _) (-1) (nI c)
theorem ft_m0_t {H : Nat → Int32} {c : Nat} (h : ft_hi H c) : ft_m0 H c = -1 := if_pos h
theorem ft_m0_f {H : Nat → Int32} {c : Nat} (h : ¬ ft_hi H c) : ft_m0 H c = nI c := if_neg h
theorem yw_sum76 {post : Int32 → SY → Prop} {H M : Nat → Int32} (h : post (ft_cnt (fun c => M c = nI c) 64) (H, M)) : wY_summits_76 post H M 65 0 0 := by
  refine ft_it_loop (fun n i (s : Int32) => wY_summits_76 post H M n s (nI i)) (ft_ct (fun c => M c = nI c)) 64 (fun s => post s (H, M)) (fun n s hp => br_t ft_g64 hp) ?_ 64 0 0 (by omega) h
  intro n i s hi hw
  refine br_f (ft_l64 hi) ⟨ft_vin hi, ?_⟩
  rw [ft_c hi]
  by_cases a : M i = nI i
  · rw [ft_ct_t a] at hw
    exact br_t a (nm_e (nm_r (nI_1 i) hw))
  · rw [ft_ct_f a] at hw
    exact br_f a (nm_r (nI_1 i) hw)
theorem yw_sum43 {post : Int32 → SY → Prop} {J35 : Int32 → (Nat → Int32) → (Nat → Int32) → Prop} {H M : Nat → Int32} {k : Nat} (h : J35 (nI (k + 1)) H (ft_sw H M)) : wY_summits_43 post J35 (nI k) 65 0 H M := by
  refine ft_it_loop (fun n i (s : Nat → Int32) => wY_summits_43 post J35 (nI k) n (nI i) H s) (ft_js H) 64 (fun s => J35 (nI (k + 1)) H s) (fun n s hp => br_t ft_g64 (nm_r (nI_1 k) hp)) ?_ 64 0 M (by omega) h
  intro n i s hi hw
  exact br_f (ft_l64 hi) (yw_alike hi ⟨ft_vin hi, nm_r (by rw [ft_c hi]; rfl) (nm_r (nI_1 i) hw)⟩)
theorem yw_summits {post : Int32 → SY → Prop} {H M : Nat → Int32} (h : ∀ M0, (∀ c, c < 64 → M0 c = ft_m0 H c) → post (ft_cnt (fun c => ft_jn H M0 c = nI c) 64) (H, ft_jn H M0)) : wpY_summits post (H, M) := by
  refine ⟨65, ft_it_loop (fun n i (s : Nat → Int32) => wY_summits_2 post n (nI i) H s) (fun c s => upd s c ((fun c (_ : Int32) => ft_m0 H c) c (s c))) 64 (fun s => ∀ c, c < 64 → s c = ft_m0 H c) ?_ ?_ 64 0 M (by omega) (ft_fill (fun c _ => ft_m0 H c) 64 M)⟩
  · intro n s hp
    exact br_t ft_g64 ⟨65, ft_it_loop (fun n i (s : Nat → Int32) => wY_summits_35 post n (nI i) H s) (fun _ s => ft_sw H s) 64 (fun s => post (ft_cnt (fun c => s c = nI c) 64) (H, s))
      (fun n s hp => br_t ft_g64 ⟨65, yw_sum76 hp⟩)
      (fun n i s hi hw => br_f (ft_l64 hi) ⟨65, yw_sum43 hw⟩) 64 0 s (by omega) (h s hp)⟩
  · intro n i s hi hw
    refine br_f (ft_l64 hi) (yw_higher hi (fun b => ?_) (fun b => ?_))
    · exact br_f (by decide) ⟨ft_vin hi, nm_r (by rw [ft_c hi]; show _ = upd s i (ft_m0 H i); rw [ft_m0_t b]) (nm_r (nI_1 i) hw)⟩
    · exact br_t rfl ⟨ft_vin hi, nm_r (by rw [ft_c hi]; show _ = upd s i (ft_m0 H i); rw [ft_m0_f b]) (nm_r (nI_1 i) hw)⟩
end
section
/-! shift: both sides against the picture ft_sh, ft_cnt -/
def ft_rs (m x : Int32) : Int32 := if 0 ≤ x.toInt64 + m.toInt64 then (if x.toInt64 + m.toInt64 ≤ 99 then (x.toInt64 + m.toInt64).toInt32 else 99) else 0
theorem ft_rs_ok (m x : Int32) : 0 ≤ (ft_rs m x).toInt ∧ (ft_rs m x).toInt ≤ 99 := by
  unfold ft_rs
  generalize x.toInt64 + m.toInt64 = s
  by_cases h0 : 0 ≤ s
  · rw [if_pos h0]
    by_cases h1 : s ≤ 99
    · rw [if_pos h1]
      rw [Int64.le_iff_toInt_le, show (0 : Int64).toInt = 0 from by decide] at h0
      rw [Int64.le_iff_toInt_le, show (99 : Int64).toInt = 99 from by decide] at h1
      rw [Int64.toInt_toInt32, Int.bmod_eq_of_le (by omega) (by omega)]
      exact ⟨h0, h1⟩
    · rw [if_neg h1, ft_99]; omega
  · rw [if_neg h0, ft_0]; omega
theorem xw_raised {post : Int32 → Prop} {x m : Int32} (h : post (ft_rs m x)) : wpX_raised post x m := by
  unfold ft_rs at h
  refine nm_e ?_
  by_cases h0 : 0 ≤ x.toInt64 + m.toInt64
  · rw [if_pos h0] at h
    by_cases h1 : x.toInt64 + m.toInt64 ≤ 99
    · rw [if_pos h1] at h; exact br_t h0 (br_t h1 h)
    · rw [if_neg h1] at h; exact br_t h0 (br_f h1 h)
  · rw [if_neg h0] at h; exact br_f h0 h
/-- what the shift counts -/
def ft_q (p : Nat → Prop) (m : Int32) (h : Nat → Int32) (j : Nat) : Prop := p j ∧ ¬ ft_rs m (h j) = h j
theorem ft_i8 {i j : Nat} : nI i * 8 + nI j = nI (i * 8 + j) := by
  have e : nI i * 8 = nI (i * 8) := pk_mul i 8
  rw [e, nI_add]
section
variable (t b l r : Nat) (m : Int32) (h : Nat → Int32)
theorem xw_sh86 {post : Int32 → SX → Prop} {J75 : Int32 → Int32 → (Nat → Int32) → (Nat → Int32) → (Nat → Int32) → (Nat → Int32) → (Nat → Int32) → (Nat → Int32) → Prop} {x5 : Int32} {G C K R O : Nat → Int32} {i : Nat} (hb : b < 8) (hr : r < 8) (hlr : l ≤ r) (hti : t ≤ i) (hib : i ≤ b)
    (hJ : J75 (ft_cnt (ft_q (ft_in t b l r) m h) (i * 8 + (r + 1))) (nI (i + 1)) (ft_sh (ft_in t b l r) (ft_rs m) h (i * 8 + (r + 1))) G C K R O) :
    wX_shift_86 post J75 m x5 (nI l) (nI r) (nI i) (r + 1 - l + 1) (ft_cnt (ft_q (ft_in t b l r) m h) (i * 8 + l)) (nI l) (ft_sh (ft_in t b l r) (ft_rs m) h (i * 8 + l)) G C K R O := by
  refine ft_iv_loop (fun n j (s : Int32 × (Nat → Int32)) => wX_shift_86 post J75 m x5 (nI l) (nI r) (nI i) n s.1 (nI j) s.2 G C K R O) (fun j s => l ≤ j ∧ s = (ft_cnt (ft_q (ft_in t b l r) m h) (i * 8 + j), ft_sh (ft_in t b l r) (ft_rs m) h (i * 8 + j))) (r + 1) ?_ ?_ (r + 1 - l) l (ft_cnt (ft_q (ft_in t b l r) m h) (i * 8 + l), ft_sh (ft_in t b l r) (ft_rs m) h (i * 8 + l)) (by omega) ⟨Nat.le_refl l, rfl⟩
  · intro n s ⟨_, e⟩
    subst e
    exact br_t (nI_lt (by omega) (by omega)) (nm_r (nI_1 i) hJ)
  · intro n j s hj ⟨hlj, e⟩ k
    subst e
    have hp : ft_in t b l r (i * 8 + j) := by unfold ft_in; omega
    have hc : i * 8 + j < 64 := by omega
    refine br_f (nI_nlt (by omega) (by omega)) (nm_r ft_i8 ⟨ft_vin hc, nm_r (e' := h (i * 8 + j)) (by rw [ft_c hc]; exact ft_sh_at) (xw_raised ⟨ft_vin hc, nm_r (e' := ft_sh (ft_in t b l r) (ft_rs m) h (i * 8 + j + 1)) (by rw [ft_c hc]; exact ft_sh_step hp) ⟨ft_vin hc, ?_⟩⟩)⟩)
    rw [ft_c hc, ft_sh_in (j := i * 8 + j) ⟨by omega, hp⟩]
    by_cases z : ft_rs m (h (i * 8 + j)) = h (i * 8 + j)
    · refine br_t z (nm_r (nI_1 j) ?_)
      have e := ft_cnt_s (ft_q (ft_in t b l r) m h) (i * 8 + j)
      rw [ft_ct_f (fun q => q.2 z)] at e
      rw [← e]
      exact k (ft_cnt (ft_q (ft_in t b l r) m h) (i * 8 + j + 1), ft_sh (ft_in t b l r) (ft_rs m) h (i * 8 + j + 1)) ⟨by omega, rfl⟩
    · have e := ft_cnt_s (ft_q (ft_in t b l r) m h) (i * 8 + j)
      rw [ft_ct_t ⟨hp, z⟩] at e
      refine br_f z (nm_r e.symm (nm_r (nI_1 j) ?_))
      exact k (ft_cnt (ft_q (ft_in t b l r) m h) (i * 8 + j + 1), ft_sh (ft_in t b l r) (ft_rs m) h (i * 8 + j + 1)) ⟨by omega, rfl⟩
theorem xw_sh75 {post : Int32 → SX → Prop} {G C K R O : Nat → Int32} (hb : b < 8) (hr : r < 8) (hlr : l ≤ r) (htb : t ≤ b)
    (hp : post (ft_cnt (ft_q (ft_in t b l r) m h) 64) (ft_sh (ft_in t b l r) (ft_rs m) h 64, G, C, K, R, O)) :
    wX_shift_75 post m (nI b) (nI l) (nI r) (b + 1 - t + 1) 0 (nI t) h G C K R O := by
  refine ft_iv_loop (fun n i (s : Int32 × (Nat → Int32)) => wX_shift_75 post m (nI b) (nI l) (nI r) n s.1 (nI i) s.2 G C K R O) (fun i s => t ≤ i ∧ s = (ft_cnt (ft_q (ft_in t b l r) m h) (i * 8 + l), ft_sh (ft_in t b l r) (ft_rs m) h (i * 8 + l))) (b + 1) ?_ ?_ (b + 1 - t) t (0, h) (by omega) ⟨Nat.le_refl t, ?_⟩
  · intro n s ⟨_, e⟩
    subst e
    refine br_t (nI_lt (by omega) (by omega)) ?_
    have e1 : ft_cnt (ft_q (ft_in t b l r) m h) ((b + 1) * 8 + l) = ft_cnt (ft_q (ft_in t b l r) m h) 72 := ft_cnt_skip 72 (by omega) (fun j h1 _ q => by have := q.1; unfold ft_in at this; omega)
    have e2 : ft_cnt (ft_q (ft_in t b l r) m h) 64 = ft_cnt (ft_q (ft_in t b l r) m h) 72 := ft_cnt_skip 72 (by omega) (fun j h1 _ q => by have := q.1; unfold ft_in at this; omega)
    have e3 : ft_sh (ft_in t b l r) (ft_rs m) h ((b + 1) * 8 + l) = ft_sh (ft_in t b l r) (ft_rs m) h 72 := ft_sh_skip (by omega) (fun j h1 _ q => by unfold ft_in at q; omega)
    have e4 : ft_sh (ft_in t b l r) (ft_rs m) h 64 = ft_sh (ft_in t b l r) (ft_rs m) h 72 := ft_sh_skip (by omega) (fun j h1 _ q => by unfold ft_in at q; omega)
    rw [e1, e3, ← e2, ← e4]
    exact hp
  · intro n i s hi ⟨hti, e⟩ k
    subst e
    refine br_f (nI_nlt (by omega) (by omega)) ⟨r + 1 - l + 1, xw_sh86 t b l r m h hb hr hlr hti (by omega) ?_⟩
    have e1 : ft_cnt (ft_q (ft_in t b l r) m h) (i * 8 + (r + 1)) = ft_cnt (ft_q (ft_in t b l r) m h) ((i + 1) * 8 + l) := ft_cnt_skip _ (by omega) (fun j h1 h2 q => by have := q.1; unfold ft_in at this; omega)
    have e3 : ft_sh (ft_in t b l r) (ft_rs m) h (i * 8 + (r + 1)) = ft_sh (ft_in t b l r) (ft_rs m) h ((i + 1) * 8 + l) := ft_sh_skip (by omega) (fun j h1 h2 q => by unfold ft_in at q; omega)
    rw [e1, e3]
    exact k (ft_cnt (ft_q (ft_in t b l r) m h) ((i + 1) * 8 + l), ft_sh (ft_in t b l r) (ft_rs m) h ((i + 1) * 8 + l)) ⟨by omega, rfl⟩
  · rw [ft_cnt_0 (fun j h1 q => by have := q.1; unfold ft_in at this; omega), ft_sh_0 (fun j h1 q => by unfold ft_in at q; omega)]
end
theorem yw_between {post : Int32 → Prop} {H M : Nat → Int32} {x a b : Nat} (hx : x < 64) (ha : a < 64) (hb : b < 64) (h1 : min a b ≤ x ∧ x ≤ max a b → post 1) (h0 : ¬ (min a b ≤ x ∧ x ≤ max a b) → post 0) : wpY_between post (H, M) (nI x) (nI a) (nI b) := by
  unfold wpY_between
  dsimp only
  refine yw_least ?_
  rw [ft_mn_n ha hb]
  refine pk_lt x (min a b) (fun z => h0 (by omega)) (fun z => yw_most ?_)
  rw [ft_mx_n ha hb]
  exact pk_lt (max a b) x (fun y => h0 (by omega)) (fun y => h1 (by omega))
theorem yw_sh112 {post : Int32 → SY → Prop} {J24 : Int32 → Int32 → (Nat → Int32) → (Nat → Int32) → Prop} {x1 x2 x3 n : Int32} {H M : Nat → Int32} {z : Int32} {i : Nat} (hi : i < 64) (ht : z = H i → J24 n (nI (i + 1)) (upd H i z) M) (hf : ¬ z = H i → J24 (n + 1) (nI (i + 1)) (upd H i z) M) : wY_shift_112 post J24 x1 x2 x3 n (nI i) z H M := by
  refine ⟨ft_vin hi, ?_⟩
  rw [ft_c hi]
  exact br_c (fun e => ⟨ft_vin hi, nm_e (nm_r (nI_1 i) (ht e))⟩) (fun e => nm_e ⟨ft_vin hi, nm_e (nm_r (nI_1 i) (hf e))⟩)
theorem yw_sh24 {post : Int32 → SY → Prop} {M h : Nat → Int32} {a c : Nat} {m : Int32} (ha : a < 64) (hc : c < 64)
    (hp : post (ft_cnt (ft_q (ft_in (min (a / 8) (c / 8)) (max (a / 8) (c / 8)) (min (a % 8) (c % 8)) (max (a % 8) (c % 8))) m h) 64) (ft_sh (ft_in (min (a / 8) (c / 8)) (max (a / 8) (c / 8)) (min (a % 8) (c % 8)) (max (a % 8) (c % 8))) (ft_rs m) h 64, M)) :
    wY_shift_24 post (nI a) (nI c) m 65 0 0 h M := by
  generalize hP : ft_in (min (a / 8) (c / 8)) (max (a / 8) (c / 8)) (min (a % 8) (c % 8)) (max (a % 8) (c % 8)) = p at hp
  have hpi : ∀ i, p i ↔ (min (a / 8) (c / 8) ≤ i / 8 ∧ i / 8 ≤ max (a / 8) (c / 8)) ∧ (min (a % 8) (c % 8) ≤ i % 8 ∧ i % 8 ≤ max (a % 8) (c % 8)) := by
    intro i
    rw [← hP]
    unfold ft_in
    constructor
    · intro ⟨h1, h2, h3, h4⟩; exact ⟨⟨h1, h2⟩, h3, h4⟩
    · intro ⟨⟨h1, h2⟩, h3, h4⟩; exact ⟨h1, h2, h3, h4⟩
  refine ft_iv_loop (fun n i (s : Int32 × (Nat → Int32)) => wY_shift_24 post (nI a) (nI c) m n s.1 (nI i) s.2 M) (fun i s => s = (ft_cnt (ft_q p m h) i, ft_sh p (ft_rs m) h i)) 64 ?_ ?_ 64 0 (0, h) (by omega) ?_
  · intro n s e
    subst e
    exact br_t ft_g64 hp
  · intro n i s hi e k
    subst e
    have hno : ¬ p i → wY_shift_24 post (nI a) (nI c) m n (ft_cnt (ft_q p m h) i) (nI (i + 1)) (ft_sh p (ft_rs m) h i) M := by
      intro np
      have e1 : ft_cnt (ft_q p m h) i = ft_cnt (ft_q p m h) (i + 1) := by rw [ft_cnt_s, ft_ct_f (fun q => np q.1)]
      have e2 : ft_sh p (ft_rs m) h i = ft_sh p (ft_rs m) h (i + 1) := ft_sh_skip (by omega) (fun j h1 h2 q => np (by
        have : j = i := by omega
        rw [← this]; exact q))
      rw [e1, e2]
      exact k _ rfl
    refine br_f (ft_l64 hi) ⟨ft_n8, ft_n8, ft_n8, ?_⟩
    dsimp only
    rw [ft_r8 hi, ft_r8 ha, ft_r8 hc, ft_q8 hi, ft_q8 ha, ft_q8 hc]
    have main : ∀ z, z = ft_rs m (h i) → wY_shift_112 post (wY_shift_24 post (nI a) (nI c) m n) (nI a) (nI c) m (ft_cnt (ft_q p m h) i) (nI i) z (ft_sh p (ft_rs m) h i) M ∨ ¬ p i := by
      intro z ez
      by_cases pi : p i
      · left
        subst ez
        refine yw_sh112 hi (fun e => ?_) (fun e => ?_)
        · rw [ft_sh_at] at e
          have e1 := ft_cnt_s (ft_q p m h) i
          rw [ft_ct_f (fun q => q.2 e)] at e1
          rw [ft_sh_step pi, ← e1]
          exact k _ rfl
        · rw [ft_sh_at] at e
          have e1 := ft_cnt_s (ft_q p m h) i
          rw [ft_ct_t ⟨pi, e⟩] at e1
          rw [ft_sh_step pi, ← e1]
          exact k _ rfl
      · exact Or.inr pi
    refine yw_between (by omega) (by omega) (by omega) (fun z1 => ?_) (fun z1 => ?_)
    · refine br_f (by decide) ⟨ft_n8, ft_n8, ft_n8, yw_between (by omega) (by omega) (by omega) (fun z2 => ?_) (fun z2 => ?_)⟩
      · have pi : p i := (hpi i).mpr ⟨z1, z2⟩
        have main2 := fun z ez => (main z ez).resolve_right (fun q => q pi)
        refine br_f (by decide) ⟨ft_vin hi, nm_e ?_⟩
        rw [ft_c hi, ft_sh_at]
        unfold ft_rs at main2
        by_cases h0 : 0 ≤ (h i).toInt64 + m.toInt64
        · rw [if_pos h0] at main2
          by_cases h1 : (h i).toInt64 + m.toInt64 ≤ 99
          · rw [if_pos h1] at main2
            exact br_t h0 (br_t h1 (main2 _ rfl))
          · rw [if_neg h1] at main2
            exact br_t h0 (br_f h1 (main2 _ rfl))
        · rw [if_neg h0] at main2
          exact br_f h0 (main2 _ rfl)
      · exact br_t rfl (nm_r (nI_1 i) (hno (fun q => z2 ((hpi i).mp q).2)))
    · exact br_t rfl (nm_r (nI_1 i) (hno (fun q => z1 ((hpi i).mp q).1)))
  · rw [ft_sh_0 (fun j h1 _ => absurd h1 (Nat.not_lt_zero j))]
    rfl
end
section
/-! where the two sides meet, method by method -/
theorem ft_add_sub (s a b : Int32) : s + a - b = s + (a - b) := by
  rw [Int32.sub_eq_add_neg, Int32.sub_eq_add_neg, Int32.add_assoc]
theorem ft_vol {A B H : Nat → Int32} (h : ∀ c, c < 64 → A c = B c) : ft_it (fun c s => s + A c - H c) 0 64 0 = ft_it (fun c s => s + (B c - H c)) 0 64 0 :=
  ft_it_rel (fun c s => s + A c - H c) (fun c s => s + (B c - H c)) (fun _ s t => s = t) 64 (fun i s t hi e => by
    cases e
    show s + A i - H i = s + (B i - H i)
    rw [h i hi, ft_add_sub]) 64 0 0 0 (by omega) rfl
theorem ft_av_K {K K' s t : Nat → Int32} (hK : ∀ c, c < 64 → K c = K' c) (hs : ∀ c, c < 64 → s c = t c) {c : Nat} (hc : c < 64) : ∀ d, ft_av K s c d = ft_av K' t c d := by
  intro d
  induction d with
  | zero => exact hs c hc
  | succ d ih =>
    by_cases e : ft_nb c d = 64
    · rw [ft_av_n e, ft_av_n e, ih]
    · have hb := ft_nb_lt hc e
      by_cases q : K (ft_nb c d) = K c
      · have q2 : K' (ft_nb c d) = K' c := by rw [← hK _ hb, ← hK c hc]; exact q
        rw [ft_av_a e q, ft_av_a e q2, ih, hs _ hb]
      · have q2 : ¬ K' (ft_nb c d) = K' c := by rw [← hK _ hb, ← hK c hc]; exact q
        rw [ft_av_o e q, ft_av_o e q2, ih]
theorem ft_jn_K {K K' g : Nat → Int32} (hK : ∀ c, c < 64 → K c = K' c) : ∀ c, c < 64 → ft_jn K g c = ft_jn K' g c := by
  rw [ft_jn_rd, ft_jn_rd]
  refine ft_rounds (I := fun s t => ∀ c, c < 64 → s c = t c) (fun i s t hi hst c hc => ?_) (fun _ _ => rfl)
  by_cases ci : c = i
  · subst ci
    have z1 : ft_js K c s c = ft_av K s c 4 := pk_us
    have z2 : ft_js K' c t c = ft_av K' t c 4 := pk_us
    rw [z1, z2]
    exact ft_av_K hK hst hc 4
  · have z1 : ft_js K i s c = s c := pk_un ci
    have z2 : ft_js K' i t c = t c := pk_un ci
    rw [z1, z2]
    exact hst c hc
theorem ft_sum_eq {H K' R0 O0 M0 : Nat → Int32} (hK : ∀ c, c < 64 → K' c = H c) (hR : ∀ c, c < 64 → R0 c = nI c) (hO : ∀ c, c < 64 → O0 c = 0) (hM : ∀ c, c < 64 → M0 c = ft_m0 H c) : ft_cnt (fun c => ft_jn H M0 c = nI c) 64 = ft_cnt (fun c => ft_jn K' R0 c = nI c ∧ ft_ov H (ft_jn K' R0) O0 c = 0) 64 := by
  refine ft_cnt_eq 64 (fun c hc => ?_)
  have hG : ∀ c, c < 64 → ∃ m, m < 64 ∧ ft_jn K' R0 c = nI m := by
    intro c hc
    obtain ⟨m, hm, e, _⟩ := ft_lab (K := K') hR c hc
    exact ⟨m, hm, e⟩
  rw [ft_ov_is hG hO c hc, ← ft_jn_K hK c hc]
  exact (ft_summit (K := K') (g := R0) (m0 := M0) (hi := ft_hi H) hR (fun c hc z => by rw [hM c hc, ft_m0_t z]) (fun c hc z => by rw [hM c hc, ft_m0_f z]) c hc).symm
theorem ft_lk0 {W H K' R0 M0 : Nat → Int32} (hK : ∀ c, c < 64 → K' c = if W c ≤ H c then 0 else 1) (hR : ∀ c, c < 64 → R0 c = nI c) (hM : ∀ c, c < 64 → M0 c = if W c ≤ H c then 100 else nI c) : ft_lk K' R0 M0 := by
  intro c hc
  refine ⟨⟨c, hc, hR c hc, rfl⟩, ?_⟩
  rw [hK c hc, hM c hc, hR c hc]
  by_cases z : W c ≤ H c
  · rw [if_pos z, if_pos z]
    exact ⟨fun e => absurd e (by decide), fun _ => rfl⟩
  · rw [if_neg z, if_neg z]
    exact ⟨fun _ => rfl, fun e => absurd rfl e⟩
theorem ft_a0_G {G H C0 : Nat → Int32} {a : Nat} (hG : ∀ c, c < 64 → G c = H c) (hC : ∀ c, c < 64 → C0 c = ft_a0 G a c) : ∀ c, c < 64 → C0 c = ft_a0 H a c := by
  intro c hc
  rw [hC c hc]
  unfold ft_a0
  rw [hG c hc]
theorem yw_prominence {post : Int32 → SY → Prop} {H M : Nat → Int32} {a : Nat} (ha : a < 64)
    (h1 : ∀ M0, (∀ c, c < 64 → M0 c = ft_p0 H a c) → 0 ≤ (ft_it (ft_dy H (ft_rd (ft_ps H) M0) a) 0 64 (-1, 99)).1 → post (H a - (ft_it (ft_dy H (ft_rd (ft_ps H) M0) a) 0 64 (-1, 99)).1) (H, ft_rd (ft_ps H) M0))
    (h2 : ∀ M0, (∀ c, c < 64 → M0 c = ft_p0 H a c) → ¬ 0 ≤ (ft_it (ft_dy H (ft_rd (ft_ps H) M0) a) 0 64 (-1, 99)).1 → post (H a - (ft_it (ft_dy H (ft_rd (ft_ps H) M0) a) 0 64 (-1, 99)).2) (H, ft_rd (ft_ps H) M0)) : wpY_prominence post (H, M) (nI a) := by
  unfold wpY_prominence
  dsimp only
  exact yw_ok ha (br_t rfl (yw_prom (fun M0 hM => ⟨65, yw_pr120 ha (h1 M0 hM) (h2 M0 hM)⟩) ha))
theorem ft_ud0 {H G C0 M0 : Nat → Int32} {a : Nat} (hH : ft_ok H) (hG : ∀ c, c < 64 → G c = 99 - H c) (hC : ∀ c, c < 64 → C0 c = ft_a0 G a c) (hM : ∀ c, c < 64 → M0 c = ft_p0 H a c) : ft_ud (ft_rd (ft_xs G) C0) (ft_rd (ft_ps H) M0) := by
  refine ft_updown (fun c hc => ⟨?_, (hH c).2⟩) (fun c hc => ?_)
  · rw [hG c hc]
    exact ft_99m (hH c).1 (hH c).2
  · rw [hC c hc, hM c hc]
    unfold ft_a0 ft_p0
    have b := hH c
    by_cases e : c = a
    · rw [if_pos e, if_pos e, hG c hc, ft_99m b.1 b.2]
      omega
    · rw [if_neg e, if_neg e, ft_100, ft_m1]
      omega
/-- the pattern, one cell -/
def ft_pt (x y : Int32) (c : Nat) (s : Nat → Int32) : Nat → Int32 := upd s c ((nI c * x + y) &&& 63)
theorem ft_pt_ok {x y : Int32} {H : Nat → Int32} (hH : ft_ok H) : ft_ok (ft_it (ft_pt x y) 0 64 H) := by
  refine ft_it_inv (ft_pt x y) (fun _ s => ft_ok s) 64 (fun i s _ z => ?_) 64 0 H (by omega) hH
  obtain ⟨j, hj, e⟩ := pk_andE (nI i * x + y) (m := 63) 6 (by decide)
  have hj2 : j < 64 := hj
  refine ft_ok_u z ?_ ?_
  · rw [e, ft_nI_i hj2]; omega
  · rw [e, ft_nI_i hj2]; omega
theorem xw_pattern {post : SX → Prop} {H G C K R O : Nat → Int32} {x y : Int32} (h : post (ft_it (ft_pt x y) 0 64 H, G, C, K, R, O)) : wpX_pattern post (H, G, C, K, R, O) x y :=
  ⟨65, ft_it_loop (fun n i (s : Nat → Int32) => wX_pattern_2 post x y n (nI i) s G C K R O) (ft_pt x y) 64 (fun s => post (s, G, C, K, R, O))
    (fun n s hp => br_t ft_g64 hp)
    (fun n i s hi hw => br_f (ft_l64 hi) ⟨ft_vin hi, nm_r (by rw [ft_c hi]; rfl) (nm_r (nI_1 i) hw)⟩) 64 0 H (by omega) h⟩
theorem yw_pattern {post : SY → Prop} {H M : Nat → Int32} {x y : Int32} (h : post (ft_it (ft_pt x y) 0 64 H, M)) : wpY_pattern post (H, M) x y :=
  ⟨65, ft_it_loop (fun n i (s : Nat → Int32) => wY_pattern_2 post x y n (nI i) s M) (ft_pt x y) 64 (fun s => post (s, M))
    (fun n s hp => br_t ft_g64 hp)
    (fun n i s hi hw => br_f (ft_l64 hi) ⟨ft_vin hi, nm_r (by rw [ft_c hi]; rfl) (nm_r (nI_1 i) hw)⟩) 64 0 H (by omega) h⟩
end
section
/-- the heights are the same, each from 0 to 99; all else is filled anew by each call -/
def i_Rel (k : Nat) (u : SX) (v : SY) : Prop := u.1 = v.1 ∧ ft_ok u.1
theorem i_up {k : Nat} {u : SX} {v : SY} (h : i_Rel k u v) : i_Rel (k + 4) u v := h
theorem i_vc0 : wpX_init (fun u => wpY_init (fun v => i_Rel 0 u v)) := ⟨rfl, fun _ => by show 0 ≤ (0 : Int32).toInt ∧ (0 : Int32).toInt ≤ 99; decide⟩
theorem i_vc_set {k : Nat} {u : SX} {v : SY} (I : i_Rel k u v) (hk : k + 4 ≤ 2048) (v1 : Int32) (v2 : Int32) : wpX_set (fun r u' => wpY_set (fun r' v' => r' = r ∧ i_Rel (k + 4) u' v') v v1 v2) u v1 v2 := by
  obtain ⟨H, G, C, K, R, O⟩ := u
  obtain ⟨H', M⟩ := v
  obtain ⟨e, hH⟩ := I
  have e2 : H = H' := e
  subst e2
  have hH2 : ft_ok H := hH
  unfold wpX_set wpY_set
  dsimp only
  rcases ft_cell v1 with hb | ⟨j, hj, rfl⟩
  · exact xw_bad hb (br_t rfl (yw_bad hb (br_f (by decide) ⟨rfl, rfl, hH2⟩)))
  · refine xw_ok hj (br_f (by decide) ?_)
    by_cases a : v2 < 0
    · exact br_t a (yw_ok hj (br_t rfl (br_t a ⟨rfl, rfl, hH2⟩)))
    · refine br_f a ?_
      by_cases b : v2 ≤ 99
      · have hu : ft_ok (upd H (nI j).toNatClampNeg v2) := ft_ok_u hH2 (by
          rw [Int32.lt_iff_toInt_lt, ft_0] at a
          omega) (by
          rw [Int32.le_iff_toInt_le, ft_99] at b
          exact b)
        exact br_t b ⟨ft_vin hj, nm_e ⟨ft_vin hj, nm_e (yw_ok hj (br_t rfl (br_f a (br_t b ⟨ft_vin hj, nm_e ⟨ft_vin hj, nm_e ⟨rfl, rfl, hu⟩⟩⟩))))⟩⟩
      · exact br_f b (yw_ok hj (br_t rfl (br_f a (br_f b ⟨rfl, rfl, hH2⟩))))
theorem i_vc_shift {k : Nat} {u : SX} {v : SY} (I : i_Rel k u v) (hk : k + 4 ≤ 2048) (v1 : Int32) (v2 : Int32) (v3 : Int32) : wpX_shift (fun r u' => wpY_shift (fun r' v' => r' = r ∧ i_Rel (k + 4) u' v') v v1 v2 v3) u v1 v2 v3 := by
  obtain ⟨H, G, C, K, R, O⟩ := u
  obtain ⟨H', M⟩ := v
  obtain ⟨e, hH⟩ := I
  have e2 : H = H' := e
  subst e2
  have hH2 : ft_ok H := hH
  unfold wpX_shift wpY_shift
  dsimp only
  rcases ft_cell v1 with hb | ⟨a, ha, rfl⟩
  · exact xw_bad hb (br_t rfl (yw_bad hb (br_f (by decide) ⟨rfl, rfl, hH2⟩)))
  · refine xw_ok ha (br_f (by decide) ?_)
    rcases ft_cell v2 with hb | ⟨c, hc, rfl⟩
    · exact xw_bad hb (br_t rfl (yw_ok ha (br_t rfl (yw_bad hb (br_f (by decide) ⟨rfl, rfl, hH2⟩)))))
    · refine xw_ok hc (br_f (by decide) ⟨ft_n8, ft_n8, ?_⟩)
      rw [ft_r8 ha, ft_r8 hc, ft_q8 ha, ft_q8 hc]
      refine xw_lesser ⟨ft_n8, ft_n8, xw_greater ⟨ft_n8, ft_n8, xw_lesser ⟨ft_n8, ft_n8, xw_greater ?_⟩⟩⟩
      rw [ft_mn_n (by omega) (by omega), ft_mx_n (by omega) (by omega), ft_mn_n (by omega) (by omega), ft_mx_n (by omega) (by omega)]
      exact ⟨_, xw_sh75 _ _ _ _ v3 H (by omega) (by omega) (by omega) (by omega) (yw_ok ha (br_t rfl (yw_ok hc (br_t rfl ⟨65, yw_sh24 ha hc ⟨rfl, rfl, ft_ok_sh hH2 (fun x => ft_rs_ok v3 x) 64⟩⟩))))⟩
theorem i_vc_pattern {k : Nat} {u : SX} {v : SY} (I : i_Rel k u v) (hk : k + 4 ≤ 2048) (v1 : Int32) (v2 : Int32) : wpX_pattern (fun u' => wpY_pattern (fun v' => i_Rel (k + 4) u' v') v v1 v2) u v1 v2 := by
  obtain ⟨H, G, C, K, R, O⟩ := u
  obtain ⟨H', M⟩ := v
  obtain ⟨e, hH⟩ := I
  have e2 : H = H' := e
  subst e2
  exact xw_pattern (yw_pattern ⟨rfl, ft_pt_ok hH⟩)
theorem i_vc_height {k : Nat} {u : SX} {v : SY} (I : i_Rel k u v) (hk : k + 4 ≤ 2048) (v1 : Int32) : wpX_height (fun r => wpY_height (fun r' => r' = r ∧ i_Rel (k + 4) u v) v v1) u v1 := by
  obtain ⟨H, G, C, K, R, O⟩ := u
  obtain ⟨H', M⟩ := v
  obtain ⟨e, hH⟩ := I
  have e2 : H = H' := e
  subst e2
  unfold wpX_height wpY_height
  dsimp only
  rcases ft_cell v1 with hb | ⟨j, hj, rfl⟩
  · exact xw_bad hb (br_t rfl (yw_bad hb (br_f (by decide) ⟨rfl, rfl, hH⟩)))
  · exact xw_ok hj (br_f (by decide) ⟨ft_vin hj, yw_ok hj (br_t rfl ⟨ft_vin hj, rfl, rfl, hH⟩)⟩)
theorem i_vc_level {k : Nat} {u : SX} {v : SY} (I : i_Rel k u v) (hk : k + 4 ≤ 2048) (v1 : Int32) : wpX_level (fun r u' => wpY_level (fun r' v' => r' = r ∧ i_Rel (k + 4) u' v') v v1) u v1 := by
  obtain ⟨H, G, C, K, R, O⟩ := u
  obtain ⟨H', M⟩ := v
  obtain ⟨e, hH⟩ := I
  have e2 : H = H' := e
  subst e2
  have hH2 : ft_ok H := hH
  unfold wpX_level wpY_level
  dsimp only
  rcases ft_cell v1 with hb | ⟨j, hj, rfl⟩
  · exact xw_bad hb (br_t rfl (yw_bad hb (br_f (by decide) ⟨rfl, rfl, hH2⟩)))
  · refine xw_ok hj (br_f (by decide) (xw_levels hH2 (fun G' C' hC => ⟨ft_vin hj, yw_ok hj (br_t rfl (yw_levels hH2 (fun M' hM => ⟨ft_vin hj, ?_, rfl, hH2⟩)))⟩)))
    dsimp only
    rw [ft_c hj, hC j hj, hM j hj]
theorem i_vc_volume {k : Nat} {u : SX} {v : SY} (I : i_Rel k u v) (hk : k + 4 ≤ 2048) : wpX_volume (fun r u' => wpY_volume (fun r' v' => r' = r ∧ i_Rel (k + 4) u' v') v) u := by
  obtain ⟨H, G, C, K, R, O⟩ := u
  obtain ⟨H', M⟩ := v
  obtain ⟨e, hH⟩ := I
  have e2 : H = H' := e
  subst e2
  have hH2 : ft_ok H := hH
  unfold wpX_volume wpY_volume
  dsimp only
  exact xw_levels hH2 (fun G' C' hC => ⟨65, xw_vol8 (yw_levels hH2 (fun M' hM => ⟨65, yw_vol8 ⟨ft_vol (fun c hc => (hM c hc).trans (hC c hc).symm), rfl, hH2⟩⟩))⟩)
theorem i_vc_lakes {k : Nat} {u : SX} {v : SY} (I : i_Rel k u v) (hk : k + 4 ≤ 2048) : wpX_lakes (fun r u' => wpY_lakes (fun r' v' => r' = r ∧ i_Rel (k + 4) u' v') v) u := by
  obtain ⟨H, G, C, K, R, O⟩ := u
  obtain ⟨H', M⟩ := v
  obtain ⟨e, hH⟩ := I
  have e2 : H = H' := e
  subst e2
  have hH2 : ft_ok H := hH
  unfold wpX_lakes wpY_lakes
  dsimp only
  refine xw_lakes hH2 (fun G' C' K' R0 hK hR => ?_)
  dsimp only
  refine ⟨65, xw_lakes8 (yw_lakeMarks hH2 (fun M0 hM => ?_))⟩
  dsimp only
  exact ⟨65, yw_lakes8 ⟨(ft_cnt_eq 64 (ft_lake_count (ft_lake (ft_lk0 hK hR hM)))).symm, rfl, hH2⟩⟩
theorem i_vc_lakeSize {k : Nat} {u : SX} {v : SY} (I : i_Rel k u v) (hk : k + 4 ≤ 2048) (v1 : Int32) : wpX_lakeSize (fun r u' => wpY_lakeSize (fun r' v' => r' = r ∧ i_Rel (k + 4) u' v') v v1) u v1 := by
  obtain ⟨H, G, C, K, R, O⟩ := u
  obtain ⟨H', M⟩ := v
  obtain ⟨e, hH⟩ := I
  have e2 : H = H' := e
  subst e2
  have hH2 : ft_ok H := hH
  unfold wpX_lakeSize wpY_lakeSize
  dsimp only
  rcases ft_cell v1 with hb | ⟨j, hj, rfl⟩
  · exact xw_bad hb (br_t rfl (yw_bad hb (br_f (by decide) ⟨rfl, rfl, hH2⟩)))
  · refine xw_ok hj (br_f (by decide) (xw_lakes hH2 (fun G' C' K' R0 hK hR => ?_)))
    dsimp only
    refine ⟨ft_vin hj, ?_⟩
    rw [ft_c hj]
    by_cases z : ft_W H (ft_L0 H) j ≤ H j
    · have k0 : K' j = 0 := by rw [hK j hj, if_pos z]
      have k1 : ¬ K' j = 1 := by rw [k0]; decide
      refine br_t k0 (yw_ok hj (br_t rfl (yw_lakeMarks hH2 (fun M0 hM => ?_))))
      dsimp only
      refine ⟨ft_vin hj, ?_⟩
      exact br_t ((ft_lake_dry (ft_lake (ft_lk0 hK hR hM)) hj).mpr k1) ⟨rfl, rfl, hH2⟩
    · have k1 : K' j = 1 := by rw [hK j hj, if_neg z]
      have k0 : ¬ K' j = 0 := by rw [k1]; decide
      refine br_f k0 ⟨65, xw_size28 hj (yw_ok hj (br_t rfl (yw_lakeMarks hH2 (fun M0 hM => ?_))))⟩
      have lk := ft_lake (ft_lk0 hK hR hM)
      dsimp only
      refine ⟨ft_vin hj, ?_⟩
      exact br_f (fun q => (ft_lake_dry lk hj).mp q k1) ⟨65, yw_size31 hj ⟨(ft_cnt_eq 64 (ft_lake_size lk hj k1)).symm, rfl, hH2⟩⟩
theorem i_vc_pass {k : Nat} {u : SX} {v : SY} (I : i_Rel k u v) (hk : k + 4 ≤ 2048) (v1 : Int32) (v2 : Int32) : wpX_pass (fun r u' => wpY_pass (fun r' v' => r' = r ∧ i_Rel (k + 4) u' v') v v1 v2) u v1 v2 := by
  obtain ⟨H, G, C, K, R, O⟩ := u
  obtain ⟨H', M⟩ := v
  obtain ⟨e, hH⟩ := I
  have e2 : H = H' := e
  subst e2
  have hH2 : ft_ok H := hH
  unfold wpX_pass wpY_pass
  dsimp only
  rcases ft_cell v1 with hb | ⟨a, ha, rfl⟩
  · exact xw_bad hb (br_t rfl (yw_bad hb (br_f (by decide) ⟨rfl, rfl, hH2⟩)))
  · refine xw_ok ha (br_f (by decide) ?_)
    rcases ft_cell v2 with hb | ⟨b, hbb, rfl⟩
    · exact xw_bad hb (br_t rfl (yw_ok ha (br_t rfl (yw_bad hb (br_f (by decide) ⟨rfl, rfl, hH2⟩)))))
    · refine xw_ok hbb (br_f (by decide) (xw_useHeights (fun G' hG => ?_)))
      dsimp only
      refine xw_from ha (fun C0 hC => ⟨ft_vin hbb, yw_ok ha (br_t rfl (yw_ok hbb (br_t rfl (yw_passes ha hH2 (fun M' hM => ⟨ft_vin hbb, ?_, rfl, hH2⟩)))))⟩)
      dsimp only
      rw [ft_c hbb, hM b hbb, ft_wx hG (ft_a0_G hG hC) (ft_a0_le hH2 a) b hbb]
theorem i_vc_reach {k : Nat} {u : SX} {v : SY} (I : i_Rel k u v) (hk : k + 4 ≤ 2048) (v1 : Int32) (v2 : Int32) : wpX_reach (fun r u' => wpY_reach (fun r' v' => r' = r ∧ i_Rel (k + 4) u' v') v v1 v2) u v1 v2 := by
  obtain ⟨H, G, C, K, R, O⟩ := u
  obtain ⟨H', M⟩ := v
  obtain ⟨e, hH⟩ := I
  have e2 : H = H' := e
  subst e2
  have hH2 : ft_ok H := hH
  unfold wpX_reach wpY_reach
  dsimp only
  rcases ft_cell v1 with hb | ⟨a, ha, rfl⟩
  · exact xw_bad hb (br_t rfl (yw_bad hb (br_f (by decide) ⟨rfl, rfl, hH2⟩)))
  · refine xw_ok ha (br_f (by decide) (xw_useHeights (fun G' hG => ?_)))
    dsimp only
    refine xw_from ha (fun C0 hC => ⟨65, xw_reach23 (yw_ok ha (br_t rfl (yw_passes ha hH2 (fun M' hM => ⟨65, yw_reach20 ⟨ft_cnt_eq 64 (fun c hc => ?_), rfl, hH2⟩⟩))))⟩)
    dsimp only
    rw [hM c hc, ft_wx hG (ft_a0_G hG hC) (ft_a0_le hH2 a) c hc]
theorem i_vc_prominence {k : Nat} {u : SX} {v : SY} (I : i_Rel k u v) (hk : k + 4 ≤ 2048) (v1 : Int32) : wpX_prominence (fun r u' => wpY_prominence (fun r' v' => r' = r ∧ i_Rel (k + 4) u' v') v v1) u v1 := by
  obtain ⟨H, G, C, K, R, O⟩ := u
  obtain ⟨H', M⟩ := v
  obtain ⟨e, hH⟩ := I
  have e2 : H = H' := e
  subst e2
  have hH2 : ft_ok H := hH
  unfold wpX_prominence
  dsimp only
  rcases ft_cell v1 with hb | ⟨a, ha, rfl⟩
  · refine xw_bad hb (br_t rfl ?_)
    unfold wpY_prominence
    dsimp only
    exact yw_bad hb (br_f (by decide) ⟨rfl, rfl, hH2⟩)
  · refine xw_ok ha (br_f (by decide) (xw_upside (fun G' hG => ?_)))
    dsimp only
    refine xw_from ha (fun C0 hC => ?_)
    dsimp only
    refine ⟨65, xw_prom23 ha (fun e => ?_) (fun e => ?_)⟩
    · refine yw_prominence ha (fun M0 hM z => ?_) (fun M0 hM z => ?_)
      · have d := ft_descent (h := H) (a := a) (ft_ud0 hH2 hG hC hM)
        rw [e, ft_100] at d
        rw [Int32.le_iff_toInt_le, ft_0] at z
        omega
      · exact ⟨by rw [← ft_low], rfl, hH2⟩
    · refine yw_prominence ha (fun M0 hM z => ?_) (fun M0 hM z => ?_)
      · have d := ft_descent (h := H) (a := a) (ft_ud0 hH2 hG hC hM)
        exact ⟨(ft_prom d.1 (by rw [hG a ha]; exact ft_99m (hH2 a).1 (hH2 a).2)).symm, rfl, hH2⟩
      · have d := ft_descent (h := H) (a := a) (ft_ud0 hH2 hG hC hM)
        refine absurd ?_ e
        rw [Int32.le_iff_toInt_le, ft_0] at z
        apply Int32.toInt_inj.mp
        rw [ft_100]
        omega
theorem i_vc_summits {k : Nat} {u : SX} {v : SY} (I : i_Rel k u v) (hk : k + 4 ≤ 2048) : wpX_summits (fun r u' => wpY_summits (fun r' v' => r' = r ∧ i_Rel (k + 4) u' v') v) u := by
  obtain ⟨H, G, C, K, R, O⟩ := u
  obtain ⟨H', M⟩ := v
  obtain ⟨e, hH⟩ := I
  have e2 : H = H' := e
  subst e2
  exact xw_summits (fun K' R0 O0 hK hR hO => yw_summits (fun M0 hM => ⟨ft_sum_eq hK hR hO hM, rfl, hH⟩))
end
