/-! the lesser and the greater of two ints; iteration; neighbours; counting -/
def ft_mn (a b : Int32) : Int32 := if a < b then a else b
def ft_mx (a b : Int32) : Int32 := if b < a then a else b
theorem ft_mn_i (a b : Int32) : (ft_mn a b).toInt = min a.toInt b.toInt := by
  unfold ft_mn
  by_cases h : a < b
  · rw [if_pos h]; rw [Int32.lt_iff_toInt_lt] at h; omega
  · rw [if_neg h]; rw [Int32.lt_iff_toInt_lt] at h; omega
theorem ft_mx_i (a b : Int32) : (ft_mx a b).toInt = max a.toInt b.toInt := by
  unfold ft_mx
  by_cases h : b < a
  · rw [if_pos h]; rw [Int32.lt_iff_toInt_lt] at h; omega
  · rw [if_neg h]; rw [Int32.lt_iff_toInt_lt] at h; omega
theorem ft_100 : (100 : Int32).toInt = 100 := by decide
theorem ft_99 : (99 : Int32).toInt = 99 := by decide
theorem ft_m1 : (-1 : Int32).toInt = -1 := by decide
theorem ft_0 : (0 : Int32).toInt = 0 := by decide
def ft_it {S : Type} (f : Nat → S → S) : Nat → Nat → S → S
  | _, 0, s => s
  | i, d + 1, s => ft_it f (i + 1) d (f i s)
theorem ft_it_inv {S : Type} (f : Nat → S → S) (I : Nat → S → Prop) (e : Nat) (hs : ∀ i s, i < e → I i s → I (i + 1) (f i s)) : ∀ d i s, i + d = e → I i s → I e (ft_it f i d s) := by
  intro d
  induction d with
  | zero => intro i s h hi; cases h; exact hi
  | succ d ih => intro i s h hi; exact ih (i + 1) (f i s) (by omega) (hs i s (by omega) hi)
theorem ft_it_rel {S T : Type} (f : Nat → S → S) (g : Nat → T → T) (I : Nat → S → T → Prop) (e : Nat) (hs : ∀ i s t, i < e → I i s t → I (i + 1) (f i s) (g i t)) : ∀ d i s t, i + d = e → I i s t → I e (ft_it f i d s) (ft_it g i d t) := by
  intro d
  induction d with
  | zero => intro i s t h hi; cases h; exact hi
  | succ d ih => intro i s t h hi; exact ih (i + 1) (f i s) (g i t) (by omega) (hs i s t (by omega) hi)
theorem ft_it_loop {S : Type} (W : Nat → Nat → S → Prop) (f : Nat → S → S) (e : Nat) (P : S → Prop) (hx : ∀ n s, P s → W (n + 1) e s) (hs : ∀ n i s, i < e → W n (i + 1) (f i s) → W (n + 1) i s) : ∀ d i s, i + d = e → P (ft_it f i d s) → W (d + 1) i s := by
  intro d
  induction d with
  | zero => intro i s h hp; cases h; exact hx 0 s hp
  | succ d ih => intro i s h hp; exact hs (d + 1) i s (by omega) (ih (i + 1) (f i s) (by omega) hp)
/-- a loop that fills an array, each cell from its own old value -/
theorem ft_fill (e : Nat → Int32 → Int32) (N : Nat) (a : Nat → Int32) : ∀ j, j < N → ft_it (fun c s => upd s c (e c (s c))) 0 N a j = e j (a j) := by
  have h := ft_it_inv (fun c s => upd s c (e c (s c))) (fun i s => (∀ j, j < i → s j = e j (a j)) ∧ ∀ j, i ≤ j → s j = a j) N (by
    intro i s _ ⟨h1, h2⟩
    refine ⟨fun j hj => ?_, fun j hj => ?_⟩
    · by_cases hji : j = i
      · subst hji; show upd s j (e j (s j)) j = _; rw [pk_us, h2 j (Nat.le_refl j)]
      · show upd s i (e i (s i)) j = _; rw [pk_un hji]; exact h1 j (by omega)
    · show upd s i (e i (s i)) j = _; rw [pk_un (by omega)]; exact h2 j (by omega)) N 0 a (by omega) ⟨fun j hj => absurd hj (Nat.not_lt_zero j), fun _ _ => rfl⟩
  exact h.1
/-- counting, over any condition -/
noncomputable def ft_ct (p : Nat → Prop) (i : Nat) (n : Int32) : Int32 := @ite _ (p i) (Classical.propDecidable _) (n + 1) n
theorem ft_ct_t {p : Nat → Prop} {i : Nat} {n : Int32} (h : p i) : ft_ct p i n = n + 1 := if_pos h
theorem ft_ct_f {p : Nat → Prop} {i : Nat} {n : Int32} (h : ¬ p i) : ft_ct p i n = n := if_neg h
noncomputable def ft_cnt (p : Nat → Prop) (N : Nat) : Int32 := ft_it (ft_ct p) 0 N 0
theorem ft_cnt_eq {p q : Nat → Prop} (N : Nat) (h : ∀ i, i < N → (p i ↔ q i)) : ft_cnt p N = ft_cnt q N := by
  refine ft_it_rel (ft_ct p) (ft_ct q) (fun _ s t => s = t) N (fun i s t hi e => ?_) N 0 0 0 (by omega) rfl
  cases e
  by_cases hp : p i
  · rw [ft_ct_t hp, ft_ct_t ((h i hi).mp hp)]
  · rw [ft_ct_f hp, ft_ct_f (fun hq => hp ((h i hi).mpr hq))]
/-- the neighbours: 64 where there is none -/
def ft_nb (c d : Nat) : Nat :=
  if d = 0 then (if c < 8 then 64 else c - 8)
  else if d = 1 then (if 55 < c then 64 else c + 8)
  else if d = 2 then (if c % 8 = 0 then 64 else c - 1)
  else (if c % 8 = 7 then 64 else c + 1)
def ft_od (d : Nat) : Nat := if d = 0 then 1 else if d = 1 then 0 else if d = 2 then 3 else 2
theorem ft_nb_le {c d : Nat} (hc : c < 64) : ft_nb c d ≤ 64 := by
  unfold ft_nb
  repeat' split
  all_goals omega
theorem ft_nb_lt {c d : Nat} (hc : c < 64) (h : ¬ ft_nb c d = 64) : ft_nb c d < 64 := by
  have := ft_nb_le (d := d) hc
  omega
theorem ft_nb_ne {c d : Nat} (hc : c < 64) : ft_nb c d ≠ c := by
  unfold ft_nb
  repeat' split
  all_goals omega
theorem ft_od_lt (d : Nat) : ft_od d < 4 := by
  unfold ft_od
  repeat' split
  all_goals omega
theorem ft_nb_sym : ∀ c, c < 64 → ∀ d, d < 4 → ft_nb c d ≠ 64 → ft_nb (ft_nb c d) (ft_od d) = c := by decide +kernel
/-- beside it, and of one kind -/
def ft_E (K : Nat → Int32) (a b : Nat) : Prop := ∃ d, d < 4 ∧ ft_nb a d = b ∧ b ≠ 64 ∧ K b = K a
theorem ft_E_lt {K : Nat → Int32} {a b : Nat} (ha : a < 64) (h : ft_E K a b) : b < 64 := by
  obtain ⟨d, _, e, n, _⟩ := h
  subst e
  exact ft_nb_lt ha n
theorem ft_E_sym {K : Nat → Int32} {a b : Nat} (ha : a < 64) (h : ft_E K a b) : ft_E K b a := by
  obtain ⟨d, hd, e, n, k⟩ := h
  refine ⟨ft_od d, ft_od_lt d, ?_, by omega, k.symm⟩
  rw [← e]
  exact ft_nb_sym a ha d hd (by rw [e]; exact n)
/-- counting naturals -/
def ft_cn (p : Nat → Bool) : Nat → Nat
  | 0 => 0
  | n + 1 => ft_cn p n + (if p n = true then 1 else 0)
theorem ft_cn_le (p : Nat → Bool) : ∀ n, ft_cn p n ≤ n := by
  intro n
  induction n with
  | zero => exact Nat.le_refl 0
  | succ n ih => unfold ft_cn; split <;> omega
theorem ft_cn_mono {p q : Nat → Bool} : ∀ n, (∀ i, i < n → p i = true → q i = true) → ft_cn p n ≤ ft_cn q n := by
  intro n
  induction n with
  | zero => intro _; exact Nat.le_refl 0
  | succ n ih =>
    intro h
    have h1 := ih (fun i hi => h i (by omega))
    have h2 := h n (by omega)
    unfold ft_cn
    by_cases hp : p n = true
    · rw [if_pos hp, if_pos (h2 hp)]; omega
    · rw [if_neg hp]; omega
theorem ft_cn_strict {p q : Nat → Bool} {j : Nat} (hp : ¬ p j = true) (hq : q j = true) : ∀ n, j < n → (∀ i, i < n → p i = true → q i = true) → ft_cn p n + 1 ≤ ft_cn q n := by
  intro n
  induction n with
  | zero => intro h; omega
  | succ n ih =>
    intro hj h
    by_cases hn : j = n
    · subst hn
      have h1 := ft_cn_mono j (fun i hi => h i (by omega))
      unfold ft_cn
      rw [if_neg hp, if_pos hq]
      omega
    · have h1 := ih (by omega) (fun i hi => h i (by omega))
      have h2 := h n (by omega)
      unfold ft_cn
      by_cases hpn : p n = true
      · rw [if_pos hpn, if_pos (h2 hpn)]; omega
      · rw [if_neg hpn]; omega
theorem ft_cn_pos {p : Nat → Bool} {j : Nat} (hp : p j = true) (n : Nat) (hj : j < n) : 1 ≤ ft_cn p n := by
  have h := ft_cn_strict (p := fun _ => false) (q := p) (j := j) Bool.false_ne_true hp n hj (fun _ _ h => absurd h Bool.false_ne_true)
  omega
