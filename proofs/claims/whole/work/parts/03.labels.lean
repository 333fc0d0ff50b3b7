/-! least labels: one step, a sweep, 64 sweeps; they settle -/
def ft_av (K g : Nat → Int32) (c : Nat) : Nat → Int32
  | 0 => g c
  | d + 1 => if ft_nb c d = 64 then ft_av K g c d else if K (ft_nb c d) = K c then ft_mn (ft_av K g c d) (g (ft_nb c d)) else ft_av K g c d
theorem ft_av_n {K g : Nat → Int32} {c d : Nat} (h : ft_nb c d = 64) : ft_av K g c (d + 1) = ft_av K g c d := if_pos h
theorem ft_av_a {K g : Nat → Int32} {c d : Nat} (h : ¬ ft_nb c d = 64) (k : K (ft_nb c d) = K c) : ft_av K g c (d + 1) = ft_mn (ft_av K g c d) (g (ft_nb c d)) := (if_neg h).trans (if_pos k)
theorem ft_av_o {K g : Nat → Int32} {c d : Nat} (h : ¬ ft_nb c d = 64) (k : ¬ K (ft_nb c d) = K c) : ft_av K g c (d + 1) = ft_av K g c d := (if_neg h).trans (if_neg k)
def ft_js (K : Nat → Int32) (c : Nat) (g : Nat → Int32) : Nat → Int32 := upd g c (ft_av K g c 4)
def ft_sw (K : Nat → Int32) (g : Nat → Int32) : Nat → Int32 := ft_it (ft_js K) 0 64 g
def ft_jn (K : Nat → Int32) (g : Nat → Int32) : Nat → Int32 := ft_it (fun _ g => ft_sw K g) 0 64 g
theorem ft_av_step {K g : Nat → Int32} {c d : Nat} : (ft_av K g c (d + 1)).toInt ≤ (ft_av K g c d).toInt := by
  by_cases h : ft_nb c d = 64
  · rw [ft_av_n h]; omega
  · by_cases k : K (ft_nb c d) = K c
    · rw [ft_av_a h k, ft_mn_i]; omega
    · rw [ft_av_o h k]; omega
theorem ft_av_le0 {K g : Nat → Int32} {c : Nat} : ∀ d, (ft_av K g c d).toInt ≤ (g c).toInt := by
  intro d
  induction d with
  | zero => exact Int.le_refl _
  | succ d ih => have := @ft_av_step K g c d; omega
theorem ft_av_le {K g : Nat → Int32} {c e : Nat} (h : ¬ ft_nb c e = 64) (k : K (ft_nb c e) = K c) : ∀ d, e < d → (ft_av K g c d).toInt ≤ (g (ft_nb c e)).toInt := by
  intro d
  induction d with
  | zero => intro hd; omega
  | succ d ih =>
    intro hd
    by_cases hde : e = d
    · subst hde; rw [ft_av_a h k, ft_mn_i]; omega
    · have h1 := ih (by omega)
      have h2 := @ft_av_step K g c d
      omega
/-- where a label comes from -/
theorem ft_av_src {K g : Nat → Int32} {c : Nat} {Q : Int32 → Prop} (h0 : Q (g c)) (h1 : ∀ b, ft_E K c b → Q (g b)) : ∀ d, d ≤ 4 → Q (ft_av K g c d) := by
  intro d
  induction d with
  | zero => intro _; exact h0
  | succ d ih =>
    intro hd
    have i := ih (by omega)
    by_cases h : ft_nb c d = 64
    · rw [ft_av_n h]; exact i
    · by_cases k : K (ft_nb c d) = K c
      · rw [ft_av_a h k]
        unfold ft_mn
        by_cases l : ft_av K g c d < g (ft_nb c d)
        · rw [if_pos l]; exact i
        · rw [if_neg l]; exact h1 _ ⟨d, by omega, rfl, h, k⟩
      · rw [ft_av_o h k]; exact i
theorem ft_js_le {K g : Nat → Int32} {c j : Nat} : (ft_js K c g j).toInt ≤ (g j).toInt := by
  unfold ft_js
  by_cases h : j = c
  · subst h; rw [pk_us]; exact ft_av_le0 4
  · rw [pk_un h]; exact Int.le_refl _
theorem ft_sw_le (K g : Nat → Int32) : (∀ c, (ft_sw K g c).toInt ≤ (g c).toInt) ∧ ∀ c b, c < 64 → ft_E K c b → (ft_sw K g c).toInt ≤ (g b).toInt := by
  have h := ft_it_inv (ft_js K) (fun i s => (∀ c, (s c).toInt ≤ (g c).toInt) ∧ ∀ c b, c < i → ft_E K c b → (s c).toInt ≤ (g b).toInt) 64 (by
    intro i s _ ⟨h1, h2⟩
    refine ⟨fun c => ?_, fun c b hc e => ?_⟩
    · have a := @ft_js_le K s i c
      have b := h1 c
      omega
    · by_cases hci : c = i
      · subst hci
        obtain ⟨d, hd, eb, n, k⟩ := e
        subst eb
        have a := @ft_av_le K s c d n k 4 hd
        have b := h1 (ft_nb c d)
        have z : ft_js K c s c = ft_av K s c 4 := pk_us
        rw [z]
        omega
      · have a := @ft_js_le K s i c
        have b := h2 c b (by omega) e
        omega) 64 0 g (by omega) ⟨fun _ => Int.le_refl _, fun c _ hc => absurd hc (Nat.not_lt_zero c)⟩
  exact h
/-- what holds of a label and goes along, holds after a sweep -/
theorem ft_sw_src {K g : Nat → Int32} {Q : Nat → Int32 → Prop} (hQ : ∀ a b v, a < 64 → ft_E K a b → Q b v → Q a v) (h0 : ∀ c, c < 64 → Q c (g c)) : ∀ c, c < 64 → Q c (ft_sw K g c) := by
  refine ft_it_inv (ft_js K) (fun _ s => ∀ c, c < 64 → Q c (s c)) 64 (fun i s hi h c hc => ?_) 64 0 g (by omega) h0
  by_cases hci : c = i
  · subst hci
    have z : ft_js K c s c = ft_av K s c 4 := pk_us
    rw [z]
    exact ft_av_src (Q := Q c) (h c hc) (fun b e => hQ c b _ hc e (h b (ft_E_lt hc e))) 4 (Nat.le_refl 4)
  · have z : ft_js K i s c = s c := pk_un hci
    rw [z]
    exact h c hc
theorem ft_jn_src {K g : Nat → Int32} {Q : Nat → Int32 → Prop} (hQ : ∀ a b v, a < 64 → ft_E K a b → Q b v → Q a v) (h0 : ∀ c, c < 64 → Q c (g c)) : ∀ c, c < 64 → Q c (ft_jn K g c) :=
  ft_it_inv (fun _ g => ft_sw K g) (fun _ s => ∀ c, c < 64 → Q c (s c)) 64 (fun _ _ _ h => ft_sw_src hQ h) 64 0 g (by omega) h0
theorem ft_jn_le {K g : Nat → Int32} : ∀ c, (ft_jn K g c).toInt ≤ (g c).toInt :=
  ft_it_inv (fun _ g => ft_sw K g) (fun _ s => ∀ c, (s c).toInt ≤ (g c).toInt) 64 (fun _ s _ h c => Int.le_trans ((ft_sw_le K s).1 c) (h c)) 64 0 g (by omega) (fun _ => Int.le_refl _)
/-- closed below t -/
def ft_cl (K L : Nat → Int32) (t : Int) : Prop := ∀ a b, a < 64 → ft_E K a b → (L a).toInt ≤ t → (L b).toInt ≤ t
theorem ft_cl_sw {K L : Nat → Int32} {t : Int} (h : ft_cl K L t) : ft_cl K (ft_sw K L) t := by
  have hs := ft_sw_le K L
  have hq := ft_sw_src (K := K) (g := L) (Q := fun c v => v.toInt ≤ t → (L c).toInt ≤ t) (by
    intro a b v ha e hb hv
    exact h b a (ft_E_lt ha e) (ft_E_sym ha e) (hb hv)) (fun _ _ z => z)
  intro a b ha e z
  have := h a b ha e (hq a ha z)
  have := hs.1 b
  omega
def ft_un (L : Nat → Int32) (t : Int) : Nat → Bool := fun c => decide ((L c).toInt ≤ t)
theorem ft_settle (K g : Nat → Int32) : ∀ t : Int, ft_cl K (ft_jn K g) t := by
  have h := ft_it_inv (fun _ g => ft_sw K g) (fun k L => ∀ t : Int, ft_cl K L t ∨ k + 1 ≤ ft_cn (ft_un L t) 64) 64 (by
    intro k L _ h t
    by_cases hc : ft_cl K L t
    · exact Or.inl (ft_cl_sw hc)
    · right
      have hn := (h t).resolve_left hc
      have hs := ft_sw_le K L
      have : ∃ a b, a < 64 ∧ ft_E K a b ∧ (L a).toInt ≤ t ∧ ¬ (L b).toInt ≤ t := by
        apply Classical.byContradiction
        intro hno
        exact hc (fun a b ha e z => Classical.byContradiction (fun hb => hno ⟨a, b, ha, e, z, hb⟩))
      obtain ⟨a, b, ha, e, z, hb⟩ := this
      have hlt := ft_E_lt ha e
      have h1 := hs.2 b a hlt (ft_E_sym ha e)
      have h2 := ft_cn_strict (p := ft_un L t) (q := ft_un (ft_sw K L) t) (j := b) (by unfold ft_un; simpa using hb) (by unfold ft_un; simp only [decide_eq_true_eq]; omega) 64 hlt (by
        intro i _ hi
        have h3 := hs.1 i
        unfold ft_un at hi ⊢
        simp only [decide_eq_true_eq] at hi ⊢
        omega)
      omega) 64 0 g (by omega) (by
    intro t
    by_cases hc : ft_cl K g t
    · exact Or.inl hc
    · right
      have : ∃ a, a < 64 ∧ (g a).toInt ≤ t := by
        apply Classical.byContradiction
        intro hno
        exact hc (fun a b ha e z => absurd ⟨a, ha, z⟩ hno)
      obtain ⟨a, ha, z⟩ := this
      have := ft_cn_pos (p := ft_un g t) (j := a) (by unfold ft_un; simp only [decide_eq_true_eq]; exact z) 64 ha
      omega)
  intro t
  rcases h t with h1 | h1
  · exact h1
  · have := ft_cn_le (ft_un (ft_it (fun _ g => ft_sw K g) 0 64 g) t) 64
    omega
theorem ft_settled {K g : Nat → Int32} {a b : Nat} (ha : a < 64) (e : ft_E K a b) : ft_jn K g a = ft_jn K g b := by
  have h1 := ft_settle K g (ft_jn K g a).toInt a b ha e (Int.le_refl _)
  have h2 := ft_settle K g (ft_jn K g b).toInt b a (ft_E_lt ha e) (ft_E_sym ha e) (Int.le_refl _)
  exact Int32.toInt_inj.mp (by omega)
/-- a function that goes along with the kinds -/
def ft_F (K F : Nat → Int32) : Prop := ∀ a b, a < 64 → ft_E K a b → F a = F b
theorem ft_jn_F (K g : Nat → Int32) : ft_F K (ft_jn K g) := fun _ _ ha e => ft_settled ha e
/-- the labels of cells themselves -/
theorem ft_lab {K g : Nat → Int32} (h0 : ∀ c, c < 64 → g c = nI c) : ∀ c, c < 64 → ∃ m, m < 64 ∧ ft_jn K g c = nI m ∧ ∀ F, ft_F K F → F m = F c :=
  ft_jn_src (Q := fun c v => ∃ m, m < 64 ∧ v = nI m ∧ ∀ F, ft_F K F → F m = F c)
    (fun a b _ ha e ⟨m, hm, hv, hF⟩ => ⟨m, hm, hv, fun F f => (hF F f).trans (f a b ha e).symm⟩)
    (fun c hc => ⟨c, hc, h0 c hc, fun _ _ => rfl⟩)
theorem ft_nI_i {n : Nat} (h : n < 64) : (nI n).toInt = (n : Int) := nI_toInt (by omega)
/-- summits: least labels and a mark against labels that are -1 where something is higher -/
theorem ft_summit {K g m0 : Nat → Int32} {hi : Nat → Prop} (h0 : ∀ c, c < 64 → g c = nI c) (h1 : ∀ c, c < 64 → hi c → m0 c = -1) (h2 : ∀ c, c < 64 → ¬ hi c → m0 c = nI c) :
    ∀ c, c < 64 → ((ft_jn K g c = nI c ∧ ¬ ∃ d, d < 64 ∧ ft_jn K g d = nI c ∧ hi d) ↔ ft_jn K m0 c = nI c) := by
  have hl := ft_lab (K := K) h0
  have hm : ∀ c, c < 64 → (ft_jn K m0 c = -1 ∧ ∃ d, d < 64 ∧ hi d ∧ ∀ F, ft_F K F → F d = F c) ∨ (∃ m, m < 64 ∧ ft_jn K m0 c = nI m ∧ ∀ F, ft_F K F → F m = F c) :=
    ft_jn_src (Q := fun c v => (v = -1 ∧ ∃ d, d < 64 ∧ hi d ∧ ∀ F, ft_F K F → F d = F c) ∨ (∃ m, m < 64 ∧ v = nI m ∧ ∀ F, ft_F K F → F m = F c))
      (by
        intro a b v ha e h
        rcases h with ⟨hv, d, hd, hh, hF⟩ | ⟨m, hm, hv, hF⟩
        · exact Or.inl ⟨hv, d, hd, hh, fun F f => (hF F f).trans (f a b ha e).symm⟩
        · exact Or.inr ⟨m, hm, hv, fun F f => (hF F f).trans (f a b ha e).symm⟩)
      (by
        intro c hc
        by_cases hh : hi c
        · exact Or.inl ⟨h1 c hc hh, c, hc, hh, fun _ _ => rfl⟩
        · exact Or.inr ⟨c, hc, h2 c hc hh, fun _ _ => rfl⟩)
  have hml : ∀ c, c < 64 → (ft_jn K m0 c).toInt ≤ (c : Int) := by
    intro c hc
    have h := @ft_jn_le K m0 c
    by_cases hh : hi c
    · rw [h1 c hc hh, ft_m1] at h; omega
    · rw [h2 c hc hh, ft_nI_i hc] at h; exact h
  intro c hc
  constructor
  · intro ⟨hg, hno⟩
    rcases hm c hc with ⟨_, d, hd, hh, hF⟩ | ⟨m, hmm, hv, hF⟩
    · exact absurd ⟨d, hd, (hF _ (ft_jn_F K g)).trans hg, hh⟩ hno
    · have e1 := hF _ (ft_jn_F K g)
      rw [hg] at e1
      have e2 := @ft_jn_le K g m
      rw [e1, h0 m hmm, ft_nI_i hmm, ft_nI_i hc] at e2
      have e3 := hml c hc
      rw [hv, ft_nI_i hmm] at e3
      rw [hv]
      exact congrArg nI (by omega)
  · intro hv
    obtain ⟨m, hmm, hg, hF⟩ := hl c hc
    have e1 := hF _ (ft_jn_F K m0)
    rw [hv] at e1
    have e2 := hml m hmm
    rw [e1, ft_nI_i hc] at e2
    have e3 := @ft_jn_le K g c
    rw [hg, h0 c hc, ft_nI_i hmm, ft_nI_i hc] at e3
    have e4 : m = c := by omega
    subst e4
    refine ⟨hg, ?_⟩
    intro ⟨d, hd, hgd, hh⟩
    obtain ⟨m2, hm2, hg2, hF2⟩ := hl d hd
    have e5 : m2 = m := by
      rw [hg2] at hgd
      exact (nI_eq (by omega) (by omega)).mp hgd
    subst e5
    have e6 := hF2 _ (ft_jn_F K m0)
    have e7 := @ft_jn_le K m0 d
    rw [h1 d hd hh, ← e6, hv, ft_m1, ft_nI_i hm2] at e7
    omega
