/-! rounds of relaxing: X's step by directions, Y's by the least (or the greatest) beside -/
def ft_rd (f : Nat → (Nat → Int32) → Nat → Int32) (g : Nat → Int32) : Nat → Int32 := ft_it (fun _ g => ft_it f 0 64 g) 0 64 g
theorem ft_jn_rd (K g : Nat → Int32) : ft_jn K g = ft_rd (ft_js K) g := rfl
theorem ft_rounds {f g : Nat → (Nat → Int32) → Nat → Int32} {I : (Nat → Int32) → (Nat → Int32) → Prop} (hs : ∀ i s t, i < 64 → I s t → I (f i s) (g i t)) {s t : Nat → Int32} (h : I s t) : I (ft_rd f s) (ft_rd g t) :=
  ft_it_rel (fun _ g => ft_it f 0 64 g) (fun _ s => ft_it g 0 64 s) (fun _ s t => I s t) 64
    (fun _ s t _ hst => ft_it_rel f g (fun _ s t => I s t) 64 hs 64 0 s t (by omega) hst) 64 0 s t (by omega) h
def ft_rv (h g : Nat → Int32) (c : Nat) : Nat → Int32
  | 0 => g c
  | d + 1 => if ft_nb c d = 64 then ft_rv h g c d else ft_mn (ft_rv h g c d) (ft_mx (g (ft_nb c d)) (h c))
theorem ft_rv_n {h g : Nat → Int32} {c d : Nat} (e : ft_nb c d = 64) : ft_rv h g c (d + 1) = ft_rv h g c d := if_pos e
theorem ft_rv_a {h g : Nat → Int32} {c d : Nat} (e : ¬ ft_nb c d = 64) : ft_rv h g c (d + 1) = ft_mn (ft_rv h g c d) (ft_mx (g (ft_nb c d)) (h c)) := if_neg e
def ft_lb (g : Nat → Int32) (c : Nat) : Nat → Int32
  | 0 => 100
  | d + 1 => if ft_nb c d = 64 then ft_lb g c d else ft_mn (ft_lb g c d) (g (ft_nb c d))
theorem ft_lb_n {g : Nat → Int32} {c d : Nat} (e : ft_nb c d = 64) : ft_lb g c (d + 1) = ft_lb g c d := if_pos e
theorem ft_lb_a {g : Nat → Int32} {c d : Nat} (e : ¬ ft_nb c d = 64) : ft_lb g c (d + 1) = ft_mn (ft_lb g c d) (g (ft_nb c d)) := if_neg e
def ft_mb (g : Nat → Int32) (c : Nat) : Nat → Int32
  | 0 => -1
  | d + 1 => if ft_nb c d = 64 then ft_mb g c d else ft_mx (ft_mb g c d) (g (ft_nb c d))
theorem ft_mb_n {g : Nat → Int32} {c d : Nat} (e : ft_nb c d = 64) : ft_mb g c (d + 1) = ft_mb g c d := if_pos e
theorem ft_mb_a {g : Nat → Int32} {c d : Nat} (e : ¬ ft_nb c d = 64) : ft_mb g c (d + 1) = ft_mx (ft_mb g c d) (g (ft_nb c d)) := if_neg e
def ft_xs (h : Nat → Int32) (c : Nat) (g : Nat → Int32) : Nat → Int32 := upd g c (ft_rv h g c 4)
def ft_ys (h : Nat → Int32) (c : Nat) (g : Nat → Int32) : Nat → Int32 := upd g c (ft_mn (g c) (ft_mx (h c) (ft_lb g c 4)))
def ft_ps (h : Nat → Int32) (c : Nat) (g : Nat → Int32) : Nat → Int32 := upd g c (ft_mx (g c) (ft_mn (h c) (ft_mb g c 4)))
def ft_sp (s t : Nat → Int32) : Prop := ∀ c, c < 64 → s c = t c ∧ (s c).toInt ≤ 100
theorem ft_sp_v {hx hy s t : Nat → Int32} {c : Nat} (hc : c < 64) (hh : hx c = hy c) (hst : ft_sp s t) : ∀ d, (ft_rv hx s c d).toInt = min (t c).toInt (max (hy c).toInt (ft_lb t c d).toInt) := by
  have h0 := hst c hc
  intro d
  induction d with
  | zero =>
    show (s c).toInt = min (t c).toInt (max (hy c).toInt (100 : Int32).toInt)
    rw [← h0.1, ft_100]
    have := h0.2
    omega
  | succ d ih =>
    by_cases e : ft_nb c d = 64
    · rw [ft_rv_n e, ft_lb_n e]; exact ih
    · have h1 := hst _ (ft_nb_lt hc e)
      rw [ft_rv_a e, ft_lb_a e, ft_mn_i, ft_mx_i, ft_mn_i, ih, h1.1, hh]
      omega
theorem ft_spread {hx hy s t : Nat → Int32} (hh : ∀ c, c < 64 → hx c = hy c) (hst : ft_sp s t) : ft_sp (ft_rd (ft_xs hx) s) (ft_rd (ft_ys hy) t) := by
  refine ft_rounds (I := ft_sp) (fun i s t hi hst c hc => ?_) hst
  by_cases hci : c = i
  · subst hci
    have z1 : ft_xs hx c s c = ft_rv hx s c 4 := pk_us
    have z2 : ft_ys hy c t c = ft_mn (t c) (ft_mx (hy c) (ft_lb t c 4)) := pk_us
    have h4 := ft_sp_v hc (hh c hc) hst 4
    have h0 := hst c hc
    rw [z1, z2]
    refine ⟨Int32.toInt_inj.mp ?_, ?_⟩
    · rw [h4, ft_mn_i, ft_mx_i]
    · rw [h4, ← h0.1]
      have := h0.2
      omega
  · have z1 : ft_xs hx i s c = s c := pk_un hci
    have z2 : ft_ys hy i t c = t c := pk_un hci
    rw [z1, z2]
    exact hst c hc
/-- upside down -/
def ft_ud (s t : Nat → Int32) : Prop := ∀ c, c < 64 → (s c).toInt = 99 - (t c).toInt ∧ -1 ≤ (t c).toInt ∧ (t c).toInt ≤ 99
theorem ft_ud_v {gr h s t : Nat → Int32} {c : Nat} (hc : c < 64) (hg : (gr c).toInt = 99 - (h c).toInt) (hst : ft_ud s t) : ∀ d, (ft_rv gr s c d).toInt = 99 - max (t c).toInt (min (h c).toInt (ft_mb t c d).toInt) := by
  have h0 := hst c hc
  intro d
  induction d with
  | zero =>
    show (s c).toInt = 99 - max (t c).toInt (min (h c).toInt (-1 : Int32).toInt)
    rw [ft_m1]
    omega
  | succ d ih =>
    by_cases e : ft_nb c d = 64
    · rw [ft_rv_n e, ft_mb_n e]; exact ih
    · have h1 := hst _ (ft_nb_lt hc e)
      rw [ft_rv_a e, ft_mb_a e, ft_mn_i, ft_mx_i, ft_mx_i, ih, h1.1, hg]
      omega
theorem ft_updown {gr h s t : Nat → Int32} (hh : ∀ c, c < 64 → (gr c).toInt = 99 - (h c).toInt ∧ (h c).toInt ≤ 99) (hst : ft_ud s t) : ft_ud (ft_rd (ft_xs gr) s) (ft_rd (ft_ps h) t) := by
  refine ft_rounds (I := ft_ud) (fun i s t hi hst c hc => ?_) hst
  by_cases hci : c = i
  · subst hci
    have z1 : ft_xs gr c s c = ft_rv gr s c 4 := pk_us
    have z2 : ft_ps h c t c = ft_mx (t c) (ft_mn (h c) (ft_mb t c 4)) := pk_us
    have h4 := ft_ud_v hc (hh c hc).1 hst 4
    have h0 := hst c hc
    have h5 := (hh c hc).2
    rw [z1, z2, h4, ft_mx_i, ft_mn_i]
    omega
  · have z1 : ft_xs gr i s c = s c := pk_un hci
    have z2 : ft_ps h i t c = t c := pk_un hci
    rw [z1, z2]
    exact hst c hc
/-- lakes: labels over two kinds against labels with 100 where it is dry -/
def ft_ly (c : Nat) (g : Nat → Int32) : Nat → Int32 := if g c < 100 then upd g c (ft_mn (g c) (ft_lb g c 4)) else g
def ft_lk (K s t : Nat → Int32) : Prop := ∀ c, c < 64 → (∃ m, m < 64 ∧ s c = nI m ∧ K m = K c) ∧ (K c = 1 → t c = s c) ∧ (¬ K c = 1 → t c = 100)
theorem ft_lk_v {K s t : Nat → Int32} {c : Nat} (hc : c < 64) (hk : K c = 1) (hst : ft_lk K s t) : ∀ d, (ft_av K s c d).toInt = min (t c).toInt (ft_lb t c d).toInt ∧ (ft_lb t c d).toInt ≤ 100 := by
  obtain ⟨⟨m, hm, em, _⟩, h1, _⟩ := hst c hc
  have e1 := h1 hk
  have e2 : (s c).toInt = (m : Int) := by rw [em]; exact ft_nI_i hm
  intro d
  induction d with
  | zero =>
    show (s c).toInt = min (t c).toInt (100 : Int32).toInt ∧ (100 : Int32).toInt ≤ 100
    rw [e1, ft_100, e2]
    omega
  | succ d ih =>
    by_cases e : ft_nb c d = 64
    · rw [ft_av_n e, ft_lb_n e]; exact ih
    · obtain ⟨⟨m2, hm2, em2, _⟩, h3, h4⟩ := hst _ (ft_nb_lt hc e)
      by_cases k : K (ft_nb c d) = K c
      · rw [ft_av_a e k, ft_lb_a e, ft_mn_i, ft_mn_i, ih.1, h3 (k.trans hk)]
        have := ih.2
        omega
      · have k2 : ¬ K (ft_nb c d) = 1 := fun z => k (z.trans hk.symm)
        rw [ft_av_o e k, ft_lb_a e, ft_mn_i, ih.1, h4 k2, ft_100]
        have := ih.2
        omega
theorem ft_lake {K s t : Nat → Int32} (hst : ft_lk K s t) : ft_lk K (ft_jn K s) (ft_rd ft_ly t) := by
  rw [ft_jn_rd]
  refine ft_rounds (I := ft_lk K) (fun i s t hi hst c hc => ?_) hst
  have hsrc : ∃ m, m < 64 ∧ ft_js K i s c = nI m ∧ K m = K c := by
    by_cases hci : c = i
    · subst hci
      have z1 : ft_js K c s c = ft_av K s c 4 := pk_us
      rw [z1]
      refine ft_av_src (Q := fun v => ∃ m, m < 64 ∧ v = nI m ∧ K m = K c) (hst c hc).1 (fun b e => ?_) 4 (Nat.le_refl 4)
      obtain ⟨m, hm, em, km⟩ := (hst b (ft_E_lt hc e)).1
      obtain ⟨d, _, _, _, kb⟩ := e
      exact ⟨m, hm, em, km.trans kb⟩
    · have z1 : ft_js K i s c = s c := pk_un hci
      rw [z1]
      exact (hst c hc).1
  refine ⟨hsrc, ?_⟩
  by_cases hci : c = i
  · subst hci
    obtain ⟨⟨m, hm, em, _⟩, h1, h2⟩ := hst c hc
    refine ⟨fun hk => ?_, fun hk => ?_⟩
    · have e1 := h1 hk
      have lt : t c < 100 := by
        rw [Int32.lt_iff_toInt_lt, e1, em, ft_nI_i hm, ft_100]
        omega
      have z1 : ft_js K c s c = ft_av K s c 4 := pk_us
      have z2 : ft_ly c t c = ft_mn (t c) (ft_lb t c 4) := (congrFun (if_pos lt) c).trans pk_us
      rw [z1, z2]
      apply Int32.toInt_inj.mp
      rw [(ft_lk_v hc hk hst 4).1, ft_mn_i]
    · have e1 := h2 hk
      have nlt : ¬ t c < 100 := by
        rw [Int32.lt_iff_toInt_lt, e1]
        omega
      have z2 : ft_ly c t c = t c := congrFun (if_neg nlt) c
      rw [z2]
      exact e1
  · have z1 : ft_js K i s c = s c := pk_un hci
    have z2 : ft_ly i t c = t c := by
      unfold ft_ly
      by_cases l : t i < 100
      · rw [if_pos l, pk_un hci]
      · rw [if_neg l]
    rw [z1, z2]
    exact (hst c hc).2
theorem ft_lake_count {K s t : Nat → Int32} (hst : ft_lk K s t) : ∀ c, c < 64 → ((K c = 1 ∧ s c = nI c) ↔ t c = nI c) := by
  intro c hc
  obtain ⟨_, h1, h2⟩ := hst c hc
  by_cases k : K c = 1
  · rw [h1 k]
    exact ⟨fun z => z.2, fun z => ⟨k, z⟩⟩
  · refine ⟨fun z => absurd z.1 k, fun z => ?_⟩
    have e := congrArg Int32.toInt ((h2 k).symm.trans z)
    rw [ft_100, ft_nI_i hc] at e
    omega
theorem ft_lake_dry {K s t : Nat → Int32} (hst : ft_lk K s t) {c : Nat} (hc : c < 64) : t c = 100 ↔ ¬ K c = 1 := by
  obtain ⟨⟨m, hm, em, _⟩, h1, h2⟩ := hst c hc
  refine ⟨fun z k => ?_, h2⟩
  have e := congrArg Int32.toInt (em.symm.trans ((h1 k).symm.trans z))
  rw [ft_100, ft_nI_i hm] at e
  omega
theorem ft_lake_size {K s t : Nat → Int32} (hst : ft_lk K s t) {a : Nat} (ha : a < 64) (ka : K a = 1) : ∀ c, c < 64 → (s c = s a ↔ t c = t a) := by
  intro c hc
  obtain ⟨⟨m, hm, em, km⟩, h1, h2⟩ := hst c hc
  obtain ⟨⟨m2, hm2, em2, km2⟩, h3, _⟩ := hst a ha
  by_cases k : K c = 1
  · rw [h1 k, h3 ka]
  · refine ⟨fun z => ?_, fun z => ?_⟩
    · rw [em, em2] at z
      have e := (nI_eq (by omega) (by omega)).mp z
      subst e
      exact absurd (km.symm.trans (km2.trans ka)) k
    · rw [h2 k, h3 ka, em2] at z
      have e := congrArg Int32.toInt z
      rw [ft_100, ft_nI_i hm2] at e
      omega
