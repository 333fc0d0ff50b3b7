/-! Y's private methods -/
theorem ft_neg1 : (-1 : Int32) < 0 := by decide
theorem ft_nneg {i : Nat} (h : i < 64) : ¬ nI i < 0 := nI_pos (by omega)
theorem yw_lb {post : Int32 → Prop} {H M : Nat → Int32} {c : Nat} (hc : c < 64) (h : post (ft_lb M c 4)) : wpY_leastBeside post (H, M) (nI c) := by
  refine ⟨5, ft_iv_loop (fun n i (s : Int32) => wY_leastBeside_5 post (nI c) H M n s (nI i)) (fun i s => s = ft_lb M c i) 4 ?_ ?_ 4 0 100 (by omega) rfl⟩
  · intro n s e
    subst e
    exact br_t ft_g4 h
  · intro n i s hi e k
    subst e
    refine br_f (ft_l4 hi) (yw_nbr hc hi (fun e => ?_) (fun e => ?_))
    · exact br_t ft_neg1 (nm_r (nI_1 i) (k _ (ft_lb_n e).symm))
    · have hb := ft_nb_lt hc e
      refine br_f (ft_nneg hb) ⟨ft_vin hb, ?_⟩
      rw [ft_c hb]
      exact yw_least (nm_r (nI_1 i) (k _ (ft_lb_a e).symm))
theorem yw_mb {post : Int32 → Prop} {H M : Nat → Int32} {c : Nat} (hc : c < 64) (h : post (ft_mb M c 4)) : wpY_mostBeside post (H, M) (nI c) := by
  refine ⟨5, ft_iv_loop (fun n i (s : Int32) => wY_mostBeside_4 post (nI c) H M n s (nI i)) (fun i s => s = ft_mb M c i) 4 ?_ ?_ 4 0 (-1) (by omega) rfl⟩
  · intro n s e
    subst e
    exact br_t ft_g4 h
  · intro n i s hi e k
    subst e
    refine br_f (ft_l4 hi) (yw_nbr hc hi (fun e => ?_) (fun e => ?_))
    · exact br_t ft_neg1 (nm_r (nI_1 i) (k _ (ft_mb_n e).symm))
    · have hb := ft_nb_lt hc e
      refine br_f (ft_nneg hb) ⟨ft_vin hb, ?_⟩
      rw [ft_c hb]
      exact yw_most (nm_r (nI_1 i) (k _ (ft_mb_a e).symm))
theorem yw_alike {post : Int32 → Prop} {H M : Nat → Int32} {c : Nat} (hc : c < 64) (h : post (ft_av H M c 4)) : wpY_leastAlike post (H, M) (nI c) := by
  refine ⟨ft_vin hc, nm_r (e' := M c) (by rw [ft_c hc]) ⟨5, ft_iv_loop (fun n i (s : Int32) => wY_leastAlike_9 post (nI c) H M n s (nI i)) (fun i s => s = ft_av H M c i) 4 ?_ ?_ 4 0 (M c) (by omega) rfl⟩⟩
  · intro n s e
    subst e
    exact br_t ft_g4 h
  · intro n i s hi e k
    subst e
    refine br_f (ft_l4 hi) (yw_nbr hc hi (fun e => ?_) (fun e => ?_))
    · exact br_t ft_neg1 (nm_r (nI_1 i) (k _ (ft_av_n e).symm))
    · have hb := ft_nb_lt hc e
      refine br_f (ft_nneg hb) ⟨ft_vin hb, ft_vin hc, ?_⟩
      rw [ft_c hb, ft_c hc]
      by_cases q : H (ft_nb c i) = H c
      · exact br_t q ⟨ft_vin hb, yw_least (nm_r (nI_1 i) (k _ (ft_av_a e q).symm))⟩
      · exact br_f q (nm_r (nI_1 i) (k _ (ft_av_o e q).symm))
theorem yw_higher {post : Int32 → Prop} {H M : Nat → Int32} {c : Nat} (hc : c < 64) (h1 : ft_hi H c → post 1) (h0 : ¬ ft_hi H c → post 0) : wpY_hasHigher post (H, M) (nI c) := by
  refine ⟨5, ft_iv_loop (fun n i (_ : Unit) => wY_hasHigher_2 post (nI c) H M n (nI i)) (fun i _ => ∀ d, d < i → ¬ (¬ ft_nb c d = 64 ∧ H c < H (ft_nb c d))) 4 ?_ ?_ 4 0 () (by omega) (fun d hd => absurd hd (Nat.not_lt_zero d))⟩
  · intro n s e
    exact br_t ft_g4 (h0 (fun ⟨d, hd, z⟩ => e d hd z))
  · intro n i s hi e k
    refine br_f (ft_l4 hi) (yw_nbr hc hi (fun q => ?_) (fun q => ?_))
    · refine br_t ft_neg1 (nm_r (nI_1 i) (k () (fun d hd => ?_)))
      by_cases di : d = i
      · rw [di]; exact fun z => z.1 q
      · exact e d (by omega)
    · have hb := ft_nb_lt hc q
      refine br_f (ft_nneg hb) ⟨ft_vin hb, ft_vin hc, ?_⟩
      rw [ft_c hb, ft_c hc]
      by_cases l : H c < H (ft_nb c i)
      · exact br_f (Int32.not_le.mpr l) (h1 ⟨i, hi, q, l⟩)
      · refine br_t (Int32.not_lt.mp l) (nm_r (nI_1 i) (k () (fun d hd => ?_)))
        by_cases di : d = i
        · rw [di]; exact fun z => l z.2
        · exact e d (by omega)
theorem yw_lower10 {post : SY → Prop} {J2 : Int32 → (Nat → Int32) → (Nat → Int32) → Prop} {H M : Nat → Int32} {k : Nat} (h : J2 (nI (k + 1)) H (ft_it (ft_ys H) 0 64 M)) : wY_lower_10 post J2 (nI k) 65 0 H M := by
  refine ft_it_loop (fun n i (s : Nat → Int32) => wY_lower_10 post J2 (nI k) n (nI i) H s) (ft_ys H) 64 (fun s => J2 (nI (k + 1)) H s) (fun n s hp => br_t ft_g64 (nm_r (nI_1 k) hp)) ?_ 64 0 M (by omega) h
  intro n i s hi hw
  refine br_f (ft_l64 hi) (yw_lb hi ⟨ft_vin hi, ?_⟩)
  rw [ft_c hi]
  exact yw_most ⟨ft_vin hi, yw_least ⟨ft_vin hi, nm_e (nm_r (nI_1 i) hw)⟩⟩
theorem yw_lower {post : SY → Prop} {H M : Nat → Int32} (h : post (H, ft_rd (ft_ys H) M)) : wpY_lower post (H, M) :=
  ⟨65, ft_it_loop (fun n i (s : Nat → Int32) => wY_lower_2 post n (nI i) H s) (fun _ s => ft_it (ft_ys H) 0 64 s) 64 (fun s => post (H, s))
    (fun n s hp => br_t ft_g64 hp)
    (fun n i s hi hw => br_f (ft_l64 hi) ⟨65, yw_lower10 hw⟩) 64 0 M (by omega) h⟩
theorem yw_levels {post : SY → Prop} {H M : Nat → Int32} (hH : ft_ok H) (h : ∀ M', (∀ c, c < 64 → M' c = ft_W H (ft_L0 H) c) → post (H, M')) : wpY_levels post (H, M) := by
  refine ⟨65, ft_it_loop (fun n i (s : Nat → Int32) => wY_levels_2 post n (nI i) H s) (fun c s => upd s c ((fun c (_ : Int32) => ft_L0 H c) c (s c))) 64 (fun s => ∀ c, c < 64 → s c = ft_L0 H c) ?_ ?_ 64 0 M (by omega) (ft_fill (fun c _ => ft_L0 H c) 64 M)⟩
  · intro n s hp
    exact br_t ft_g64 (yw_lower (h _ (ft_wy hp (ft_L0_le hH))))
  · intro n i s hi hw
    refine br_f (ft_l64 hi) (yw_bd hi (fun b => ?_) (fun b => ?_))
    · exact br_f (by decide) ⟨ft_vin hi, ft_vin hi, nm_r (by rw [ft_c hi]; show _ = upd s i (ft_L0 H i); rw [ft_L0_t b]) (nm_r (nI_1 i) hw)⟩
    · exact br_t rfl ⟨ft_vin hi, nm_r (by rw [ft_c hi]; show _ = upd s i (ft_L0 H i); rw [ft_L0_f b]) (nm_r (nI_1 i) hw)⟩
theorem yw_passes {post : SY → Prop} {H M : Nat → Int32} {a : Nat} (ha : a < 64) (hH : ft_ok H) (h : ∀ M', (∀ c, c < 64 → M' c = ft_W H (ft_a0 H a) c) → post (H, M')) : wpY_passes post (H, M) (nI a) := by
  refine ⟨65, ft_it_loop (fun n i (s : Nat → Int32) => wY_passes_2 post (nI a) n (nI i) H s) (fun c s => upd s c ((fun c (_ : Int32) => ft_a0 H a c) c (s c))) 64 (fun s => ∀ c, c < 64 → s c = ft_a0 H a c) ?_ ?_ 64 0 M (by omega) (ft_fill (fun c _ => ft_a0 H a c) 64 M)⟩
  · intro n s hp
    exact br_t ft_g64 (yw_lower (h _ (ft_wy hp (ft_a0_le hH a))))
  · intro n i s hi hw
    refine br_f (ft_l64 hi) (pk_eq i a (fun e => ?_) (fun e => ?_))
    · exact ⟨ft_vin hi, ft_vin hi, nm_r (by rw [ft_c hi]; show _ = upd s i (ft_a0 H a i); unfold ft_a0; rw [if_pos e]) (nm_r (nI_1 i) hw)⟩
    · exact ⟨ft_vin hi, nm_r (by rw [ft_c hi]; show _ = upd s i (ft_a0 H a i); unfold ft_a0; rw [if_neg e]) (nm_r (nI_1 i) hw)⟩
theorem yw_lk55 {post : SY → Prop} {J47 : Int32 → (Nat → Int32) → (Nat → Int32) → Prop} {H M : Nat → Int32} {k : Nat} (h : J47 (nI (k + 1)) H (ft_it ft_ly 0 64 M)) : wY_lakeMarks_55 post J47 (nI k) 65 0 H M := by
  refine ft_it_loop (fun n i (s : Nat → Int32) => wY_lakeMarks_55 post J47 (nI k) n (nI i) H s) ft_ly 64 (fun s => J47 (nI (k + 1)) H s) (fun n s hp => br_t ft_g64 (nm_r (nI_1 k) hp)) ?_ 64 0 M (by omega) h
  intro n i s hi hw
  refine br_f (ft_l64 hi) ⟨ft_vin hi, ?_⟩
  rw [ft_c hi]
  by_cases l : s i < 100
  · have z : ft_ly i s = upd s i (ft_mn (s i) (ft_lb s i 4)) := if_pos l
    rw [z] at hw
    exact br_f (Int32.not_le.mpr l) (yw_lb hi ⟨ft_vin hi, yw_least ⟨ft_vin hi, nm_e (nm_r (nI_1 i) hw)⟩⟩)
  · have z : ft_ly i s = s := if_neg l
    rw [z] at hw
    exact br_t (Int32.not_lt.mp l) (nm_r (nI_1 i) hw)
theorem yw_lk47 {post : SY → Prop} {H M : Nat → Int32} (h : post (H, ft_rd ft_ly M)) : wY_lakeMarks_47 post 65 0 H M :=
  ft_it_loop (fun n i (s : Nat → Int32) => wY_lakeMarks_47 post n (nI i) H s) (fun _ s => ft_it ft_ly 0 64 s) 64 (fun s => post (H, s))
    (fun n s hp => br_t ft_g64 hp)
    (fun n i s hi hw => br_f (ft_l64 hi) ⟨65, yw_lk55 hw⟩) 64 0 M (by omega) h
theorem yw_lakeMarks {post : SY → Prop} {H M : Nat → Int32} (hH : ft_ok H) (h : ∀ M0, (∀ c, c < 64 → M0 c = if ft_W H (ft_L0 H) c ≤ H c then 100 else nI c) → post (H, ft_rd ft_ly M0)) : wpY_lakeMarks post (H, M) := by
  unfold wpY_lakeMarks
  dsimp only
  refine yw_levels hH (fun M' hM => ?_)
  refine ⟨65, ft_it_loop (fun n i (s : Nat → Int32) => wY_lakeMarks_6 post n (nI i) H s) (fun c s => upd s c ((fun c (x : Int32) => if x ≤ H c then (100 : Int32) else nI c) c (s c))) 64 (fun s => ∀ c, c < 64 → s c = if M' c ≤ H c then (100 : Int32) else nI c) ?_ ?_ 64 0 M' (by omega) (ft_fill (fun c x => if x ≤ H c then (100 : Int32) else nI c) 64 M')⟩
  · intro n s hp
    exact br_t ft_g64 ⟨65, yw_lk47 (h s (fun c hc => by rw [hp c hc, hM c hc]))⟩
  · intro n i s hi hw
    refine br_f (ft_l64 hi) ⟨ft_vin hi, ft_vin hi, ?_⟩
    rw [ft_c hi]
    by_cases z : s i ≤ H i
    · refine br_t z ⟨ft_vin hi, nm_r ?_ (nm_r (nI_1 i) hw)⟩
      dsimp only
      rw [if_pos z]
    · refine br_f z ⟨ft_vin hi, nm_r ?_ (nm_r (nI_1 i) hw)⟩
      dsimp only
      rw [if_neg z]
theorem yw_lakes8 {post : Int32 → SY → Prop} {H M : Nat → Int32} (h : post (ft_cnt (fun c => M c = nI c) 64) (H, M)) : wY_lakes_8 post H M 65 0 0 := by
  refine ft_it_loop (fun n i (s : Int32) => wY_lakes_8 post H M n s (nI i)) (ft_ct (fun c => M c = nI c)) 64 (fun s => post s (H, M)) (fun n s hp => br_t ft_g64 hp) ?_ 64 0 0 (by omega) h
  intro n i s hi hw
  refine br_f (ft_l64 hi) ⟨ft_vin hi, ?_⟩
  rw [ft_c hi]
  by_cases a : M i = nI i
  · rw [ft_ct_t a] at hw
    exact br_t a (nm_e (nm_r (nI_1 i) hw))
  · rw [ft_ct_f a] at hw
    exact br_f a (nm_r (nI_1 i) hw)
theorem yw_size31 {post : Int32 → SY → Prop} {H M : Nat → Int32} {a : Nat} (ha : a < 64) (h : post (ft_cnt (fun c => M c = M a) 64) (H, M)) : wY_lakeSize_31 post (nI a) H M 65 0 0 := by
  refine ft_it_loop (fun n i (s : Int32) => wY_lakeSize_31 post (nI a) H M n s (nI i)) (ft_ct (fun c => M c = M a)) 64 (fun s => post s (H, M)) (fun n s hp => br_t ft_g64 hp) ?_ 64 0 0 (by omega) h
  intro n i s hi hw
  refine br_f (ft_l64 hi) ⟨ft_vin hi, ft_vin ha, ?_⟩
  rw [ft_c hi, ft_c ha]
  by_cases b : M i = M a
  · rw [ft_ct_t b] at hw
    exact br_t b (nm_e (nm_r (nI_1 i) hw))
  · rw [ft_ct_f b] at hw
    exact br_f b (nm_r (nI_1 i) hw)
theorem yw_reach20 {post : Int32 → SY → Prop} {H M : Nat → Int32} {x : Int32} (h : post (ft_cnt (fun c => ¬ x < M c) 64) (H, M)) : wY_reach_20 post x H M 65 0 0 := by
  refine ft_it_loop (fun n i (s : Int32) => wY_reach_20 post x H M n s (nI i)) (ft_ct (fun c => ¬ x < M c)) 64 (fun s => post s (H, M)) (fun n s hp => br_t ft_g64 hp) ?_ 64 0 0 (by omega) h
  intro n i s hi hw
  refine br_f (ft_l64 hi) ⟨ft_vin hi, ?_⟩
  rw [ft_c hi]
  by_cases b : x < M i
  · rw [ft_ct_f (fun z => z b)] at hw
    exact br_t b (nm_r (nI_1 i) hw)
  · rw [ft_ct_t b] at hw
    exact br_f b (nm_e (nm_r (nI_1 i) hw))
theorem yw_vol8 {post : Int32 → SY → Prop} {H M : Nat → Int32} (h : post (ft_it (fun c s => s + M c - H c) 0 64 0) (H, M)) : wY_volume_8 post H M 65 0 0 := by
  refine ft_it_loop (fun n i (s : Int32) => wY_volume_8 post H M n s (nI i)) (fun c s => s + M c - H c) 64 (fun s => post s (H, M)) (fun n s hp => br_t ft_g64 hp) ?_ 64 0 0 (by omega) h
  intro n i s hi hw
  exact br_f (ft_l64 hi) ⟨ft_vin hi, ft_vin hi, nm_r (by rw [ft_c hi]) (nm_r (nI_1 i) hw)⟩
/-- prominence -/
def ft_p0 (H : Nat → Int32) (a c : Nat) : Int32 := if c = a then H c else -1
theorem yw_pr120 {post : Int32 → SY → Prop} {H M : Nat → Int32} {a : Nat} (ha : a < 64) (h1 : 0 ≤ (ft_it (ft_dy H M a) 0 64 (-1, 99)).1 → post (H a - (ft_it (ft_dy H M a) 0 64 (-1, 99)).1) (H, M)) (h2 : ¬ 0 ≤ (ft_it (ft_dy H M a) 0 64 (-1, 99)).1 → post (H a - (ft_it (ft_dy H M a) 0 64 (-1, 99)).2) (H, M)) : wY_prominence_120 post (nI a) H M 65 (-1) 99 0 := by
  refine ft_it_loop (fun n i (s : Int32 × Int32) => wY_prominence_120 post (nI a) H M n s.1 s.2 (nI i)) (ft_dy H M a) 64 (fun s => (0 ≤ s.1 → post (H a - s.1) (H, M)) ∧ (¬ 0 ≤ s.1 → post (H a - s.2) (H, M))) ?_ ?_ 64 0 (-1, 99) (by omega) ⟨h1, h2⟩
  · intro n s hp
    refine br_t ft_g64 ⟨ft_vin ha, ?_⟩
    rw [ft_c ha]
    exact hp
  · intro n i s hi hw
    refine br_f (ft_l64 hi) ⟨ft_vin hi, ?_⟩
    rw [ft_c hi]
    refine yw_least ⟨ft_vin hi, ft_vin ha, ?_⟩
    rw [ft_c ha]
    by_cases b : H a < H i
    · have z : ft_dy H M a i s = (ft_mx s.1 (M i), ft_mn s.2 (H i)) := by unfold ft_dy; rw [if_pos b]
      rw [z] at hw
      exact br_f (Int32.not_le.mpr b) ⟨ft_vin hi, yw_most (nm_r (nI_1 i) hw)⟩
    · have z : ft_dy H M a i s = (s.1, ft_mn s.2 (H i)) := by unfold ft_dy; rw [if_neg b]
      rw [z] at hw
      exact br_t (Int32.not_lt.mp b) (nm_r (nI_1 i) hw)
theorem yw_pr55 {post : Int32 → SY → Prop} {J47 : Int32 → (Nat → Int32) → (Nat → Int32) → Prop} {x1 : Int32} {H M : Nat → Int32} {k : Nat} (h : J47 (nI (k + 1)) H (ft_it (ft_ps H) 0 64 M)) : wY_prominence_55 post J47 x1 (nI k) 65 0 H M := by
  refine ft_it_loop (fun n i (s : Nat → Int32) => wY_prominence_55 post J47 x1 (nI k) n (nI i) H s) (ft_ps H) 64 (fun s => J47 (nI (k + 1)) H s) (fun n s hp => br_t ft_g64 (nm_r (nI_1 k) hp)) ?_ 64 0 M (by omega) h
  intro n i s hi hw
  refine br_f (ft_l64 hi) (yw_mb hi ⟨ft_vin hi, ?_⟩)
  rw [ft_c hi]
  exact yw_least ⟨ft_vin hi, yw_most ⟨ft_vin hi, nm_e (nm_r (nI_1 i) hw)⟩⟩
theorem yw_prom {post : Int32 → SY → Prop} {H M : Nat → Int32} {a : Nat} (h : ∀ M0, (∀ c, c < 64 → M0 c = ft_p0 H a c) → ∃ n, wY_prominence_120 post (nI a) H (ft_rd (ft_ps H) M0) n (-1) 99 0) (ha : a < 64) : ∃ n, wY_prominence_12 post (nI a) n 0 H M := by
  refine ⟨65, ft_it_loop (fun n i (s : Nat → Int32) => wY_prominence_12 post (nI a) n (nI i) H s) (fun c s => upd s c ((fun c (_ : Int32) => ft_p0 H a c) c (s c))) 64 (fun s => ∀ c, c < 64 → s c = ft_p0 H a c) ?_ ?_ 64 0 M (by omega) (ft_fill (fun c _ => ft_p0 H a c) 64 M)⟩
  · intro n s hp
    exact br_t ft_g64 ⟨65, ft_it_loop (fun n i (s : Nat → Int32) => wY_prominence_47 post (nI a) n (nI i) H s) (fun _ s => ft_it (ft_ps H) 0 64 s) 64 (fun s => ∃ n, wY_prominence_120 post (nI a) H s n (-1) 99 0)
      (fun n s hp => br_t ft_g64 hp)
      (fun n i s hi hw => br_f (ft_l64 hi) ⟨65, yw_pr55 hw⟩) 64 0 s (by omega) (h s hp)⟩
  · intro n i s hi hw
    refine br_f (ft_l64 hi) (pk_eq i a (fun e => ?_) (fun e => ?_))
    · exact ⟨ft_vin hi, ft_vin hi, nm_r (by rw [ft_c hi]; show _ = upd s i (ft_p0 H a i); unfold ft_p0; rw [if_pos e]) (nm_r (nI_1 i) hw)⟩
    · exact ⟨ft_vin hi, nm_r (by rw [ft_c hi]; show _ = upd s i (ft_p0 H a i); unfold ft_p0; rw [if_neg e]) (nm_r (nI_1 i) hw)⟩
/-- summits -/
noncomputable def ft_m0 (H : Nat → Int32) (c : Nat) : Int32 := @ite _ (ft_hi H c) (Classical.propDecidable _) (-1) (nI c)
theorem ft_m0_t {H : Nat → Int32} {c : Nat} (h : ft_hi H c) : ft_m0 H c = -1 := if_pos h
theorem ft_m0_f {H : Nat → Int32} {c : Nat} (h : ¬ ft_hi H c) : ft_m0 H c = nI c := if_neg h
theorem yw_sum76 {post : Int32 → SY → Prop} {H M : Nat → Int32} (h : post (ft_cnt (fun c => M c = nI c) 64) (H, M)) : wY_summits_76 post H M 65 0 0 := by
  refine ft_it_loop (fun n i (s : Int32) => wY_summits_76 post H M n s (nI i)) (ft_ct (fun c => M c = nI c)) 64 (fun s => post s (H, M)) (fun n s hp => br_t ft_g64 hp) ?_ 64 0 0 (by omega) h
  intro n i s hi hw
  refine br_f (ft_l64 hi) ⟨ft_vin hi, ?_⟩
  rw [ft_c hi]
  by_cases a : M i = nI i
  · rw [ft_ct_t a] at hw
    exact br_t a (nm_e (nm_r (nI_1 i) hw))
  · rw [ft_ct_f a] at hw
    exact br_f a (nm_r (nI_1 i) hw)
theorem yw_sum43 {post : Int32 → SY → Prop} {J35 : Int32 → (Nat → Int32) → (Nat → Int32) → Prop} {H M : Nat → Int32} {k : Nat} (h : J35 (nI (k + 1)) H (ft_sw H M)) : wY_summits_43 post J35 (nI k) 65 0 H M := by
  refine ft_it_loop (fun n i (s : Nat → Int32) => wY_summits_43 post J35 (nI k) n (nI i) H s) (ft_js H) 64 (fun s => J35 (nI (k + 1)) H s) (fun n s hp => br_t ft_g64 (nm_r (nI_1 k) hp)) ?_ 64 0 M (by omega) h
  intro n i s hi hw
  exact br_f (ft_l64 hi) (yw_alike hi ⟨ft_vin hi, nm_r (by rw [ft_c hi]; rfl) (nm_r (nI_1 i) hw)⟩)
theorem yw_summits {post : Int32 → SY → Prop} {H M : Nat → Int32} (h : ∀ M0, (∀ c, c < 64 → M0 c = ft_m0 H c) → post (ft_cnt (fun c => ft_jn H M0 c = nI c) 64) (H, ft_jn H M0)) : wpY_summits post (H, M) := by
  refine ⟨65, ft_it_loop (fun n i (s : Nat → Int32) => wY_summits_2 post n (nI i) H s) (fun c s => upd s c ((fun c (_ : Int32) => ft_m0 H c) c (s c))) 64 (fun s => ∀ c, c < 64 → s c = ft_m0 H c) ?_ ?_ 64 0 M (by omega) (ft_fill (fun c _ => ft_m0 H c) 64 M)⟩
  · intro n s hp
    exact br_t ft_g64 ⟨65, ft_it_loop (fun n i (s : Nat → Int32) => wY_summits_35 post n (nI i) H s) (fun _ s => ft_sw H s) 64 (fun s => post (ft_cnt (fun c => s c = nI c) 64) (H, s))
      (fun n s hp => br_t ft_g64 ⟨65, yw_sum76 hp⟩)
      (fun n i s hi hw => br_f (ft_l64 hi) ⟨65, yw_sum43 hw⟩) 64 0 s (by omega) (h s hp)⟩
  · intro n i s hi hw
    refine br_f (ft_l64 hi) (yw_higher hi (fun b => ?_) (fun b => ?_))
    · exact br_f (by decide) ⟨ft_vin hi, nm_r (by rw [ft_c hi]; show _ = upd s i (ft_m0 H i); rw [ft_m0_t b]) (nm_r (nI_1 i) hw)⟩
    · exact br_t rfl ⟨ft_vin hi, nm_r (by rw [ft_c hi]; show _ = upd s i (ft_m0 H i); rw [ft_m0_f b]) (nm_r (nI_1 i) hw)⟩
