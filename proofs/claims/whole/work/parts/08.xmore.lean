/-! X: what is overlooked, and the counting loops -/
theorem ft_b1 : vp_nar .boolean 1 = 1 := by decide
theorem ft_b0 : vp_nar .boolean 0 = 0 := by decide
theorem xw_ov31 {post : SX → Prop} {J23 : Int32 → (Nat → Int32) → (Nat → Int32) → (Nat → Int32) → (Nat → Int32) → (Nat → Int32) → (Nat → Int32) → Prop} {H G C K R O : Nat → Int32} {c m : Nat} (hc : c < 64) (hm : m < 64) (hR : R c = nI m) (h : J23 (nI (c + 1)) H G C K R (ft_oc H R c O)) : wX_findOverlookedGroups_31 post J23 (nI c) 5 0 H G C K R O := by
  refine ft_it_loop (fun n i (s : Nat → Int32) => wX_findOverlookedGroups_31 post J23 (nI c) n (nI i) H G C K R s) (ft_os H R c) 4 (fun s => J23 (nI (c + 1)) H G C K R s) ?_ ?_ 4 0 O (by omega) h
  · intro n s hp
    exact br_t ft_g4 (nm_r (nI_1 c) hp)
  · intro n i s hi hw
    refine br_f (ft_l4 hi) (xw_nbr hc hi (fun e => ?_) (fun e => ?_))
    · have z : ft_os H R c i s = s := if_pos e
      rw [z] at hw
      exact br_t rfl (nm_r (nI_1 i) hw)
    · have hb := ft_nb_lt hc e
      by_cases l : H c < H (ft_nb c i)
      · have z : ft_os H R c i s = upd s (R c).toNatClampNeg 1 := (if_neg e).trans (if_pos l)
        rw [z] at hw
        refine br_f (ft_nm1 hb) ⟨ft_vin hb, ft_vin hc, br_f (by rw [ft_c hb, ft_c hc]; exact Int32.not_le.mpr l) ⟨ft_vin hc, by rw [ft_c hc, hR]; exact ft_vin hm, nm_r (by rw [ft_c hc, ft_b1]) (nm_r (nI_1 i) hw)⟩⟩
      · have z : ft_os H R c i s = s := (if_neg e).trans (if_neg l)
        rw [z] at hw
        exact br_f (ft_nm1 hb) ⟨ft_vin hb, ft_vin hc, br_t (by rw [ft_c hb, ft_c hc]; exact Int32.not_lt.mp l) (nm_r (nI_1 i) hw)⟩
theorem xw_ov23 {post : SX → Prop} {H G C K R O : Nat → Int32} (hR : ∀ c, c < 64 → ∃ m, m < 64 ∧ R c = nI m) (h : post (H, G, C, K, R, ft_ov H R O)) : wX_findOverlookedGroups_23 post 65 0 H G C K R O :=
  ft_it_loop (fun n i (s : Nat → Int32) => wX_findOverlookedGroups_23 post n (nI i) H G C K R s) (ft_oc H R) 64 (fun s => post (H, G, C, K, R, s))
    (fun n s hp => br_t ft_g64 hp)
    (fun n i s hi hw => br_f (ft_l64 hi) ⟨5, (hR i hi).elim (fun _ hm => xw_ov31 hi hm.1 hm.2 hw)⟩) 64 0 O (by omega) h
theorem xw_over {post : SX → Prop} {H G C K R O : Nat → Int32} (hR : ∀ c, c < 64 → ∃ m, m < 64 ∧ R c = nI m) (h : ∀ O0, (∀ c, c < 64 → O0 c = 0) → post (H, G, C, K, R, ft_ov H R O0)) : wpX_findOverlookedGroups post (H, G, C, K, R, O) :=
  ⟨65, ft_it_loop (fun n i (s : Nat → Int32) => wX_findOverlookedGroups_2 post n (nI i) H G C K R s) (fun c s => upd s c ((fun _ (_ : Int32) => 0) c (s c))) 64 (fun s => ∀ c, c < 64 → s c = 0)
    (fun n s hp => br_t ft_g64 ⟨65, xw_ov23 hR (h s hp)⟩)
    (fun n i s hi hw => br_f (ft_l64 hi) ⟨ft_vin hi, nm_r (by rw [ft_c hi, ft_b0]) (nm_r (nI_1 i) hw)⟩) 64 0 O (by omega)
    (ft_fill (fun _ _ => 0) 64 O)⟩
theorem xw_lakes8 {post : Int32 → SX → Prop} {H G C K R O : Nat → Int32} (h : post (ft_cnt (fun c => K c = 1 ∧ R c = nI c) 64) (H, G, C, K, R, O)) : wX_lakes_8 post H G C K R O 65 0 0 := by
  refine ft_it_loop (fun n i (s : Int32) => wX_lakes_8 post H G C K R O n s (nI i)) (ft_ct (fun c => K c = 1 ∧ R c = nI c)) 64 (fun s => post s (H, G, C, K, R, O)) (fun n s hp => br_t ft_g64 hp) ?_ 64 0 0 (by omega) h
  intro n i s hi hw
  refine br_f (ft_l64 hi) ⟨ft_vin hi, ?_⟩
  rw [ft_c hi]
  by_cases a : K i = 1
  · refine br_t a ⟨ft_vin hi, ?_⟩
    by_cases b : R i = nI i
    · rw [ft_ct_t ⟨a, b⟩] at hw
      exact br_t b (nm_e (nm_r (nI_1 i) hw))
    · rw [ft_ct_f (fun z => b z.2)] at hw
      exact br_f b (nm_r (nI_1 i) hw)
  · rw [ft_ct_f (fun z => a z.1)] at hw
    exact br_f a (nm_r (nI_1 i) hw)
theorem xw_size28 {post : Int32 → SX → Prop} {H G C K R O : Nat → Int32} {a : Nat} (ha : a < 64) (h : post (ft_cnt (fun c => R c = R a) 64) (H, G, C, K, R, O)) : wX_lakeSize_28 post (nI a) H G C K R O 65 0 0 := by
  refine ft_it_loop (fun n i (s : Int32) => wX_lakeSize_28 post (nI a) H G C K R O n s (nI i)) (ft_ct (fun c => R c = R a)) 64 (fun s => post s (H, G, C, K, R, O)) (fun n s hp => br_t ft_g64 hp) ?_ 64 0 0 (by omega) h
  intro n i s hi hw
  refine br_f (ft_l64 hi) ⟨ft_vin hi, ft_vin ha, ?_⟩
  rw [ft_c hi, ft_c ha]
  by_cases b : R i = R a
  · rw [ft_ct_t b] at hw
    exact br_t b (nm_e (nm_r (nI_1 i) hw))
  · rw [ft_ct_f b] at hw
    exact br_f b (nm_r (nI_1 i) hw)
theorem xw_reach23 {post : Int32 → SX → Prop} {H G C K R O : Nat → Int32} {x : Int32} (h : post (ft_cnt (fun c => ¬ x < C c) 64) (H, G, C, K, R, O)) : wX_reach_23 post x H G C K R O 65 0 0 := by
  refine ft_it_loop (fun n i (s : Int32) => wX_reach_23 post x H G C K R O n s (nI i)) (ft_ct (fun c => ¬ x < C c)) 64 (fun s => post s (H, G, C, K, R, O)) (fun n s hp => br_t ft_g64 hp) ?_ 64 0 0 (by omega) h
  intro n i s hi hw
  refine br_f (ft_l64 hi) ⟨ft_vin hi, ?_⟩
  rw [ft_c hi]
  by_cases b : x < C i
  · rw [ft_ct_f (fun z => z b)] at hw
    exact br_t b (nm_r (nI_1 i) hw)
  · rw [ft_ct_t b] at hw
    exact br_f b (nm_e (nm_r (nI_1 i) hw))
theorem xw_vol8 {post : Int32 → SX → Prop} {H G C K R O : Nat → Int32} (h : post (ft_it (fun c s => s + (C c - H c)) 0 64 0) (H, G, C, K, R, O)) : wX_volume_8 post H G C K R O 65 0 0 := by
  refine ft_it_loop (fun n i (s : Int32) => wX_volume_8 post H G C K R O n s (nI i)) (fun c s => s + (C c - H c)) 64 (fun s => post s (H, G, C, K, R, O)) (fun n s hp => br_t ft_g64 hp) ?_ 64 0 0 (by omega) h
  intro n i s hi hw
  exact br_f (ft_l64 hi) ⟨ft_vin hi, ft_vin hi, nm_r (by rw [ft_c hi]) (nm_r (nI_1 i) hw)⟩
theorem xw_low {post : Int32 → Prop} {H G C K R O : Nat → Int32} (h : post (ft_it (ft_lw H) 0 64 99)) : wpX_leastHeight post (H, G, C, K, R, O) := by
  refine ⟨65, ft_it_loop (fun n i (s : Int32) => wX_leastHeight_5 post H G C K R O n s (nI i)) (ft_lw H) 64 (fun s => post s) (fun n s hp => br_t ft_g64 hp) ?_ 64 0 99 (by omega) h⟩
  intro n i s hi hw
  refine br_f (ft_l64 hi) ⟨ft_vin hi, ?_⟩
  rw [ft_c hi]
  exact xw_lesser (nm_r (nI_1 i) hw)
theorem xw_prom23 {post : Int32 → SX → Prop} {H G C K R O : Nat → Int32} {a : Nat} (ha : a < 64) (h1 : ft_it (ft_dx H C a) 0 64 100 = 100 → post (H a - ft_it (ft_lw H) 0 64 99) (H, G, C, K, R, O)) (h2 : ¬ ft_it (ft_dx H C a) 0 64 100 = 100 → post (ft_it (ft_dx H C a) 0 64 100 - G a) (H, G, C, K, R, O)) : wX_prominence_23 post (nI a) H G C K R O 65 100 0 := by
  refine ft_it_loop (fun n i (s : Int32) => wX_prominence_23 post (nI a) H G C K R O n s (nI i)) (ft_dx H C a) 64 (fun s => (s = 100 → post (H a - ft_it (ft_lw H) 0 64 99) (H, G, C, K, R, O)) ∧ (¬ s = 100 → post (s - G a) (H, G, C, K, R, O))) ?_ ?_ 64 0 100 (by omega) ⟨h1, h2⟩
  · intro n s hp
    refine br_t ft_g64 (br_c (fun e => ⟨ft_vin ha, xw_low ?_⟩) (fun e => ⟨ft_vin ha, ?_⟩))
    · rw [ft_c ha]
      exact hp.1 e
    · rw [ft_c ha]
      exact hp.2 e
  · intro n i s hi hw
    refine br_f (ft_l64 hi) ⟨ft_vin hi, ft_vin ha, ?_⟩
    rw [ft_c hi, ft_c ha]
    by_cases b : H a < H i
    · have z : ft_dx H C a i s = ft_mn s (C i) := if_pos b
      rw [z] at hw
      exact br_f (Int32.not_le.mpr b) ⟨ft_vin hi, xw_lesser (nm_r (nI_1 i) hw)⟩
    · have z : ft_dx H C a i s = s := if_neg b
      rw [z] at hw
      exact br_t (Int32.not_lt.mp b) (nm_r (nI_1 i) hw)
theorem xw_sum38 {post : Int32 → SX → Prop} {H G C K R O : Nat → Int32} (h : post (ft_cnt (fun c => R c = nI c ∧ O c = 0) 64) (H, G, C, K, R, O)) : wX_summits_38 post H G C K R O 65 0 0 := by
  refine ft_it_loop (fun n i (s : Int32) => wX_summits_38 post H G C K R O n s (nI i)) (ft_ct (fun c => R c = nI c ∧ O c = 0)) 64 (fun s => post s (H, G, C, K, R, O)) (fun n s hp => br_t ft_g64 hp) ?_ 64 0 0 (by omega) h
  intro n i s hi hw
  refine br_f (ft_l64 hi) ⟨ft_vin hi, ?_⟩
  rw [ft_c hi]
  by_cases a : R i = nI i
  · refine br_t a ⟨ft_vin hi, ?_⟩
    by_cases b : O i = 0
    · rw [ft_ct_t ⟨a, b⟩] at hw
      exact br_t b (nm_e (nm_r (nI_1 i) hw))
    · rw [ft_ct_f (fun z => b z.2)] at hw
      exact br_f b (nm_r (nI_1 i) hw)
  · rw [ft_ct_f (fun z => a z.1)] at hw
    exact br_f a (nm_r (nI_1 i) hw)
theorem xw_summits {post : Int32 → SX → Prop} {H G C K R O : Nat → Int32} (h : ∀ K' R0 O0, (∀ c, c < 64 → K' c = H c) → (∀ c, c < 64 → R0 c = nI c) → (∀ c, c < 64 → O0 c = 0) → post (ft_cnt (fun c => ft_jn K' R0 c = nI c ∧ ft_ov H (ft_jn K' R0) O0 c = 0) 64) (H, G, C, K', ft_jn K' R0, ft_ov H (ft_jn K' R0) O0)) : wpX_summits post (H, G, C, K, R, O) := by
  refine ⟨65, ft_it_loop (fun n i (s : Nat → Int32) => wX_summits_2 post n (nI i) H G C s R O) (fun c s => upd s c ((fun c (_ : Int32) => H c) c (s c))) 64 (fun s => ∀ c, c < 64 → s c = H c) ?_ ?_ 64 0 K (by omega) (ft_fill (fun c _ => H c) 64 K)⟩
  · intro n s hp
    refine br_t ft_g64 (xw_join (fun R0 hR => ?_))
    dsimp only
    refine xw_over (fun c hc => ?_) (fun O0 hO => ?_)
    · obtain ⟨m, hm, e, _⟩ := ft_lab (K := s) hR c hc
      exact ⟨m, hm, e⟩
    · exact ⟨65, xw_sum38 (h s R0 O0 hp hR hO)⟩
  · intro n i s hi hw
    exact br_f (ft_l64 hi) ⟨ft_vin hi, ft_vin hi, nm_r (by rw [ft_c hi]) (nm_r (nI_1 i) hw)⟩
