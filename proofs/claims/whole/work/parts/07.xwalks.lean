/-! X's private methods -/
theorem xw_sp18 {post : SX → Prop} {J2 J10 : Int32 → (Nat → Int32) → (Nat → Int32) → (Nat → Int32) → (Nat → Int32) → (Nat → Int32) → (Nat → Int32) → Prop} {x1 : Int32} {H G C K R O : Nat → Int32} {c : Nat} (hc : c < 64) (h : J10 (nI (c + 1)) H G (ft_xs G c C) K R O) : wX_spreadCrests_18 post J2 J10 x1 (nI c) 5 0 H G C K R O := by
  refine ft_iv_loop (fun n i (s : Nat → Int32) => wX_spreadCrests_18 post J2 J10 x1 (nI c) n (nI i) H G s K R O) (fun i s => s = upd C c (ft_rv G C c i)) 4 ?_ ?_ 4 0 C (by omega) (ft_upd_self C c).symm
  · intro n s e
    subst e
    exact br_t ft_g4 (nm_r (nI_1 c) h)
  · intro n i s hi e k
    subst e
    refine br_f (ft_l4 hi) (xw_nbr hc hi (fun e => ?_) (fun e => ?_))
    · exact br_t rfl (nm_r (nI_1 i) (k _ (by rw [ft_rv_n e])))
    · have hb := ft_nb_lt hc e
      refine br_f (ft_nm1 hb) ⟨ft_vin hb, ft_vin hc, xw_greater ⟨ft_vin hc, xw_lesser ⟨ft_vin hc, nm_r ?_ (nm_r (nI_1 i) (k _ rfl))⟩⟩⟩
      rw [ft_c hb, ft_c hc, pk_us, pk_un (ft_nb_ne hc), ft_upd_upd, ft_rv_a e]
theorem xw_sp10 {post : SX → Prop} {J2 : Int32 → (Nat → Int32) → (Nat → Int32) → (Nat → Int32) → (Nat → Int32) → (Nat → Int32) → (Nat → Int32) → Prop} {H G C K R O : Nat → Int32} {k : Nat} (h : J2 (nI (k + 1)) H G (ft_it (ft_xs G) 0 64 C) K R O) : wX_spreadCrests_10 post J2 (nI k) 65 0 H G C K R O :=
  ft_it_loop (fun n i (s : Nat → Int32) => wX_spreadCrests_10 post J2 (nI k) n (nI i) H G s K R O) (ft_xs G) 64 (fun s => J2 (nI (k + 1)) H G s K R O)
    (fun n s hp => br_t ft_g64 (nm_r (nI_1 k) hp))
    (fun n i s hi hw => br_f (ft_l64 hi) ⟨5, xw_sp18 hi hw⟩) 64 0 C (by omega) h
theorem xw_spread {post : SX → Prop} {H G C K R O : Nat → Int32} (h : post (H, G, ft_rd (ft_xs G) C, K, R, O)) : wpX_spreadCrests post (H, G, C, K, R, O) :=
  ⟨65, ft_it_loop (fun n i (s : Nat → Int32) => wX_spreadCrests_2 post n (nI i) H G s K R O) (fun _ s => ft_it (ft_xs G) 0 64 s) 64 (fun s => post (H, G, s, K, R, O))
    (fun n s hp => br_t ft_g64 hp)
    (fun n i s hi hw => br_f (ft_l64 hi) ⟨65, xw_sp10 hw⟩) 64 0 C (by omega) h⟩
theorem xw_useHeights {post : SX → Prop} {H G C K R O : Nat → Int32} (h : ∀ G', (∀ c, c < 64 → G' c = H c) → post (H, G', C, K, R, O)) : wpX_useHeights post (H, G, C, K, R, O) :=
  ⟨65, ft_it_loop (fun n i (s : Nat → Int32) => wX_useHeights_2 post n (nI i) H s C K R O) (fun c s => upd s c ((fun c (_ : Int32) => H c) c (s c))) 64 (fun s => post (H, s, C, K, R, O))
    (fun n s hp => br_t ft_g64 hp)
    (fun n i s hi hw => br_f (ft_l64 hi) ⟨ft_vin hi, ft_vin hi, nm_r (by rw [ft_c hi]) (nm_r (nI_1 i) hw)⟩) 64 0 G (by omega)
    (h _ (ft_fill (fun c _ => H c) 64 G))⟩
theorem xw_upside {post : SX → Prop} {H G C K R O : Nat → Int32} (h : ∀ G', (∀ c, c < 64 → G' c = 99 - H c) → post (H, G', C, K, R, O)) : wpX_useHeightsUpsideDown post (H, G, C, K, R, O) :=
  ⟨65, ft_it_loop (fun n i (s : Nat → Int32) => wX_useHeightsUpsideDown_2 post n (nI i) H s C K R O) (fun c s => upd s c ((fun c (_ : Int32) => 99 - H c) c (s c))) 64 (fun s => post (H, s, C, K, R, O))
    (fun n s hp => br_t ft_g64 hp)
    (fun n i s hi hw => br_f (ft_l64 hi) ⟨ft_vin hi, ft_vin hi, nm_r (by rw [ft_c hi]) (nm_r (nI_1 i) hw)⟩) 64 0 G (by omega)
    (h _ (ft_fill (fun c _ => 99 - H c) 64 G))⟩
/-- the start of the levels -/
noncomputable def ft_L0 (H : Nat → Int32) (c : Nat) : Int32 := @ite _ (ft_bd c) (Classical.propDecidable _) (H c) 100
theorem ft_L0_t {H : Nat → Int32} {c : Nat} (h : ft_bd c) : ft_L0 H c = H c := if_pos h
theorem ft_L0_f {H : Nat → Int32} {c : Nat} (h : ¬ ft_bd c) : ft_L0 H c = 100 := if_neg h
def ft_W (H s : Nat → Int32) : Nat → Int32 := ft_rd (ft_ys H) s
def ft_a0 (H : Nat → Int32) (a c : Nat) : Int32 := if c = a then H c else 100
theorem ft_wx {G H s s0 : Nat → Int32} (hG : ∀ c, c < 64 → G c = H c) (hs : ∀ c, c < 64 → s c = s0 c) (h0 : ∀ c, c < 64 → (s0 c).toInt ≤ 100) : ∀ c, c < 64 → ft_rd (ft_xs G) s c = ft_W H s0 c :=
  fun c hc => (ft_spread hG (s := s) (t := s0) (fun c hc => ⟨hs c hc, by rw [hs c hc]; exact h0 c hc⟩) c hc).1
theorem ft_wy {H s s0 : Nat → Int32} (hs : ∀ c, c < 64 → s c = s0 c) (h0 : ∀ c, c < 64 → (s0 c).toInt ≤ 100) : ∀ c, c < 64 → ft_rd (ft_ys H) s c = ft_W H s0 c := by
  intro c hc
  have e1 := (ft_spread (hx := H) (hy := H) (fun _ _ => rfl) (s := s0) (t := s) (fun c hc => ⟨(hs c hc).symm, h0 c hc⟩) c hc).1
  have e2 := (ft_spread (hx := H) (hy := H) (fun _ _ => rfl) (s := s0) (t := s0) (fun c hc => ⟨rfl, h0 c hc⟩) c hc).1
  exact e1.symm.trans e2
theorem ft_L0_le {H : Nat → Int32} (hH : ft_ok H) : ∀ c, c < 64 → (ft_L0 H c).toInt ≤ 100 := by
  intro c _
  by_cases b : ft_bd c
  · rw [ft_L0_t b]; have := (hH c).2; omega
  · rw [ft_L0_f b, ft_100]; omega
theorem ft_a0_le {H : Nat → Int32} (hH : ft_ok H) (a : Nat) : ∀ c, c < 64 → (ft_a0 H a c).toInt ≤ 100 := by
  intro c _
  unfold ft_a0
  by_cases b : c = a
  · rw [if_pos b]; have := (hH c).2; omega
  · rw [if_neg b, ft_100]; omega
theorem xw_levels {post : SX → Prop} {H G C K R O : Nat → Int32} (hH : ft_ok H) (h : ∀ G' C', (∀ c, c < 64 → C' c = ft_W H (ft_L0 H) c) → post (H, G', C', K, R, O)) : wpX_findLevels post (H, G, C, K, R, O) := by
  unfold wpX_findLevels
  dsimp only
  refine xw_useHeights (fun G' hG => ?_)
  refine ⟨65, ft_it_loop (fun n i (s : Nat → Int32) => wX_findLevels_6 post n (nI i) H G' s K R O) (fun c s => upd s c ((fun c (_ : Int32) => ft_L0 H c) c (s c))) 64 (fun s => ∀ c, c < 64 → s c = ft_L0 H c) ?_ ?_ 64 0 C (by omega) (ft_fill (fun c _ => ft_L0 H c) 64 C)⟩
  · intro n s hp
    exact br_t ft_g64 (xw_spread (h G' _ (ft_wx hG hp (ft_L0_le hH))))
  · intro n i s hi hw
    refine br_f (ft_l64 hi) (xw_bd hi (fun b => ?_) (fun b => ?_))
    · exact br_f (by decide) ⟨ft_vin hi, ft_vin hi, nm_r (by rw [ft_c hi, hG i hi]; show _ = upd s i (ft_L0 H i); rw [ft_L0_t b]) (nm_r (nI_1 i) hw)⟩
    · exact br_t rfl ⟨ft_vin hi, nm_r (by rw [ft_c hi]; show _ = upd s i (ft_L0 H i); rw [ft_L0_f b]) (nm_r (nI_1 i) hw)⟩
theorem xw_from {post : SX → Prop} {H G C K R O : Nat → Int32} {a : Nat} (ha : a < 64) (h : ∀ C0, (∀ c, c < 64 → C0 c = ft_a0 G a c) → post (H, G, ft_rd (ft_xs G) C0, K, R, O)) : wpX_findCrestsFrom post (H, G, C, K, R, O) (nI a) := by
  refine ⟨65, ft_it_loop (fun n i (s : Nat → Int32) => wX_findCrestsFrom_2 post (nI a) n (nI i) H G s K R O) (fun c s => upd s c ((fun _ (_ : Int32) => 100) c (s c))) 64 (fun s => ∀ c, c < 64 → s c = 100) ?_ ?_ 64 0 C (by omega) (ft_fill (fun _ _ => 100) 64 C)⟩
  · intro n s hp
    refine br_t ft_g64 ⟨ft_vin ha, ft_vin ha, nm_r (by rw [ft_c ha]) (xw_spread (h (upd s a (G a)) (fun c hc => ?_)))⟩
    unfold ft_a0
    by_cases e : c = a
    · rw [if_pos e, e, pk_us]
    · rw [if_neg e, pk_un e, hp c hc]
  · intro n i s hi hw
    exact br_f (ft_l64 hi) ⟨ft_vin hi, nm_r (by rw [ft_c hi]) (nm_r (nI_1 i) hw)⟩
theorem xw_jn39 {post : SX → Prop} {J23 J31 : Int32 → (Nat → Int32) → (Nat → Int32) → (Nat → Int32) → (Nat → Int32) → (Nat → Int32) → (Nat → Int32) → Prop} {x1 : Int32} {H G C K R O : Nat → Int32} {c : Nat} (hc : c < 64) (h : J31 (nI (c + 1)) H G C K (ft_js K c R) O) : wX_joinKinds_39 post J23 J31 x1 (nI c) 5 0 H G C K R O := by
  refine ft_iv_loop (fun n i (s : Nat → Int32) => wX_joinKinds_39 post J23 J31 x1 (nI c) n (nI i) H G C K s O) (fun i s => s = upd R c (ft_av K R c i)) 4 ?_ ?_ 4 0 R (by omega) (ft_upd_self R c).symm
  · intro n s e
    subst e
    exact br_t ft_g4 (nm_r (nI_1 c) h)
  · intro n i s hi e k
    subst e
    refine br_f (ft_l4 hi) (xw_nbr hc hi (fun e => ?_) (fun e => ?_))
    · exact br_t rfl (nm_r (nI_1 i) (k _ (by rw [ft_av_n e])))
    · have hb := ft_nb_lt hc e
      by_cases q : K (ft_nb c i) = K c
      · refine br_f (ft_nm1 hb) ⟨ft_vin hb, ft_vin hc, br_t (by rw [ft_c hb, ft_c hc]; exact q) ⟨ft_vin hc, ft_vin hb, xw_lesser ⟨ft_vin hc, nm_r ?_ (nm_r (nI_1 i) (k _ rfl))⟩⟩⟩
        rw [ft_c hb, ft_c hc, pk_us, pk_un (ft_nb_ne hc), ft_upd_upd, ft_av_a e q]
      · exact br_f (ft_nm1 hb) ⟨ft_vin hb, ft_vin hc, br_f (by rw [ft_c hb, ft_c hc]; exact q) (nm_r (nI_1 i) (k _ (by rw [ft_av_o e q])))⟩
theorem xw_jn31 {post : SX → Prop} {J23 : Int32 → (Nat → Int32) → (Nat → Int32) → (Nat → Int32) → (Nat → Int32) → (Nat → Int32) → (Nat → Int32) → Prop} {H G C K R O : Nat → Int32} {k : Nat} (h : J23 (nI (k + 1)) H G C K (ft_sw K R) O) : wX_joinKinds_31 post J23 (nI k) 65 0 H G C K R O :=
  ft_it_loop (fun n i (s : Nat → Int32) => wX_joinKinds_31 post J23 (nI k) n (nI i) H G C K s O) (ft_js K) 64 (fun s => J23 (nI (k + 1)) H G C K s O)
    (fun n s hp => br_t ft_g64 (nm_r (nI_1 k) hp))
    (fun n i s hi hw => br_f (ft_l64 hi) ⟨5, xw_jn39 hi hw⟩) 64 0 R (by omega) h
theorem xw_jn23 {post : SX → Prop} {H G C K R O : Nat → Int32} (h : post (H, G, C, K, ft_jn K R, O)) : wX_joinKinds_23 post 65 0 H G C K R O :=
  ft_it_loop (fun n i (s : Nat → Int32) => wX_joinKinds_23 post n (nI i) H G C K s O) (fun _ s => ft_sw K s) 64 (fun s => post (H, G, C, K, s, O))
    (fun n s hp => br_t ft_g64 hp)
    (fun n i s hi hw => br_f (ft_l64 hi) ⟨65, xw_jn31 hw⟩) 64 0 R (by omega) h
theorem xw_join {post : SX → Prop} {H G C K R O : Nat → Int32} (h : ∀ R0, (∀ c, c < 64 → R0 c = nI c) → post (H, G, C, K, ft_jn K R0, O)) : wpX_joinKinds post (H, G, C, K, R, O) :=
  ⟨65, ft_it_loop (fun n i (s : Nat → Int32) => wX_joinKinds_2 post n (nI i) H G C K s O) (fun c s => upd s c ((fun c (_ : Int32) => nI c) c (s c))) 64 (fun s => ∀ c, c < 64 → s c = nI c)
    (fun n s hp => br_t ft_g64 ⟨65, xw_jn23 (h s hp)⟩)
    (fun n i s hi hw => br_f (ft_l64 hi) ⟨ft_vin hi, nm_r (by rw [ft_c hi]) (nm_r (nI_1 i) hw)⟩) 64 0 R (by omega)
    (ft_fill (fun c _ => nI c) 64 R)⟩
theorem xw_lakes {post : SX → Prop} {H G C K R O : Nat → Int32} (hH : ft_ok H) (h : ∀ G' C' K' R0, (∀ c, c < 64 → K' c = if ft_W H (ft_L0 H) c ≤ H c then 0 else 1) → (∀ c, c < 64 → R0 c = nI c) → post (H, G', C', K', ft_jn K' R0, O)) : wpX_findLakes post (H, G, C, K, R, O) := by
  unfold wpX_findLakes
  dsimp only
  refine xw_levels hH (fun G' C' hC => ?_)
  refine ⟨65, ft_it_loop (fun n i (s : Nat → Int32) => wX_findLakes_6 post n (nI i) H G' C' s R O) (fun c s => upd s c ((fun c (_ : Int32) => if C' c ≤ H c then (0 : Int32) else 1) c (s c))) 64 (fun s => ∀ c, c < 64 → s c = if C' c ≤ H c then (0 : Int32) else 1) ?_ ?_ 64 0 K (by omega) (ft_fill (fun c _ => if C' c ≤ H c then (0 : Int32) else 1) 64 K)⟩
  · intro n s hp
    exact br_t ft_g64 (xw_join (fun R0 hR => h G' C' s R0 (fun c hc => by rw [hp c hc, hC c hc]) hR))
  · intro n i s hi hw
    refine br_f (ft_l64 hi) ⟨ft_vin hi, ft_vin hi, ?_⟩
    rw [ft_c hi]
    by_cases z : C' i ≤ H i
    · refine br_t z ⟨ft_vin hi, nm_r ?_ (nm_r (nI_1 i) hw)⟩
      dsimp only
      rw [if_pos z]
    · refine br_f z ⟨ft_vin hi, nm_r ?_ (nm_r (nI_1 i) hw)⟩
      dsimp only
      rw [if_neg z]
