/-! where the two sides meet, method by method -/
theorem ft_add_sub (s a b : Int32) : s + a - b = s + (a - b) := by
  rw [Int32.sub_eq_add_neg, Int32.sub_eq_add_neg, Int32.add_assoc]
theorem ft_vol {A B H : Nat → Int32} (h : ∀ c, c < 64 → A c = B c) : ft_it (fun c s => s + A c - H c) 0 64 0 = ft_it (fun c s => s + (B c - H c)) 0 64 0 :=
  ft_it_rel (fun c s => s + A c - H c) (fun c s => s + (B c - H c)) (fun _ s t => s = t) 64 (fun i s t hi e => by
    cases e
    show s + A i - H i = s + (B i - H i)
    rw [h i hi, ft_add_sub]) 64 0 0 0 (by omega) rfl
theorem ft_av_K {K K' s t : Nat → Int32} (hK : ∀ c, c < 64 → K c = K' c) (hs : ∀ c, c < 64 → s c = t c) {c : Nat} (hc : c < 64) : ∀ d, ft_av K s c d = ft_av K' t c d := by
  intro d
  induction d with
  | zero => exact hs c hc
  | succ d ih =>
    by_cases e : ft_nb c d = 64
    · rw [ft_av_n e, ft_av_n e, ih]
    · have hb := ft_nb_lt hc e
      by_cases q : K (ft_nb c d) = K c
      · have q2 : K' (ft_nb c d) = K' c := by rw [← hK _ hb, ← hK c hc]; exact q
        rw [ft_av_a e q, ft_av_a e q2, ih, hs _ hb]
      · have q2 : ¬ K' (ft_nb c d) = K' c := by rw [← hK _ hb, ← hK c hc]; exact q
        rw [ft_av_o e q, ft_av_o e q2, ih]
theorem ft_jn_K {K K' g : Nat → Int32} (hK : ∀ c, c < 64 → K c = K' c) : ∀ c, c < 64 → ft_jn K g c = ft_jn K' g c := by
  rw [ft_jn_rd, ft_jn_rd]
  refine ft_rounds (I := fun s t => ∀ c, c < 64 → s c = t c) (fun i s t hi hst c hc => ?_) (fun _ _ => rfl)
  by_cases ci : c = i
  · subst ci
    have z1 : ft_js K c s c = ft_av K s c 4 := pk_us
    have z2 : ft_js K' c t c = ft_av K' t c 4 := pk_us
    rw [z1, z2]
    exact ft_av_K hK hst hc 4
  · have z1 : ft_js K i s c = s c := pk_un ci
    have z2 : ft_js K' i t c = t c := pk_un ci
    rw [z1, z2]
    exact hst c hc
theorem ft_sum_eq {H K' R0 O0 M0 : Nat → Int32} (hK : ∀ c, c < 64 → K' c = H c) (hR : ∀ c, c < 64 → R0 c = nI c) (hO : ∀ c, c < 64 → O0 c = 0) (hM : ∀ c, c < 64 → M0 c = ft_m0 H c) : ft_cnt (fun c => ft_jn H M0 c = nI c) 64 = ft_cnt (fun c => ft_jn K' R0 c = nI c ∧ ft_ov H (ft_jn K' R0) O0 c = 0) 64 := by
  refine ft_cnt_eq 64 (fun c hc => ?_)
  have hG : ∀ c, c < 64 → ∃ m, m < 64 ∧ ft_jn K' R0 c = nI m := by
    intro c hc
    obtain ⟨m, hm, e, _⟩ := ft_lab (K := K') hR c hc
    exact ⟨m, hm, e⟩
  rw [ft_ov_is hG hO c hc, ← ft_jn_K hK c hc]
  exact (ft_summit (K := K') (g := R0) (m0 := M0) (hi := ft_hi H) hR (fun c hc z => by rw [hM c hc, ft_m0_t z]) (fun c hc z => by rw [hM c hc, ft_m0_f z]) c hc).symm
theorem ft_lk0 {W H K' R0 M0 : Nat → Int32} (hK : ∀ c, c < 64 → K' c = if W c ≤ H c then 0 else 1) (hR : ∀ c, c < 64 → R0 c = nI c) (hM : ∀ c, c < 64 → M0 c = if W c ≤ H c then 100 else nI c) : ft_lk K' R0 M0 := by
  intro c hc
  refine ⟨⟨c, hc, hR c hc, rfl⟩, ?_⟩
  rw [hK c hc, hM c hc, hR c hc]
  by_cases z : W c ≤ H c
  · rw [if_pos z, if_pos z]
    exact ⟨fun e => absurd e (by decide), fun _ => rfl⟩
  · rw [if_neg z, if_neg z]
    exact ⟨fun _ => rfl, fun e => absurd rfl e⟩
theorem ft_a0_G {G H C0 : Nat → Int32} {a : Nat} (hG : ∀ c, c < 64 → G c = H c) (hC : ∀ c, c < 64 → C0 c = ft_a0 G a c) : ∀ c, c < 64 → C0 c = ft_a0 H a c := by
  intro c hc
  rw [hC c hc]
  unfold ft_a0
  rw [hG c hc]
theorem yw_prominence {post : Int32 → SY → Prop} {H M : Nat → Int32} {a : Nat} (ha : a < 64)
    (h1 : ∀ M0, (∀ c, c < 64 → M0 c = ft_p0 H a c) → 0 ≤ (ft_it (ft_dy H (ft_rd (ft_ps H) M0) a) 0 64 (-1, 99)).1 → post (H a - (ft_it (ft_dy H (ft_rd (ft_ps H) M0) a) 0 64 (-1, 99)).1) (H, ft_rd (ft_ps H) M0))
    (h2 : ∀ M0, (∀ c, c < 64 → M0 c = ft_p0 H a c) → ¬ 0 ≤ (ft_it (ft_dy H (ft_rd (ft_ps H) M0) a) 0 64 (-1, 99)).1 → post (H a - (ft_it (ft_dy H (ft_rd (ft_ps H) M0) a) 0 64 (-1, 99)).2) (H, ft_rd (ft_ps H) M0)) : wpY_prominence post (H, M) (nI a) := by
  unfold wpY_prominence
  dsimp only
  exact yw_ok ha (br_t rfl (yw_prom (fun M0 hM => ⟨65, yw_pr120 ha (h1 M0 hM) (h2 M0 hM)⟩) ha))
theorem ft_ud0 {H G C0 M0 : Nat → Int32} {a : Nat} (hH : ft_ok H) (hG : ∀ c, c < 64 → G c = 99 - H c) (hC : ∀ c, c < 64 → C0 c = ft_a0 G a c) (hM : ∀ c, c < 64 → M0 c = ft_p0 H a c) : ft_ud (ft_rd (ft_xs G) C0) (ft_rd (ft_ps H) M0) := by
  refine ft_updown (fun c hc => ⟨?_, (hH c).2⟩) (fun c hc => ?_)
  · rw [hG c hc]
    exact ft_99m (hH c).1 (hH c).2
  · rw [hC c hc, hM c hc]
    unfold ft_a0 ft_p0
    have b := hH c
    by_cases e : c = a
    · rw [if_pos e, if_pos e, hG c hc, ft_99m b.1 b.2]
      omega
    · rw [if_neg e, if_neg e, ft_100, ft_m1]
      omega
/-- the pattern, one cell -/
def ft_pt (x y : Int32) (c : Nat) (s : Nat → Int32) : Nat → Int32 := upd s c ((nI c * x + y) &&& 63)
theorem ft_pt_ok {x y : Int32} {H : Nat → Int32} (hH : ft_ok H) : ft_ok (ft_it (ft_pt x y) 0 64 H) := by
  refine ft_it_inv (ft_pt x y) (fun _ s => ft_ok s) 64 (fun i s _ z => ?_) 64 0 H (by omega) hH
  obtain ⟨j, hj, e⟩ := pk_andE (nI i * x + y) (m := 63) 6 (by decide)
  have hj2 : j < 64 := hj
  refine ft_ok_u z ?_ ?_
  · rw [e, ft_nI_i hj2]; omega
  · rw [e, ft_nI_i hj2]; omega
theorem xw_pattern {post : SX → Prop} {H G C K R O : Nat → Int32} {x y : Int32} (h : post (ft_it (ft_pt x y) 0 64 H, G, C, K, R, O)) : wpX_pattern post (H, G, C, K, R, O) x y :=
  ⟨65, ft_it_loop (fun n i (s : Nat → Int32) => wX_pattern_2 post x y n (nI i) s G C K R O) (ft_pt x y) 64 (fun s => post (s, G, C, K, R, O))
    (fun n s hp => br_t ft_g64 hp)
    (fun n i s hi hw => br_f (ft_l64 hi) ⟨ft_vin hi, nm_r (by rw [ft_c hi]; rfl) (nm_r (nI_1 i) hw)⟩) 64 0 H (by omega) h⟩
theorem yw_pattern {post : SY → Prop} {H M : Nat → Int32} {x y : Int32} (h : post (ft_it (ft_pt x y) 0 64 H, M)) : wpY_pattern post (H, M) x y :=
  ⟨65, ft_it_loop (fun n i (s : Nat → Int32) => wY_pattern_2 post x y n (nI i) s M) (ft_pt x y) 64 (fun s => post (s, M))
    (fun n s hp => br_t ft_g64 hp)
    (fun n i s hi hw => br_f (ft_l64 hi) ⟨ft_vin hi, nm_r (by rw [ft_c hi]; rfl) (nm_r (nI_1 i) hw)⟩) 64 0 H (by omega) h⟩
