/-- the heights are the same, each from 0 to 99; all else is filled anew by each call -/
def i_Rel (k : Nat) (u : SX) (v : SY) : Prop := u.1 = v.1 ∧ ft_ok u.1
theorem i_up {k : Nat} {u : SX} {v : SY} (h : i_Rel k u v) : i_Rel (k + 4) u v := h
theorem i_vc0 : wpX_init (fun u => wpY_init (fun v => i_Rel 0 u v)) := ⟨rfl, fun _ => by show 0 ≤ (0 : Int32).toInt ∧ (0 : Int32).toInt ≤ 99; decide⟩
theorem i_vc_set {k : Nat} {u : SX} {v : SY} (I : i_Rel k u v) (hk : k + 4 ≤ 2048) (v1 : Int32) (v2 : Int32) : wpX_set (fun r u' => wpY_set (fun r' v' => r' = r ∧ i_Rel (k + 4) u' v') v v1 v2) u v1 v2 := by
  obtain ⟨H, G, C, K, R, O⟩ := u
  obtain ⟨H', M⟩ := v
  obtain ⟨e, hH⟩ := I
  have e2 : H = H' := e
  subst e2
  have hH2 : ft_ok H := hH
  unfold wpX_set wpY_set
  dsimp only
  rcases ft_cell v1 with hb | ⟨j, hj, rfl⟩
  · exact xw_bad hb (br_t rfl (yw_bad hb (br_f (by decide) ⟨rfl, rfl, hH2⟩)))
  · refine xw_ok hj (br_f (by decide) ?_)
    by_cases a : v2 < 0
    · exact br_t a (yw_ok hj (br_t rfl (br_t a ⟨rfl, rfl, hH2⟩)))
    · refine br_f a ?_
      by_cases b : v2 ≤ 99
      · have hu : ft_ok (upd H (nI j).toNatClampNeg v2) := ft_ok_u hH2 (by
          rw [Int32.lt_iff_toInt_lt, ft_0] at a
          omega) (by
          rw [Int32.le_iff_toInt_le, ft_99] at b
          exact b)
        exact br_t b ⟨ft_vin hj, nm_e ⟨ft_vin hj, nm_e (yw_ok hj (br_t rfl (br_f a (br_t b ⟨ft_vin hj, nm_e ⟨ft_vin hj, nm_e ⟨rfl, rfl, hu⟩⟩⟩))))⟩⟩
      · exact br_f b (yw_ok hj (br_t rfl (br_f a (br_f b ⟨rfl, rfl, hH2⟩))))
theorem i_vc_shift {k : Nat} {u : SX} {v : SY} (I : i_Rel k u v) (hk : k + 4 ≤ 2048) (v1 : Int32) (v2 : Int32) (v3 : Int32) : wpX_shift (fun r u' => wpY_shift (fun r' v' => r' = r ∧ i_Rel (k + 4) u' v') v v1 v2 v3) u v1 v2 v3 := by
  obtain ⟨H, G, C, K, R, O⟩ := u
  obtain ⟨H', M⟩ := v
  obtain ⟨e, hH⟩ := I
  have e2 : H = H' := e
  subst e2
  have hH2 : ft_ok H := hH
  unfold wpX_shift wpY_shift
  dsimp only
  rcases ft_cell v1 with hb | ⟨a, ha, rfl⟩
  · exact xw_bad hb (br_t rfl (yw_bad hb (br_f (by decide) ⟨rfl, rfl, hH2⟩)))
  · refine xw_ok ha (br_f (by decide) ?_)
    rcases ft_cell v2 with hb | ⟨c, hc, rfl⟩
    · exact xw_bad hb (br_t rfl (yw_ok ha (br_t rfl (yw_bad hb (br_f (by decide) ⟨rfl, rfl, hH2⟩)))))
    · refine xw_ok hc (br_f (by decide) ⟨ft_n8, ft_n8, ?_⟩)
      rw [ft_r8 ha, ft_r8 hc, ft_q8 ha, ft_q8 hc]
      refine xw_lesser ⟨ft_n8, ft_n8, xw_greater ⟨ft_n8, ft_n8, xw_lesser ⟨ft_n8, ft_n8, xw_greater ?_⟩⟩⟩
      rw [ft_mn_n (by omega) (by omega), ft_mx_n (by omega) (by omega), ft_mn_n (by omega) (by omega), ft_mx_n (by omega) (by omega)]
      exact ⟨_, xw_sh75 _ _ _ _ v3 H (by omega) (by omega) (by omega) (by omega) (yw_ok ha (br_t rfl (yw_ok hc (br_t rfl ⟨65, yw_sh24 ha hc ⟨rfl, rfl, ft_ok_sh hH2 (fun x => ft_rs_ok v3 x) 64⟩⟩))))⟩
theorem i_vc_pattern {k : Nat} {u : SX} {v : SY} (I : i_Rel k u v) (hk : k + 4 ≤ 2048) (v1 : Int32) (v2 : Int32) : wpX_pattern (fun u' => wpY_pattern (fun v' => i_Rel (k + 4) u' v') v v1 v2) u v1 v2 := by
  obtain ⟨H, G, C, K, R, O⟩ := u
  obtain ⟨H', M⟩ := v
  obtain ⟨e, hH⟩ := I
  have e2 : H = H' := e
  subst e2
  exact xw_pattern (yw_pattern ⟨rfl, ft_pt_ok hH⟩)
theorem i_vc_height {k : Nat} {u : SX} {v : SY} (I : i_Rel k u v) (hk : k + 4 ≤ 2048) (v1 : Int32) : wpX_height (fun r => wpY_height (fun r' => r' = r ∧ i_Rel (k + 4) u v) v v1) u v1 := by
  obtain ⟨H, G, C, K, R, O⟩ := u
  obtain ⟨H', M⟩ := v
  obtain ⟨e, hH⟩ := I
  have e2 : H = H' := e
  subst e2
  unfold wpX_height wpY_height
  dsimp only
  rcases ft_cell v1 with hb | ⟨j, hj, rfl⟩
  · exact xw_bad hb (br_t rfl (yw_bad hb (br_f (by decide) ⟨rfl, rfl, hH⟩)))
  · exact xw_ok hj (br_f (by decide) ⟨ft_vin hj, yw_ok hj (br_t rfl ⟨ft_vin hj, rfl, rfl, hH⟩)⟩)
theorem i_vc_level {k : Nat} {u : SX} {v : SY} (I : i_Rel k u v) (hk : k + 4 ≤ 2048) (v1 : Int32) : wpX_level (fun r u' => wpY_level (fun r' v' => r' = r ∧ i_Rel (k + 4) u' v') v v1) u v1 := by
  obtain ⟨H, G, C, K, R, O⟩ := u
  obtain ⟨H', M⟩ := v
  obtain ⟨e, hH⟩ := I
  have e2 : H = H' := e
  subst e2
  have hH2 : ft_ok H := hH
  unfold wpX_level wpY_level
  dsimp only
  rcases ft_cell v1 with hb | ⟨j, hj, rfl⟩
  · exact xw_bad hb (br_t rfl (yw_bad hb (br_f (by decide) ⟨rfl, rfl, hH2⟩)))
  · refine xw_ok hj (br_f (by decide) (xw_levels hH2 (fun G' C' hC => ⟨ft_vin hj, yw_ok hj (br_t rfl (yw_levels hH2 (fun M' hM => ⟨ft_vin hj, ?_, rfl, hH2⟩)))⟩)))
    dsimp only
    rw [ft_c hj, hC j hj, hM j hj]
theorem i_vc_volume {k : Nat} {u : SX} {v : SY} (I : i_Rel k u v) (hk : k + 4 ≤ 2048) : wpX_volume (fun r u' => wpY_volume (fun r' v' => r' = r ∧ i_Rel (k + 4) u' v') v) u := by
  obtain ⟨H, G, C, K, R, O⟩ := u
  obtain ⟨H', M⟩ := v
  obtain ⟨e, hH⟩ := I
  have e2 : H = H' := e
  subst e2
  have hH2 : ft_ok H := hH
  unfold wpX_volume wpY_volume
  dsimp only
  exact xw_levels hH2 (fun G' C' hC => ⟨65, xw_vol8 (yw_levels hH2 (fun M' hM => ⟨65, yw_vol8 ⟨ft_vol (fun c hc => (hM c hc).trans (hC c hc).symm), rfl, hH2⟩⟩))⟩)
theorem i_vc_lakes {k : Nat} {u : SX} {v : SY} (I : i_Rel k u v) (hk : k + 4 ≤ 2048) : wpX_lakes (fun r u' => wpY_lakes (fun r' v' => r' = r ∧ i_Rel (k + 4) u' v') v) u := by
  obtain ⟨H, G, C, K, R, O⟩ := u
  obtain ⟨H', M⟩ := v
  obtain ⟨e, hH⟩ := I
  have e2 : H = H' := e
  subst e2
  have hH2 : ft_ok H := hH
  unfold wpX_lakes wpY_lakes
  dsimp only
  refine xw_lakes hH2 (fun G' C' K' R0 hK hR => ?_)
  dsimp only
  refine ⟨65, xw_lakes8 (yw_lakeMarks hH2 (fun M0 hM => ?_))⟩
  dsimp only
  exact ⟨65, yw_lakes8 ⟨(ft_cnt_eq 64 (ft_lake_count (ft_lake (ft_lk0 hK hR hM)))).symm, rfl, hH2⟩⟩
theorem i_vc_lakeSize {k : Nat} {u : SX} {v : SY} (I : i_Rel k u v) (hk : k + 4 ≤ 2048) (v1 : Int32) : wpX_lakeSize (fun r u' => wpY_lakeSize (fun r' v' => r' = r ∧ i_Rel (k + 4) u' v') v v1) u v1 := by
  obtain ⟨H, G, C, K, R, O⟩ := u
  obtain ⟨H', M⟩ := v
  obtain ⟨e, hH⟩ := I
  have e2 : H = H' := e
  subst e2
  have hH2 : ft_ok H := hH
  unfold wpX_lakeSize wpY_lakeSize
  dsimp only
  rcases ft_cell v1 with hb | ⟨j, hj, rfl⟩
  · exact xw_bad hb (br_t rfl (yw_bad hb (br_f (by decide) ⟨rfl, rfl, hH2⟩)))
  · refine xw_ok hj (br_f (by decide) (xw_lakes hH2 (fun G' C' K' R0 hK hR => ?_)))
    dsimp only
    refine ⟨ft_vin hj, ?_⟩
    rw [ft_c hj]
    by_cases z : ft_W H (ft_L0 H) j ≤ H j
    · have k0 : K' j = 0 := by rw [hK j hj, if_pos z]
      have k1 : ¬ K' j = 1 := by rw [k0]; decide
      refine br_t k0 (yw_ok hj (br_t rfl (yw_lakeMarks hH2 (fun M0 hM => ?_))))
      dsimp only
      refine ⟨ft_vin hj, ?_⟩
      exact br_t ((ft_lake_dry (ft_lake (ft_lk0 hK hR hM)) hj).mpr k1) ⟨rfl, rfl, hH2⟩
    · have k1 : K' j = 1 := by rw [hK j hj, if_neg z]
      have k0 : ¬ K' j = 0 := by rw [k1]; decide
      refine br_f k0 ⟨65, xw_size28 hj (yw_ok hj (br_t rfl (yw_lakeMarks hH2 (fun M0 hM => ?_))))⟩
      have lk := ft_lake (ft_lk0 hK hR hM)
      dsimp only
      refine ⟨ft_vin hj, ?_⟩
      exact br_f (fun q => (ft_lake_dry lk hj).mp q k1) ⟨65, yw_size31 hj ⟨(ft_cnt_eq 64 (ft_lake_size lk hj k1)).symm, rfl, hH2⟩⟩
theorem i_vc_pass {k : Nat} {u : SX} {v : SY} (I : i_Rel k u v) (hk : k + 4 ≤ 2048) (v1 : Int32) (v2 : Int32) : wpX_pass (fun r u' => wpY_pass (fun r' v' => r' = r ∧ i_Rel (k + 4) u' v') v v1 v2) u v1 v2 := by
  obtain ⟨H, G, C, K, R, O⟩ := u
  obtain ⟨H', M⟩ := v
  obtain ⟨e, hH⟩ := I
  have e2 : H = H' := e
  subst e2
  have hH2 : ft_ok H := hH
  unfold wpX_pass wpY_pass
  dsimp only
  rcases ft_cell v1 with hb | ⟨a, ha, rfl⟩
  · exact xw_bad hb (br_t rfl (yw_bad hb (br_f (by decide) ⟨rfl, rfl, hH2⟩)))
  · refine xw_ok ha (br_f (by decide) ?_)
    rcases ft_cell v2 with hb | ⟨b, hbb, rfl⟩
    · exact xw_bad hb (br_t rfl (yw_ok ha (br_t rfl (yw_bad hb (br_f (by decide) ⟨rfl, rfl, hH2⟩)))))
    · refine xw_ok hbb (br_f (by decide) (xw_useHeights (fun G' hG => ?_)))
      dsimp only
      refine xw_from ha (fun C0 hC => ⟨ft_vin hbb, yw_ok ha (br_t rfl (yw_ok hbb (br_t rfl (yw_passes ha hH2 (fun M' hM => ⟨ft_vin hbb, ?_, rfl, hH2⟩)))))⟩)
      dsimp only
      rw [ft_c hbb, hM b hbb, ft_wx hG (ft_a0_G hG hC) (ft_a0_le hH2 a) b hbb]
theorem i_vc_reach {k : Nat} {u : SX} {v : SY} (I : i_Rel k u v) (hk : k + 4 ≤ 2048) (v1 : Int32) (v2 : Int32) : wpX_reach (fun r u' => wpY_reach (fun r' v' => r' = r ∧ i_Rel (k + 4) u' v') v v1 v2) u v1 v2 := by
  obtain ⟨H, G, C, K, R, O⟩ := u
  obtain ⟨H', M⟩ := v
  obtain ⟨e, hH⟩ := I
  have e2 : H = H' := e
  subst e2
  have hH2 : ft_ok H := hH
  unfold wpX_reach wpY_reach
  dsimp only
  rcases ft_cell v1 with hb | ⟨a, ha, rfl⟩
  · exact xw_bad hb (br_t rfl (yw_bad hb (br_f (by decide) ⟨rfl, rfl, hH2⟩)))
  · refine xw_ok ha (br_f (by decide) (xw_useHeights (fun G' hG => ?_)))
    dsimp only
    refine xw_from ha (fun C0 hC => ⟨65, xw_reach23 (yw_ok ha (br_t rfl (yw_passes ha hH2 (fun M' hM => ⟨65, yw_reach20 ⟨ft_cnt_eq 64 (fun c hc => ?_), rfl, hH2⟩⟩))))⟩)
    dsimp only
    rw [hM c hc, ft_wx hG (ft_a0_G hG hC) (ft_a0_le hH2 a) c hc]
theorem i_vc_prominence {k : Nat} {u : SX} {v : SY} (I : i_Rel k u v) (hk : k + 4 ≤ 2048) (v1 : Int32) : wpX_prominence (fun r u' => wpY_prominence (fun r' v' => r' = r ∧ i_Rel (k + 4) u' v') v v1) u v1 := by
  obtain ⟨H, G, C, K, R, O⟩ := u
  obtain ⟨H', M⟩ := v
  obtain ⟨e, hH⟩ := I
  have e2 : H = H' := e
  subst e2
  have hH2 : ft_ok H := hH
  unfold wpX_prominence
  dsimp only
  rcases ft_cell v1 with hb | ⟨a, ha, rfl⟩
  · refine xw_bad hb (br_t rfl ?_)
    unfold wpY_prominence
    dsimp only
    exact yw_bad hb (br_f (by decide) ⟨rfl, rfl, hH2⟩)
  · refine xw_ok ha (br_f (by decide) (xw_upside (fun G' hG => ?_)))
    dsimp only
    refine xw_from ha (fun C0 hC => ?_)
    dsimp only
    refine ⟨65, xw_prom23 ha (fun e => ?_) (fun e => ?_)⟩
    · refine yw_prominence ha (fun M0 hM z => ?_) (fun M0 hM z => ?_)
      · have d := ft_descent (h := H) (a := a) (ft_ud0 hH2 hG hC hM)
        rw [e, ft_100] at d
        rw [Int32.le_iff_toInt_le, ft_0] at z
        omega
      · exact ⟨by rw [← ft_low], rfl, hH2⟩
    · refine yw_prominence ha (fun M0 hM z => ?_) (fun M0 hM z => ?_)
      · have d := ft_descent (h := H) (a := a) (ft_ud0 hH2 hG hC hM)
        exact ⟨(ft_prom d.1 (by rw [hG a ha]; exact ft_99m (hH2 a).1 (hH2 a).2)).symm, rfl, hH2⟩
      · have d := ft_descent (h := H) (a := a) (ft_ud0 hH2 hG hC hM)
        refine absurd ?_ e
        rw [Int32.le_iff_toInt_le, ft_0] at z
        apply Int32.toInt_inj.mp
        rw [ft_100]
        omega
theorem i_vc_summits {k : Nat} {u : SX} {v : SY} (I : i_Rel k u v) (hk : k + 4 ≤ 2048) : wpX_summits (fun r u' => wpY_summits (fun r' v' => r' = r ∧ i_Rel (k + 4) u' v') v) u := by
  obtain ⟨H, G, C, K, R, O⟩ := u
  obtain ⟨H', M⟩ := v
  obtain ⟨e, hH⟩ := I
  have e2 : H = H' := e
  subst e2
  exact xw_summits (fun K' R0 O0 hK hR hO => yw_summits (fun M0 hM => ⟨ft_sum_eq hK hR hO hM, rfl, hH⟩))
