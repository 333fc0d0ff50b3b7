/-! the small methods of both sides -/
theorem ft_n8 : ¬ (8 : Int32) = 0 := by decide
theorem ft_g64 : (64 : Int32) ≤ nI 64 := Int32.le_refl _
theorem ft_g4 : (4 : Int32) ≤ nI 4 := Int32.le_refl _
theorem ft_l64 {i : Nat} (h : i < 64) : ¬ (64 : Int32) ≤ nI i := nI_ge (b := 64) h (by decide)
theorem ft_l4 {i : Nat} (h : i < 4) : ¬ (4 : Int32) ≤ nI i := nI_ge (b := 4) h (by decide)
theorem ft_vin {i : Nat} (h : i < 64) : vp_in (nI i) 64 := vp_in_nI h (by decide)
theorem ft_c {i : Nat} (h : i < 64) : (nI i).toNatClampNeg = i := nI_clamp (by omega)
theorem ft_q8 {i : Nat} (h : i < 64) : nI i / 8 = nI (i / 8) := pk_div (d := 8) (by omega) (by decide) (by decide)
theorem ft_r8 {i : Nat} (h : i < 64) : nI i - nI i / 8 * 8 = nI (i % 8) := pk_rem (d := 8) (by omega) (by decide) (by decide)
theorem ft_nm1 {i : Nat} (h : i < 64) : ¬ nI i = -1 := by
  intro z
  have e := congrArg Int32.toInt z
  rw [ft_nI_i h, ft_m1] at e
  omega
theorem ft_upd_self (f : Nat → Int32) (k : Nat) : upd f k (f k) = f := by
  funext j
  by_cases h : j = k
  · subst h; exact pk_us
  · exact pk_un h
theorem ft_upd_upd (f : Nat → Int32) (k : Nat) (x y : Int32) : upd (upd f k x) k y = upd f k y := by
  funext j
  by_cases h : j = k
  · subst h; rw [pk_us, pk_us]
  · rw [pk_un h, pk_un h, pk_un h]
theorem ft_mn_n {a b : Nat} (ha : a < 64) (hb : b < 64) : ft_mn (nI a) (nI b) = nI (min a b) := by
  apply Int32.toInt_inj.mp
  rw [ft_mn_i, ft_nI_i ha, ft_nI_i hb, ft_nI_i (by omega)]
  omega
theorem ft_mx_n {a b : Nat} (ha : a < 64) (hb : b < 64) : ft_mx (nI a) (nI b) = nI (max a b) := by
  apply Int32.toInt_inj.mp
  rw [ft_mx_i, ft_nI_i ha, ft_nI_i hb, ft_nI_i (by omega)]
  omega
theorem xw_lesser {post : Int32 → Prop} {a b : Int32} (h : post (ft_mn a b)) : wpX_lesser post a b := by
  unfold ft_mn at h
  by_cases c : a < b
  · rw [if_pos c] at h; exact br_f (Int32.not_le.mpr c) h
  · rw [if_neg c] at h; exact br_t (Int32.not_lt.mp c) h
theorem xw_greater {post : Int32 → Prop} {a b : Int32} (h : post (ft_mx a b)) : wpX_greater post a b := by
  unfold ft_mx at h
  by_cases c : b < a
  · rw [if_pos c] at h; exact br_f (Int32.not_le.mpr c) h
  · rw [if_neg c] at h; exact br_t (Int32.not_lt.mp c) h
theorem yw_least {post : Int32 → Prop} {H M : Nat → Int32} {a b : Int32} (h : post (ft_mn a b)) : wpY_least post (H, M) a b := by
  unfold ft_mn at h
  by_cases c : a < b
  · rw [if_pos c] at h; exact br_f (Int32.not_le.mpr c) h
  · rw [if_neg c] at h; exact br_t (Int32.not_lt.mp c) h
theorem yw_most {post : Int32 → Prop} {H M : Nat → Int32} {a b : Int32} (h : post (ft_mx a b)) : wpY_most post (H, M) a b := by
  unfold ft_mx at h
  by_cases c : b < a
  · rw [if_pos c] at h; exact br_f (Int32.not_le.mpr c) h
  · rw [if_neg c] at h; exact br_t (Int32.not_lt.mp c) h
theorem xw_bad {post : Int32 → Prop} {p : Int32} (h : p < 0 ∨ nI 64 ≤ p) (z : post 0) : wpX_isCell post p := by
  rcases h with h | h
  · exact br_t h z
  · have h0 : ¬ p < 0 := by
      rw [Int32.lt_iff_toInt_lt, ft_0]
      rw [Int32.le_iff_toInt_le, nI_toInt (by omega)] at h
      omega
    exact br_f h0 (br_t h z)
theorem xw_ok {post : Int32 → Prop} {j : Nat} (h : j < 64) (z : post 1) : wpX_isCell post (nI j) :=
  br_f (nI_pos (by omega)) (br_f (ft_l64 h) z)
theorem yw_bad {post : Int32 → Prop} {H M : Nat → Int32} {p : Int32} (h : p < 0 ∨ nI 64 ≤ p) (z : post 1) : wpY_bad post (H, M) p := by
  rcases h with h | h
  · exact br_t h z
  · rw [Int32.le_iff_toInt_le, nI_toInt (by omega)] at h
    have h0 : ¬ p < 0 := by
      rw [Int32.lt_iff_toInt_lt, ft_0]
      omega
    have h1 : ¬ p ≤ 63 := by
      rw [Int32.le_iff_toInt_le, show (63 : Int32).toInt = 63 from by decide]
      omega
    exact br_f h0 (br_f h1 z)
theorem yw_ok {post : Int32 → Prop} {H M : Nat → Int32} {j : Nat} (h : j < 64) (z : post 0) : wpY_bad post (H, M) (nI j) :=
  br_f (nI_pos (by omega)) (br_t (nI_le (b := 63) (by omega) (by decide)) z)
/-- a cell, or not -/
theorem ft_cell (x : Int32) : (x < 0 ∨ nI 64 ≤ x) ∨ ∃ j : Nat, j < 64 ∧ x = nI j := by
  rcases pk_ix x (n := 64) (by decide) with h | h | h
  · exact Or.inl (Or.inl h)
  · exact Or.inl (Or.inr h)
  · exact Or.inr h
theorem ft_nb0 (c : Nat) : ft_nb c 0 = if c < 8 then 64 else c - 8 := rfl
theorem ft_nb1 (c : Nat) : ft_nb c 1 = if 55 < c then 64 else c + 8 := rfl
theorem ft_nb2 (c : Nat) : ft_nb c 2 = if c % 8 = 0 then 64 else c - 1 := rfl
theorem ft_nb3 (c : Nat) : ft_nb c 3 = if c % 8 = 7 then 64 else c + 1 := rfl
theorem ft_d4 {d : Nat} (h : d < 4) : d = 0 ∨ d = 1 ∨ d = 2 ∨ d = 3 := by omega
theorem ft_s8 {c : Nat} (h : 8 ≤ c) : nI c - 8 = nI (c - 8) := pk_sub (b := 8) h
theorem ft_s1 {c : Nat} (h : 1 ≤ c) : nI c - 1 = nI (c - 1) := pk_sub (b := 1) h
theorem ft_a8 {c : Nat} : nI c + 8 = nI (c + 8) := nI_add c 8
theorem xw_nbr {post : Int32 → Prop} {c d : Nat} (hc : c < 64) (hd : d < 4) (hn : ft_nb c d = 64 → post (-1)) (hs : ¬ ft_nb c d = 64 → post (nI (ft_nb c d))) : wpX_neighbour post (nI c) (nI d) := by
  refine ⟨ft_n8, nm_r (ft_q8 hc) ⟨ft_n8, nm_r (ft_r8 hc) (br_f (nI_pos (by omega)) ?_)⟩⟩
  rcases ft_d4 hd with rfl | rfl | rfl | rfl
  · refine br_f (nI_nlt (a := 2) (b := 0) (by omega) (by decide)) (br_t rfl (pk_le (c / 8) 0 (fun h => ?_) (fun h => ?_)))
    · exact hn (by rw [ft_nb0, if_pos (by omega)])
    · have e : ft_nb c 0 = c - 8 := by rw [ft_nb0, if_neg (by omega)]
      rw [e] at hs
      rw [ft_s8 (by omega)]
      exact hs (by omega)
  · refine br_f (nI_nlt (a := 2) (b := 1) (by omega) (by decide)) (br_f (by decide) (br_t rfl (pk_le 7 (c / 8) (fun h => ?_) (fun h => ?_))))
    · exact hn (by rw [ft_nb1, if_pos (by omega)])
    · have e : ft_nb c 1 = c + 8 := by rw [ft_nb1, if_neg (by omega)]
      rw [e] at hs
      rw [ft_a8]
      exact hs (by omega)
  · refine br_f (nI_nlt (a := 2) (b := 2) (by omega) (by decide)) (br_f (by decide) (br_f (by decide) (br_t rfl (pk_le (c % 8) 0 (fun h => ?_) (fun h => ?_)))))
    · exact hn (by rw [ft_nb2, if_pos (by omega)])
    · have e : ft_nb c 2 = c - 1 := by rw [ft_nb2, if_neg (by omega)]
      rw [e] at hs
      rw [ft_s1 (by omega)]
      exact hs (by omega)
  · refine br_t (nI_lt (a := 2) (b := 3) (by omega) (by decide)) (pk_le 7 (c % 8) (fun h => ?_) (fun h => ?_))
    · exact hn (by rw [ft_nb3, if_pos (by omega)])
    · have e : ft_nb c 3 = c + 1 := by rw [ft_nb3, if_neg (by omega)]
      rw [e] at hs
      rw [nI_1]
      exact hs (by omega)
theorem yw_nbr {post : Int32 → Prop} {H M : Nat → Int32} {c d : Nat} (hc : c < 64) (hd : d < 4) (hn : ft_nb c d = 64 → post (-1)) (hs : ¬ ft_nb c d = 64 → post (nI (ft_nb c d))) : wpY_beside post (H, M) (nI c) (nI d) := by
  rcases ft_d4 hd with rfl | rfl | rfl | rfl
  · refine br_t rfl (pk_le 8 c (fun h => ?_) (fun h => ?_))
    · have e : ft_nb c 0 = c - 8 := by rw [ft_nb0, if_neg (by omega)]
      rw [e] at hs
      rw [ft_s8 (by omega)]
      exact hs (by omega)
    · exact hn (by rw [ft_nb0, if_pos (by omega)])
  · refine br_f (by decide) (br_t rfl (pk_le c 55 (fun h => ?_) (fun h => ?_)))
    · have e : ft_nb c 1 = c + 8 := by rw [ft_nb1, if_neg (by omega)]
      rw [e] at hs
      rw [ft_a8]
      exact hs (by omega)
    · exact hn (by rw [ft_nb1, if_pos (by omega)])
  · refine br_f (by decide) (br_f (by decide) (br_t rfl ⟨ft_n8, pk_eq (c % 8) 0 (fun h => ?_) (fun h => ?_) (ft_r8 hc)⟩))
    · exact hn (by rw [ft_nb2, if_pos (by omega)])
    · have e : ft_nb c 2 = c - 1 := by rw [ft_nb2, if_neg (by omega)]
      rw [e] at hs
      rw [ft_s1 (by omega)]
      exact hs (by omega)
  · refine br_f (by decide) (br_f (by decide) (br_f (by decide) ⟨ft_n8, pk_eq (c % 8) 7 (fun h => ?_) (fun h => ?_) (ft_r8 hc)⟩))
    · exact hn (by rw [ft_nb3, if_pos (by omega)])
    · have e : ft_nb c 3 = c + 1 := by rw [ft_nb3, if_neg (by omega)]
      rw [e] at hs
      rw [nI_1]
      exact hs (by omega)
/-- the border -/
def ft_bd (c : Nat) : Prop := c < 8 ∨ 55 < c ∨ c % 8 = 0 ∨ c % 8 = 7
theorem xw_bd {post : Int32 → Prop} {c : Nat} (hc : c < 64) (h1 : ft_bd c → post 1) (h0 : ¬ ft_bd c → post 0) : wpX_isBorder post (nI c) := by
  unfold ft_bd at h1 h0
  refine ⟨ft_n8, nm_r (ft_q8 hc) ⟨ft_n8, nm_r (ft_r8 hc) (pk_eq (c / 8) 0 (fun e => h1 (by omega)) (fun n1 => pk_eq (c / 8) 7 (fun e => h1 (by omega)) (fun n2 => pk_eq (c % 8) 0 (fun e => h1 (by omega)) (fun n3 => pk_eq (c % 8) 7 (fun e => h1 (by omega)) (fun n4 => h0 (by omega))))))⟩⟩
theorem yw_bd {post : Int32 → Prop} {H M : Nat → Int32} {c : Nat} (hc : c < 64) (h1 : ft_bd c → post 1) (h0 : ¬ ft_bd c → post 0) : wpY_border post (H, M) (nI c) := by
  unfold ft_bd at h1 h0
  exact pk_lt c 8 (fun e => h1 (by omega)) (fun n1 => pk_lt 55 c (fun e => h1 (by omega)) (fun n2 => ⟨ft_n8, pk_eq (c % 8) 0 (fun e => h1 (by omega)) (fun n3 => ⟨ft_n8, pk_eq (c % 8) 7 (fun e => h1 (by omega)) (fun n4 => h0 (by omega)) (ft_r8 hc)⟩) (ft_r8 hc)⟩))
