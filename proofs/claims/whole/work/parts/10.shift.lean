/-! shift: both sides against the picture ft_sh, ft_cnt -/
def ft_rs (m x : Int32) : Int32 := if 0 ≤ x.toInt64 + m.toInt64 then (if x.toInt64 + m.toInt64 ≤ 99 then (x.toInt64 + m.toInt64).toInt32 else 99) else 0
theorem ft_rs_ok (m x : Int32) : 0 ≤ (ft_rs m x).toInt ∧ (ft_rs m x).toInt ≤ 99 := by
  unfold ft_rs
  generalize x.toInt64 + m.toInt64 = s
  by_cases h0 : 0 ≤ s
  · rw [if_pos h0]
    by_cases h1 : s ≤ 99
    · rw [if_pos h1]
      rw [Int64.le_iff_toInt_le, show (0 : Int64).toInt = 0 from by decide] at h0
      rw [Int64.le_iff_toInt_le, show (99 : Int64).toInt = 99 from by decide] at h1
      rw [Int64.toInt_toInt32, Int.bmod_eq_of_le (by omega) (by omega)]
      exact ⟨h0, h1⟩
    · rw [if_neg h1, ft_99]; omega
  · rw [if_neg h0, ft_0]; omega
theorem xw_raised {post : Int32 → Prop} {x m : Int32} (h : post (ft_rs m x)) : wpX_raised post x m := by
  unfold ft_rs at h
  refine nm_e ?_
  by_cases h0 : 0 ≤ x.toInt64 + m.toInt64
  · rw [if_pos h0] at h
    by_cases h1 : x.toInt64 + m.toInt64 ≤ 99
    · rw [if_pos h1] at h; exact br_t h0 (br_t h1 h)
    · rw [if_neg h1] at h; exact br_t h0 (br_f h1 h)
  · rw [if_neg h0] at h; exact br_f h0 h
/-- what the shift counts -/
def ft_q (p : Nat → Prop) (m : Int32) (h : Nat → Int32) (j : Nat) : Prop := p j ∧ ¬ ft_rs m (h j) = h j
theorem ft_i8 {i j : Nat} : nI i * 8 + nI j = nI (i * 8 + j) := by
  have e : nI i * 8 = nI (i * 8) := pk_mul i 8
  rw [e, nI_add]
section
variable (t b l r : Nat) (m : Int32) (h : Nat → Int32)
theorem xw_sh86 {post : Int32 → SX → Prop} {J75 : Int32 → Int32 → (Nat → Int32) → (Nat → Int32) → (Nat → Int32) → (Nat → Int32) → (Nat → Int32) → (Nat → Int32) → Prop} {x5 : Int32} {G C K R O : Nat → Int32} {i : Nat} (hb : b < 8) (hr : r < 8) (hlr : l ≤ r) (hti : t ≤ i) (hib : i ≤ b)
    (hJ : J75 (ft_cnt (ft_q (ft_in t b l r) m h) (i * 8 + (r + 1))) (nI (i + 1)) (ft_sh (ft_in t b l r) (ft_rs m) h (i * 8 + (r + 1))) G C K R O) :
    wX_shift_86 post J75 m x5 (nI l) (nI r) (nI i) (r + 1 - l + 1) (ft_cnt (ft_q (ft_in t b l r) m h) (i * 8 + l)) (nI l) (ft_sh (ft_in t b l r) (ft_rs m) h (i * 8 + l)) G C K R O := by
  refine ft_iv_loop (fun n j (s : Int32 × (Nat → Int32)) => wX_shift_86 post J75 m x5 (nI l) (nI r) (nI i) n s.1 (nI j) s.2 G C K R O) (fun j s => l ≤ j ∧ s = (ft_cnt (ft_q (ft_in t b l r) m h) (i * 8 + j), ft_sh (ft_in t b l r) (ft_rs m) h (i * 8 + j))) (r + 1) ?_ ?_ (r + 1 - l) l (ft_cnt (ft_q (ft_in t b l r) m h) (i * 8 + l), ft_sh (ft_in t b l r) (ft_rs m) h (i * 8 + l)) (by omega) ⟨Nat.le_refl l, rfl⟩
  · intro n s ⟨_, e⟩
    subst e
    exact br_t (nI_lt (by omega) (by omega)) (nm_r (nI_1 i) hJ)
  · intro n j s hj ⟨hlj, e⟩ k
    subst e
    have hp : ft_in t b l r (i * 8 + j) := by unfold ft_in; omega
    have hc : i * 8 + j < 64 := by omega
    refine br_f (nI_nlt (by omega) (by omega)) (nm_r ft_i8 ⟨ft_vin hc, nm_r (e' := h (i * 8 + j)) (by rw [ft_c hc]; exact ft_sh_at) (xw_raised ⟨ft_vin hc, nm_r (e' := ft_sh (ft_in t b l r) (ft_rs m) h (i * 8 + j + 1)) (by rw [ft_c hc]; exact ft_sh_step hp) ⟨ft_vin hc, ?_⟩⟩)⟩)
    rw [ft_c hc, ft_sh_in (j := i * 8 + j) ⟨by omega, hp⟩]
    by_cases z : ft_rs m (h (i * 8 + j)) = h (i * 8 + j)
    · refine br_t z (nm_r (nI_1 j) ?_)
      have e := ft_cnt_s (ft_q (ft_in t b l r) m h) (i * 8 + j)
      rw [ft_ct_f (fun q => q.2 z)] at e
      rw [← e]
      exact k (ft_cnt (ft_q (ft_in t b l r) m h) (i * 8 + j + 1), ft_sh (ft_in t b l r) (ft_rs m) h (i * 8 + j + 1)) ⟨by omega, rfl⟩
    · have e := ft_cnt_s (ft_q (ft_in t b l r) m h) (i * 8 + j)
      rw [ft_ct_t ⟨hp, z⟩] at e
      refine br_f z (nm_r e.symm (nm_r (nI_1 j) ?_))
      exact k (ft_cnt (ft_q (ft_in t b l r) m h) (i * 8 + j + 1), ft_sh (ft_in t b l r) (ft_rs m) h (i * 8 + j + 1)) ⟨by omega, rfl⟩
theorem xw_sh75 {post : Int32 → SX → Prop} {G C K R O : Nat → Int32} (hb : b < 8) (hr : r < 8) (hlr : l ≤ r) (htb : t ≤ b)
    (hp : post (ft_cnt (ft_q (ft_in t b l r) m h) 64) (ft_sh (ft_in t b l r) (ft_rs m) h 64, G, C, K, R, O)) :
    wX_shift_75 post m (nI b) (nI l) (nI r) (b + 1 - t + 1) 0 (nI t) h G C K R O := by
  refine ft_iv_loop (fun n i (s : Int32 × (Nat → Int32)) => wX_shift_75 post m (nI b) (nI l) (nI r) n s.1 (nI i) s.2 G C K R O) (fun i s => t ≤ i ∧ s = (ft_cnt (ft_q (ft_in t b l r) m h) (i * 8 + l), ft_sh (ft_in t b l r) (ft_rs m) h (i * 8 + l))) (b + 1) ?_ ?_ (b + 1 - t) t (0, h) (by omega) ⟨Nat.le_refl t, ?_⟩
  · intro n s ⟨_, e⟩
    subst e
    refine br_t (nI_lt (by omega) (by omega)) ?_
    have e1 : ft_cnt (ft_q (ft_in t b l r) m h) ((b + 1) * 8 + l) = ft_cnt (ft_q (ft_in t b l r) m h) 72 := ft_cnt_skip 72 (by omega) (fun j h1 _ q => by have := q.1; unfold ft_in at this; omega)
    have e2 : ft_cnt (ft_q (ft_in t b l r) m h) 64 = ft_cnt (ft_q (ft_in t b l r) m h) 72 := ft_cnt_skip 72 (by omega) (fun j h1 _ q => by have := q.1; unfold ft_in at this; omega)
    have e3 : ft_sh (ft_in t b l r) (ft_rs m) h ((b + 1) * 8 + l) = ft_sh (ft_in t b l r) (ft_rs m) h 72 := ft_sh_skip (by omega) (fun j h1 _ q => by unfold ft_in at q; omega)
    have e4 : ft_sh (ft_in t b l r) (ft_rs m) h 64 = ft_sh (ft_in t b l r) (ft_rs m) h 72 := ft_sh_skip (by omega) (fun j h1 _ q => by unfold ft_in at q; omega)
    rw [e1, e3, ← e2, ← e4]
    exact hp
  · intro n i s hi ⟨hti, e⟩ k
    subst e
    refine br_f (nI_nlt (by omega) (by omega)) ⟨r + 1 - l + 1, xw_sh86 t b l r m h hb hr hlr hti (by omega) ?_⟩
    have e1 : ft_cnt (ft_q (ft_in t b l r) m h) (i * 8 + (r + 1)) = ft_cnt (ft_q (ft_in t b l r) m h) ((i + 1) * 8 + l) := ft_cnt_skip _ (by omega) (fun j h1 h2 q => by have := q.1; unfold ft_in at this; omega)
    have e3 : ft_sh (ft_in t b l r) (ft_rs m) h (i * 8 + (r + 1)) = ft_sh (ft_in t b l r) (ft_rs m) h ((i + 1) * 8 + l) := ft_sh_skip (by omega) (fun j h1 h2 q => by unfold ft_in at q; omega)
    rw [e1, e3]
    exact k (ft_cnt (ft_q (ft_in t b l r) m h) ((i + 1) * 8 + l), ft_sh (ft_in t b l r) (ft_rs m) h ((i + 1) * 8 + l)) ⟨by omega, rfl⟩
  · rw [ft_cnt_0 (fun j h1 q => by have := q.1; unfold ft_in at this; omega), ft_sh_0 (fun j h1 q => by unfold ft_in at q; omega)]
end
theorem yw_between {post : Int32 → Prop} {H M : Nat → Int32} {x a b : Nat} (hx : x < 64) (ha : a < 64) (hb : b < 64) (h1 : min a b ≤ x ∧ x ≤ max a b → post 1) (h0 : ¬ (min a b ≤ x ∧ x ≤ max a b) → post 0) : wpY_between post (H, M) (nI x) (nI a) (nI b) := by
  unfold wpY_between
  dsimp only
  refine yw_least ?_
  rw [ft_mn_n ha hb]
  refine pk_lt x (min a b) (fun z => h0 (by omega)) (fun z => yw_most ?_)
  rw [ft_mx_n ha hb]
  exact pk_lt (max a b) x (fun y => h0 (by omega)) (fun y => h1 (by omega))
theorem yw_sh112 {post : Int32 → SY → Prop} {J24 : Int32 → Int32 → (Nat → Int32) → (Nat → Int32) → Prop} {x1 x2 x3 n : Int32} {H M : Nat → Int32} {z : Int32} {i : Nat} (hi : i < 64) (ht : z = H i → J24 n (nI (i + 1)) (upd H i z) M) (hf : ¬ z = H i → J24 (n + 1) (nI (i + 1)) (upd H i z) M) : wY_shift_112 post J24 x1 x2 x3 n (nI i) z H M := by
  refine ⟨ft_vin hi, ?_⟩
  rw [ft_c hi]
  exact br_c (fun e => ⟨ft_vin hi, nm_e (nm_r (nI_1 i) (ht e))⟩) (fun e => nm_e ⟨ft_vin hi, nm_e (nm_r (nI_1 i) (hf e))⟩)
theorem yw_sh24 {post : Int32 → SY → Prop} {M h : Nat → Int32} {a c : Nat} {m : Int32} (ha : a < 64) (hc : c < 64)
    (hp : post (ft_cnt (ft_q (ft_in (min (a / 8) (c / 8)) (max (a / 8) (c / 8)) (min (a % 8) (c % 8)) (max (a % 8) (c % 8))) m h) 64) (ft_sh (ft_in (min (a / 8) (c / 8)) (max (a / 8) (c / 8)) (min (a % 8) (c % 8)) (max (a % 8) (c % 8))) (ft_rs m) h 64, M)) :
    wY_shift_24 post (nI a) (nI c) m 65 0 0 h M := by
  generalize hP : ft_in (min (a / 8) (c / 8)) (max (a / 8) (c / 8)) (min (a % 8) (c % 8)) (max (a % 8) (c % 8)) = p at hp
  have hpi : ∀ i, p i ↔ (min (a / 8) (c / 8) ≤ i / 8 ∧ i / 8 ≤ max (a / 8) (c / 8)) ∧ (min (a % 8) (c % 8) ≤ i % 8 ∧ i % 8 ≤ max (a % 8) (c % 8)) := by
    intro i
    rw [← hP]
    unfold ft_in
    constructor
    · intro ⟨h1, h2, h3, h4⟩; exact ⟨⟨h1, h2⟩, h3, h4⟩
    · intro ⟨⟨h1, h2⟩, h3, h4⟩; exact ⟨h1, h2, h3, h4⟩
  refine ft_iv_loop (fun n i (s : Int32 × (Nat → Int32)) => wY_shift_24 post (nI a) (nI c) m n s.1 (nI i) s.2 M) (fun i s => s = (ft_cnt (ft_q p m h) i, ft_sh p (ft_rs m) h i)) 64 ?_ ?_ 64 0 (0, h) (by omega) ?_
  · intro n s e
    subst e
    exact br_t ft_g64 hp
  · intro n i s hi e k
    subst e
    have hno : ¬ p i → wY_shift_24 post (nI a) (nI c) m n (ft_cnt (ft_q p m h) i) (nI (i + 1)) (ft_sh p (ft_rs m) h i) M := by
      intro np
      have e1 : ft_cnt (ft_q p m h) i = ft_cnt (ft_q p m h) (i + 1) := by rw [ft_cnt_s, ft_ct_f (fun q => np q.1)]
      have e2 : ft_sh p (ft_rs m) h i = ft_sh p (ft_rs m) h (i + 1) := ft_sh_skip (by omega) (fun j h1 h2 q => np (by
        have : j = i := by omega
        rw [← this]; exact q))
      rw [e1, e2]
      exact k _ rfl
    refine br_f (ft_l64 hi) ⟨ft_n8, ft_n8, ft_n8, ?_⟩
    dsimp only
    rw [ft_r8 hi, ft_r8 ha, ft_r8 hc, ft_q8 hi, ft_q8 ha, ft_q8 hc]
    have main : ∀ z, z = ft_rs m (h i) → wY_shift_112 post (wY_shift_24 post (nI a) (nI c) m n) (nI a) (nI c) m (ft_cnt (ft_q p m h) i) (nI i) z (ft_sh p (ft_rs m) h i) M ∨ ¬ p i := by
      intro z ez
      by_cases pi : p i
      · left
        subst ez
        refine yw_sh112 hi (fun e => ?_) (fun e => ?_)
        · rw [ft_sh_at] at e
          have e1 := ft_cnt_s (ft_q p m h) i
          rw [ft_ct_f (fun q => q.2 e)] at e1
          rw [ft_sh_step pi, ← e1]
          exact k _ rfl
        · rw [ft_sh_at] at e
          have e1 := ft_cnt_s (ft_q p m h) i
          rw [ft_ct_t ⟨pi, e⟩] at e1
          rw [ft_sh_step pi, ← e1]
          exact k _ rfl
      · exact Or.inr pi
    refine yw_between (by omega) (by omega) (by omega) (fun z1 => ?_) (fun z1 => ?_)
    · refine br_f (by decide) ⟨ft_n8, ft_n8, ft_n8, yw_between (by omega) (by omega) (by omega) (fun z2 => ?_) (fun z2 => ?_)⟩
      · have pi : p i := (hpi i).mpr ⟨z1, z2⟩
        have main2 := fun z ez => (main z ez).resolve_right (fun q => q pi)
        refine br_f (by decide) ⟨ft_vin hi, nm_e ?_⟩
        rw [ft_c hi, ft_sh_at]
        unfold ft_rs at main2
        by_cases h0 : 0 ≤ (h i).toInt64 + m.toInt64
        · rw [if_pos h0] at main2
          by_cases h1 : (h i).toInt64 + m.toInt64 ≤ 99
          · rw [if_pos h1] at main2
            exact br_t h0 (br_t h1 (main2 _ rfl))
          · rw [if_neg h1] at main2
            exact br_t h0 (br_f h1 (main2 _ rfl))
        · rw [if_neg h0] at main2
          exact br_f h0 (main2 _ rfl)
      · exact br_t rfl (nm_r (nI_1 i) (hno (fun q => z2 ((hpi i).mp q).2)))
    · exact br_t rfl (nm_r (nI_1 i) (hno (fun q => z1 ((hpi i).mp q).1)))
  · rw [ft_sh_0 (fun j h1 _ => absurd h1 (Nat.not_lt_zero j))]
    rfl
