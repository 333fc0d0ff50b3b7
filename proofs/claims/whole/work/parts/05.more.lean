/-! the descent, the marks of what is overlooked, the shift -/
theorem ft_it_snoc {S : Type} (f : Nat → S → S) : ∀ d i s, ft_it f i (d + 1) s = f (i + d) (ft_it f i d s) := by
  intro d
  induction d with
  | zero => intro i s; rfl
  | succ d ih =>
    intro i s
    show ft_it f (i + 1) (d + 1) (f i s) = f (i + (d + 1)) (ft_it f (i + 1) d (f i s))
    rw [ih, show i + 1 + d = i + (d + 1) by omega]
theorem ft_iv_loop {S : Type} (W : Nat → Nat → S → Prop) (I : Nat → S → Prop) (e : Nat) (hx : ∀ n s, I e s → W (n + 1) e s) (hs : ∀ n i s, i < e → I i s → (∀ s', I (i + 1) s' → W n (i + 1) s') → W (n + 1) i s) : ∀ d i s, i + d = e → I i s → W (d + 1) i s := by
  intro d
  induction d with
  | zero => intro i s h hi; cases h; exact hx 0 s hi
  | succ d ih => intro i s h hi; exact hs (d + 1) i s (by omega) hi (fun s' hi' => ih (i + 1) s' (by omega) hi')
/-- the descent to higher cells: X from above, Y with the least height beside it -/
def ft_dx (h cr : Nat → Int32) (a : Nat) (o : Nat) (s : Int32) : Int32 := if h a < h o then ft_mn s (cr o) else s
def ft_lw (h : Nat → Int32) (o : Nat) (s : Int32) : Int32 := ft_mn s (h o)
def ft_dy (h m : Nat → Int32) (a : Nat) (o : Nat) (s : Int32 × Int32) : Int32 × Int32 := (if h a < h o then ft_mx s.1 (m o) else s.1, ft_mn s.2 (h o))
theorem ft_descent {h cr m : Nat → Int32} {a : Nat} (hst : ft_ud cr m) : (ft_it (ft_dx h cr a) 0 64 100).toInt = 99 - (ft_it (ft_dy h m a) 0 64 (-1, 99)).1.toInt ∧ -1 ≤ (ft_it (ft_dy h m a) 0 64 (-1, 99)).1.toInt ∧ (ft_it (ft_dy h m a) 0 64 (-1, 99)).1.toInt ≤ 99 := by
  refine ft_it_rel (ft_dx h cr a) (ft_dy h m a) (fun _ s t => s.toInt = 99 - t.1.toInt ∧ -1 ≤ t.1.toInt ∧ t.1.toInt ≤ 99) 64 (fun i s t hi hI => ?_) 64 0 100 (-1, 99) (by omega) (by show (100 : Int32).toInt = 99 - (-1 : Int32).toInt ∧ -1 ≤ (-1 : Int32).toInt ∧ (-1 : Int32).toInt ≤ 99; decide)
  have h1 := hst i hi
  unfold ft_dx ft_dy
  dsimp only
  by_cases z : h a < h i
  · rw [if_pos z, if_pos z, ft_mn_i, ft_mx_i]
    omega
  · rw [if_neg z, if_neg z]
    exact hI
theorem ft_low {h m : Nat → Int32} {a : Nat} : ft_it (ft_lw h) 0 64 99 = (ft_it (ft_dy h m a) 0 64 (-1, 99)).2 :=
  ft_it_rel (ft_lw h) (ft_dy h m a) (fun _ s t => s = t.2) 64 (fun i s t _ e => by
    cases e
    rfl) 64 0 99 (-1, 99) (by omega) rfl
theorem ft_99m {x : Int32} (h0 : 0 ≤ x.toInt) (h1 : x.toInt ≤ 99) : (99 - x).toInt = 99 - x.toInt := by
  rw [Int32.toInt_sub, ft_99]
  exact Int.bmod_eq_of_le (by omega) (by omega)
theorem ft_prom {dx gr ha b : Int32} (hd : dx.toInt = 99 - b.toInt) (hg : gr.toInt = 99 - ha.toInt) : dx - gr = ha - b := by
  apply Int32.toInt_inj.mp
  rw [Int32.toInt_sub, Int32.toInt_sub]
  congr 1
  omega
/-- something beside it is higher -/
def ft_hi (h : Nat → Int32) (c : Nat) : Prop := ∃ d, d < 4 ∧ ¬ ft_nb c d = 64 ∧ h c < h (ft_nb c d)
def ft_os (h G : Nat → Int32) (c d : Nat) (ov : Nat → Int32) : Nat → Int32 := if ft_nb c d = 64 then ov else if h c < h (ft_nb c d) then upd ov (G c).toNatClampNeg 1 else ov
def ft_oc (h G : Nat → Int32) (c : Nat) (ov : Nat → Int32) : Nat → Int32 := ft_it (ft_os h G c) 0 4 ov
def ft_ov (h G ov : Nat → Int32) : Nat → Int32 := ft_it (ft_oc h G) 0 64 ov
theorem ft_oc_is {h G ov : Nat → Int32} {c m : Nat} (hm : m < 64) (hG : G c = nI m) : ∀ j, j < 64 → (ft_oc h G c ov j = 0 ↔ (ov j = 0 ∧ ¬ (G c = nI j ∧ ft_hi h c))) := by
  have hcl : (G c).toNatClampNeg = m := by rw [hG]; exact nI_clamp (by omega)
  have hh := ft_it_inv (ft_os h G c) (fun i s => ∀ j, j < 64 → (s j = 0 ↔ (ov j = 0 ∧ ¬ (G c = nI j ∧ ∃ d, d < i ∧ ¬ ft_nb c d = 64 ∧ h c < h (ft_nb c d))))) 4 (by
    intro i s _ hI j hj
    have hIj := hI j hj
    unfold ft_os
    by_cases e : ft_nb c i = 64
    · rw [if_pos e, hIj]
      refine and_congr_right (fun _ => not_congr (and_congr_right (fun _ => ⟨fun ⟨d, hd, h1, h2⟩ => ⟨d, by omega, h1, h2⟩, fun ⟨d, hd, h1, h2⟩ => ⟨d, ?_, h1, h2⟩⟩)))
      have : d ≠ i := fun z => h1 (by rw [z]; exact e)
      omega
    · rw [if_neg e]
      by_cases l : h c < h (ft_nb c i)
      · rw [if_pos l, hcl]
        by_cases jm : j = m
        · subst jm
          rw [pk_us]
          refine ⟨fun z => absurd z (by decide), fun z => absurd ⟨hG, i, by omega, e, l⟩ z.2⟩
        · rw [pk_un jm, hIj]
          have ng : ¬ G c = nI j := by
            rw [hG]
            intro z
            exact jm ((nI_eq (by omega) (by omega)).mp z).symm
          exact and_congr_right (fun _ => ⟨fun _ z => ng z.1, fun _ z => ng z.1⟩)
      · rw [if_neg l, hIj]
        refine and_congr_right (fun _ => not_congr (and_congr_right (fun _ => ⟨fun ⟨d, hd, h1, h2⟩ => ⟨d, by omega, h1, h2⟩, fun ⟨d, hd, h1, h2⟩ => ⟨d, ?_, h1, h2⟩⟩)))
        have : d ≠ i := fun z => l (by rw [← z]; exact h2)
        omega) 4 0 ov (by omega) (fun j _ => ⟨fun z => ⟨z, fun ⟨_, d, hd, _⟩ => absurd hd (Nat.not_lt_zero d)⟩, fun z => z.1⟩)
  exact hh
theorem ft_ov_is {h G ov : Nat → Int32} (hG : ∀ c, c < 64 → ∃ m, m < 64 ∧ G c = nI m) (h0 : ∀ j, j < 64 → ov j = 0) : ∀ j, j < 64 → (ft_ov h G ov j = 0 ↔ ¬ ∃ c, c < 64 ∧ G c = nI j ∧ ft_hi h c) := by
  refine ft_it_inv (ft_oc h G) (fun i s => ∀ j, j < 64 → (s j = 0 ↔ ¬ ∃ c, c < i ∧ G c = nI j ∧ ft_hi h c)) 64 (fun i s hi hI j hj => ?_) 64 0 ov (by omega) (fun j hj => ⟨fun _ ⟨c, hc, _⟩ => absurd hc (Nat.not_lt_zero c), fun _ => h0 j hj⟩)
  obtain ⟨m, hm, em⟩ := hG i hi
  rw [ft_oc_is hm em j hj, hI j hj]
  constructor
  · intro ⟨h1, h2⟩ ⟨c, hc, h3⟩
    by_cases ci : c = i
    · subst ci; exact h2 h3
    · exact h1 ⟨c, by omega, h3⟩
  · intro h1
    exact ⟨fun ⟨c, hc, h3⟩ => h1 ⟨c, by omega, h3⟩, fun h3 => h1 ⟨i, by omega, h3⟩⟩
/-- an array of which the cells below i with p have been changed -/
noncomputable def ft_sh (p : Nat → Prop) (f : Int32 → Int32) (h : Nat → Int32) (i : Nat) : Nat → Int32 := fun j => @ite _ (j < i ∧ p j) (Classical.propDecidable _) (f (h j)) (h j)
theorem ft_sh_in {p : Nat → Prop} {f : Int32 → Int32} {h : Nat → Int32} {i j : Nat} (z : j < i ∧ p j) : ft_sh p f h i j = f (h j) := if_pos z
theorem ft_sh_out {p : Nat → Prop} {f : Int32 → Int32} {h : Nat → Int32} {i j : Nat} (z : ¬ (j < i ∧ p j)) : ft_sh p f h i j = h j := if_neg z
theorem ft_sh_at {p : Nat → Prop} {f : Int32 → Int32} {h : Nat → Int32} {i : Nat} : ft_sh p f h i i = h i := ft_sh_out (fun z => Nat.lt_irrefl i z.1)
theorem ft_sh_step {p : Nat → Prop} {f : Int32 → Int32} {h : Nat → Int32} {i : Nat} (z : p i) : upd (ft_sh p f h i) i (f (h i)) = ft_sh p f h (i + 1) := by
  funext j
  by_cases hj : j = i
  · subst hj; rw [pk_us, ft_sh_in ⟨by omega, z⟩]
  · rw [pk_un hj]
    by_cases q : j < i ∧ p j
    · rw [ft_sh_in q, ft_sh_in ⟨by omega, q.2⟩]
    · rw [ft_sh_out q, ft_sh_out (fun r => q ⟨by omega, r.2⟩)]
theorem ft_sh_skip {p : Nat → Prop} {f : Int32 → Int32} {h : Nat → Int32} {a b : Nat} (hab : a ≤ b) (z : ∀ j, a ≤ j → j < b → ¬ p j) : ft_sh p f h a = ft_sh p f h b := by
  funext j
  by_cases q : j < a ∧ p j
  · rw [ft_sh_in q, ft_sh_in ⟨by omega, q.2⟩]
  · rw [ft_sh_out q, ft_sh_out (fun r => by
      by_cases ja : j < a
      · exact q ⟨ja, r.2⟩
      · exact z j (by omega) r.1 r.2)]
theorem ft_sh_0 {p : Nat → Prop} {f : Int32 → Int32} {h : Nat → Int32} {a : Nat} (z : ∀ j, j < a → ¬ p j) : ft_sh p f h a = h := by
  funext j
  exact ft_sh_out (fun r => z j r.1 r.2)
theorem ft_cnt_s (p : Nat → Prop) (n : Nat) : ft_cnt p (n + 1) = ft_ct p n (ft_cnt p n) := by
  unfold ft_cnt
  rw [ft_it_snoc, Nat.zero_add]
theorem ft_cnt_skip {p : Nat → Prop} {a : Nat} : ∀ b, a ≤ b → (∀ j, a ≤ j → j < b → ¬ p j) → ft_cnt p a = ft_cnt p b := by
  intro b
  induction b with
  | zero => intro h _; rw [Nat.le_zero.mp h]
  | succ b ih =>
    intro h z
    by_cases e : a = b + 1
    · rw [e]
    · rw [ft_cnt_s, ft_ct_f (z b (by omega) (by omega))]
      exact ih (by omega) (fun j h1 h2 => z j h1 (by omega))
theorem ft_cnt_0 {p : Nat → Prop} {a : Nat} (z : ∀ j, j < a → ¬ p j) : ft_cnt p a = 0 := (ft_cnt_skip a (Nat.zero_le a) (fun j _ h => z j h)).symm
/-- a cell of a rectangle -/
def ft_in (t b l r j : Nat) : Prop := t ≤ j / 8 ∧ j / 8 ≤ b ∧ l ≤ j % 8 ∧ j % 8 ≤ r
/-- the heights of a terrain -/
def ft_ok (h : Nat → Int32) : Prop := ∀ i, 0 ≤ (h i).toInt ∧ (h i).toInt ≤ 99
theorem ft_ok_u {h : Nat → Int32} (z : ft_ok h) {i : Nat} {x : Int32} (h0 : 0 ≤ x.toInt) (h1 : x.toInt ≤ 99) : ft_ok (upd h i x) := by
  intro j
  by_cases e : j = i
  · subst e; rw [pk_us]; exact ⟨h0, h1⟩
  · rw [pk_un e]; exact z j
theorem ft_ok_sh {p : Nat → Prop} {f : Int32 → Int32} {h : Nat → Int32} (z : ft_ok h) (hf : ∀ x, 0 ≤ (f x).toInt ∧ (f x).toInt ≤ 99) (i : Nat) : ft_ok (ft_sh p f h i) := by
  intro j
  by_cases q : j < i ∧ p j
  · rw [ft_sh_in q]; exact hf _
  · rw [ft_sh_out q]; exact z j
