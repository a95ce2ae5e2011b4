/-- the sum of f below n -/
def dl_sm (f : Nat → Int) : Nat → Int
  | 0 => 0
  | n + 1 => dl_sm f n + f n
theorem dl_sm_congr {f g : Nat → Int} {n : Nat} (h : ∀ i, i < n → f i = g i) : dl_sm f n = dl_sm g n := by
  induction n with
  | zero => rfl
  | succ n ih =>
    show dl_sm f n + f n = dl_sm g n + g n
    rw [ih (fun i hi => h i (by omega)), h n (by omega)]
theorem dl_sm_le {f g : Nat → Int} {n : Nat} (h : ∀ i, i < n → f i ≤ g i) : dl_sm f n ≤ dl_sm g n := by
  induction n with
  | zero => exact Int.le_refl 0
  | succ n ih =>
    show dl_sm f n + f n ≤ dl_sm g n + g n
    have h1 := ih (fun i hi => h i (by omega))
    have h2 := h n (by omega)
    omega
theorem dl_sm_pt {f : Nat → Int} {c n : Nat} {e : Int} (hc : c < n) : dl_sm (fun i => f i + if i = c then e else 0) n = dl_sm f n + e := by
  induction n with
  | zero => omega
  | succ n ih =>
    show dl_sm (fun i => f i + if i = c then e else 0) n + (f n + if n = c then e else 0) = dl_sm f n + f n + e
    by_cases h : n = c
    · have h1 : dl_sm (fun i => f i + if i = c then e else 0) n = dl_sm f n := dl_sm_congr (fun i hi => by
        show f i + (if i = c then e else 0) = f i
        rw [if_neg (by omega)]; omega)
      rw [h1, if_pos h]; omega
    · rw [ih (by omega), if_neg h]; omega
theorem dl_sm_add (f g : Nat → Int) (n : Nat) : dl_sm (fun i => f i + g i) n = dl_sm f n + dl_sm g n := by
  induction n with
  | zero => rfl
  | succ n ih =>
    show dl_sm (fun i => f i + g i) n + (f n + g n) = dl_sm f n + f n + (dl_sm g n + g n)
    rw [ih]; omega
theorem dl_sm_mul (f : Nat → Int) (e : Int) (n : Nat) : dl_sm (fun i => f i * e) n = dl_sm f n * e := by
  induction n with
  | zero => exact (Int.zero_mul e).symm
  | succ n ih =>
    show dl_sm (fun i => f i * e) n + f n * e = (dl_sm f n + f n) * e
    rw [ih, Int.add_mul]
theorem dl_sm_neg (f : Nat → Int) (n : Nat) : dl_sm (fun i => -f i) n = -dl_sm f n := by
  induction n with
  | zero => rfl
  | succ n ih =>
    show dl_sm (fun i => -f i) n + -f n = -(dl_sm f n + f n)
    rw [ih]; omega
theorem dl_sm_zero {f : Nat → Int} {n : Nat} (h : ∀ i, i < n → f i = 0) : dl_sm f n = 0 := by
  induction n with
  | zero => rfl
  | succ n ih =>
    show dl_sm f n + f n = 0
    rw [ih (fun i hi => h i (by omega)), h n (by omega)]; rfl
theorem dl_sm_nn {f : Nat → Int} {n : Nat} (h : ∀ i, i < n → 0 ≤ f i) : 0 ≤ dl_sm f n := by
  induction n with
  | zero => exact Int.le_refl 0
  | succ n ih =>
    show 0 ≤ dl_sm f n + f n
    have h1 := ih (fun i hi => h i (by omega))
    have h2 := h n (by omega)
    omega
theorem dl_sm_ge {f : Nat → Int} {n j : Nat} (h : ∀ i, i < n → 0 ≤ f i) (hj : j < n) : f j ≤ dl_sm f n := by
  induction n with
  | zero => omega
  | succ n ih =>
    show f j ≤ dl_sm f n + f n
    have h1 := dl_sm_nn (n := n) (fun i hi => h i (by omega))
    have h2 := h n (by omega)
    by_cases e : j = n
    · rw [e]; omega
    · have h3 := ih (fun i hi => h i (by omega)) (by omega)
      omega
/-- the unit, and the unit over a weight -/
def dl_D (w : Nat) : Int := ((144403552893600 / w : Nat) : Int)
theorem dl_Dn : ∀ w, w < 37 → 0 < w → w * (144403552893600 / w) = 144403552893600 ∧ 0 < 144403552893600 / w := by decide +kernel
theorem dl_Dm {w : Nat} (h0 : 0 < w) (h : w ≤ 36) : (w : Int) * dl_D w = 144403552893600 := by
  unfold dl_D
  rw [← Int.natCast_mul, (dl_Dn w (by omega) h0).1]
  rfl
theorem dl_Dp {w : Nat} (h0 : 0 < w) (h : w ≤ 36) : 0 < dl_D w := by
  unfold dl_D
  have h1 := (dl_Dn w (by omega) h0).2
  omega
theorem dl_D0 (w : Nat) : 0 ≤ dl_D w := Int.natCast_nonneg _
theorem dl_Dle (w : Nat) : dl_D w ≤ 144403552893600 := by
  unfold dl_D
  have h1 := Nat.div_le_self 144403552893600 w
  omega
theorem dl_mm {w : Nat} {a b : Int} (h : a ≤ b) : (w : Int) * a ≤ (w : Int) * b := Int.mul_le_mul_of_nonneg_left h (Int.natCast_nonneg w)
/-- what a client holds ahead of the place x -/
def dl_b (x : Int) (w : Nat) (a : Int) : Int :=
  if a + dl_D w ≤ x then 0 else if a ≤ x then (if (w : Int) * a ≤ 0 then (w : Int) * a else 0) else (w : Int) * (a - x)
theorem dl_b0 {x : Int} {w : Nat} {a : Int} (h : w = 0 ∨ a = 0) (hx : 0 ≤ x) : dl_b x w a = 0 := by
  have e : (w : Int) * a = 0 := by
    rcases h with h | h
    · rw [h]; exact Int.zero_mul a
    · rw [h]; exact Int.mul_zero _
  unfold dl_b
  rw [e]
  by_cases h1 : a + dl_D w ≤ x
  · rw [if_pos h1]
  · rw [if_neg h1]
    by_cases h2 : a ≤ x
    · rw [if_pos h2]; rfl
    · rw [if_neg h2]
      rcases h with h | h
      · rw [h]; exact Int.zero_mul _
      · omega
theorem dl_bA {x s a : Int} {w : Nat} (hs : 0 ≤ s) : dl_b (x - s) w (a - s) ≤ dl_b x w a := by
  unfold dl_b
  by_cases h1 : a + dl_D w ≤ x
  · rw [if_pos (show a - s + dl_D w ≤ x - s by omega), if_pos h1]; exact Int.le_refl 0
  · rw [if_neg (show ¬ a - s + dl_D w ≤ x - s by omega), if_neg h1]
    by_cases h2 : a ≤ x
    · rw [if_pos (show a - s ≤ x - s by omega), if_pos h2]
      have h3 : (w : Int) * (a - s) ≤ (w : Int) * a := dl_mm (by omega)
      by_cases h4 : (w : Int) * a ≤ 0
      · rw [if_pos h4, if_pos (by omega)]; exact h3
      · rw [if_neg h4]
        by_cases h5 : (w : Int) * (a - s) ≤ 0
        · rw [if_pos h5]; exact h5
        · rw [if_neg h5]; exact Int.le_refl 0
    · rw [if_neg (show ¬ a - s ≤ x - s by omega), if_neg h2, show a - s - (x - s) = a - x by omega]
      exact Int.le_refl _
theorem dl_bB {x s a : Int} {w : Nat} (h : a + dl_D w ≤ x) : dl_b (x - s) w (a + dl_D w - s) ≤ dl_b x w a := by
  have e : dl_b x w a = 0 := by
    unfold dl_b
    rw [if_pos h]
  rw [e]
  unfold dl_b
  by_cases h1 : a + dl_D w - s + dl_D w ≤ x - s
  · rw [if_pos h1]; exact Int.le_refl 0
  · rw [if_neg h1, if_pos (show a + dl_D w - s ≤ x - s by omega)]
    by_cases h5 : (w : Int) * (a + dl_D w - s) ≤ 0
    · rw [if_pos h5]; exact h5
    · rw [if_neg h5]; exact Int.le_refl 0
theorem dl_bC {x s a : Int} {w : Nat} (hs : 0 ≤ s) (hx : 0 ≤ x) (h : a + dl_D w ≤ x → 0 ≤ (w : Int) * a) : dl_b (x - s) w (a - s) ≤ (w : Int) * a := by
  unfold dl_b
  by_cases h1 : a + dl_D w ≤ x
  · rw [if_pos (show a - s + dl_D w ≤ x - s by omega)]; exact h h1
  · rw [if_neg (show ¬ a - s + dl_D w ≤ x - s by omega)]
    by_cases h2 : a ≤ x
    · rw [if_pos (show a - s ≤ x - s by omega)]
      have h3 : (w : Int) * (a - s) ≤ (w : Int) * a := dl_mm (by omega)
      by_cases h5 : (w : Int) * (a - s) ≤ 0
      · rw [if_pos h5]; exact h3
      · rw [if_neg h5]; omega
    · rw [if_neg (show ¬ a - s ≤ x - s by omega)]
      exact dl_mm (by omega)
theorem dl_bD {x s a : Int} {w : Nat} (h0 : 0 < w) (h36 : w ≤ 36) (h : x < a + dl_D w) : dl_b (x - s) w (a + dl_D w - s) = (w : Int) * a + (144403552893600 - (w : Int) * x) := by
  have hD := dl_D0 w
  have hm := dl_Dm h0 h36
  unfold dl_b
  rw [if_neg (show ¬ a + dl_D w - s + dl_D w ≤ x - s by omega), if_neg (show ¬ a + dl_D w - s ≤ x - s by omega), show a + dl_D w - s - (x - s) = a + dl_D w - x by omega, Int.mul_sub, Int.mul_add, hm]
  omega
/-- the lags sum to 0, none is a unit behind, and what is held ahead of any place is below a unit -/
def dl_I (n : Nat) (w : Nat → Nat) (a : Nat → Int) : Prop :=
  dl_sm (fun i => (w i : Int) * a i) n = 0 ∧ (∀ i, i < n → (w i : Int) * a i < 144403552893600) ∧ (∀ x : Int, 0 ≤ x → dl_sm (fun i => dl_b x (w i) (a i)) n < 144403552893600)
theorem dl_I_upd {n : Nat} {w w' : Nat → Nat} {a a' : Nat → Int} (h : dl_I n w a)
    (hu : ∀ i, i < n → (w' i = w i ∧ a' i = a i) ∨ ((w i = 0 ∨ a i = 0) ∧ (w' i = 0 ∨ a' i = 0))) : dl_I n w' a' := by
  have e0 : ∀ (v : Nat) (b : Int), (v = 0 ∨ b = 0) → (v : Int) * b = 0 := by
    intro v b hv
    rcases hv with hv | hv
    · rw [hv]; exact Int.zero_mul b
    · rw [hv]; exact Int.mul_zero _
  have e1 : ∀ i, i < n → (w' i : Int) * a' i = (w i : Int) * a i := by
    intro i hi
    rcases hu i hi with ⟨p, q⟩ | ⟨p, q⟩
    · rw [p, q]
    · rw [e0 _ _ p, e0 _ _ q]
  have e2 : ∀ x : Int, 0 ≤ x → ∀ i, i < n → dl_b x (w' i) (a' i) = dl_b x (w i) (a i) := by
    intro x hx i hi
    rcases hu i hi with ⟨p, q⟩ | ⟨p, q⟩
    · rw [p, q]
    · rw [dl_b0 p hx, dl_b0 q hx]
  refine ⟨(dl_sm_congr e1).trans h.1, fun i hi => ?_, fun x hx => ?_⟩
  · rw [e1 i hi]; exact h.2.1 i hi
  · rw [dl_sm_congr (e2 x hx)]; exact h.2.2 x hx
theorem dl_I_0 {n : Nat} {w : Nat → Nat} {a : Nat → Int} (h : ∀ i, i < n → w i = 0) : dl_I n w a := by
  refine ⟨dl_sm_zero (fun i hi => ?_), fun i hi => ?_, fun x hx => ?_⟩
  · show (w i : Int) * a i = 0
    rw [h i hi]; exact Int.zero_mul _
  · rw [h i hi]
    rw [show ((0 : Nat) : Int) * a i = 0 from Int.zero_mul _]
    decide
  · rw [dl_sm_zero (fun i hi => dl_b0 (Or.inl (h i hi)) hx)]
    decide
theorem dl_I_step {n c W : Nat} {w : Nat → Nat} {a : Nat → Int} (h : dl_I n w a) (hw : ∀ i, i < n → w i ≤ 36) (hc : c < n) (hwc : 0 < w c) (hac : a c ≤ 0)
    (hmin : ∀ i, i < n → 0 < w i → a i ≤ 0 → a c + dl_D (w c) ≤ a i + dl_D (w i))
    (hW : dl_sm (fun i => (w i : Int)) n = W) (hW0 : 0 < W) (hW36 : W ≤ 36) :
    dl_I n w (fun i => a i + (if i = c then dl_D (w c) else 0) - dl_D W) := by
  have hs := dl_Dp hW0 hW36
  have hWs := dl_Dm hW0 hW36
  have hcm := dl_Dm hwc (hw c hc)
  have hcD := dl_Dp hwc (hw c hc)
  refine ⟨?_, fun i hi => ?_, fun x' hx' => ?_⟩
  · have e1 : dl_sm (fun i => (w i : Int) * (a i + (if i = c then dl_D (w c) else 0) - dl_D W)) n = dl_sm (fun i => ((w i : Int) * a i + (if i = c then 144403552893600 else 0)) + (w i : Int) * (-dl_D W)) n := by
      refine dl_sm_congr (fun i _ => ?_)
      show (w i : Int) * (a i + (if i = c then dl_D (w c) else 0) - dl_D W) = ((w i : Int) * a i + (if i = c then 144403552893600 else 0)) + (w i : Int) * (-dl_D W)
      by_cases e : i = c
      · rw [if_pos e, if_pos e, e, Int.mul_sub, Int.mul_add, hcm, Int.mul_neg]; omega
      · rw [if_neg e, if_neg e, Int.mul_sub, Int.mul_neg, show a i + 0 = a i by omega]; omega
    rw [e1, dl_sm_add, dl_sm_pt hc, dl_sm_mul, h.1, hW, Int.mul_neg, hWs]
    decide
  · show (w i : Int) * (a i + (if i = c then dl_D (w c) else 0) - dl_D W) < 144403552893600
    by_cases e : i = c
    · rw [if_pos e, e, Int.mul_sub, Int.mul_add, hcm]
      have h1 : (w c : Int) * a c ≤ (w c : Int) * 0 := dl_mm hac
      have h2 : 0 < (w c : Int) * dl_D W := Int.mul_pos (by omega) hs
      rw [Int.mul_zero] at h1
      omega
    · rw [if_neg e]
      have h1 : (w i : Int) * (a i + 0 - dl_D W) ≤ (w i : Int) * a i := dl_mm (by omega)
      have h2 := h.2.1 i hi
      omega
  · have ex : x' = (x' + dl_D W) - dl_D W := by omega
    have hx : 0 < x' + dl_D W := by omega
    generalize x' + dl_D W = x at ex hx
    rw [ex]
    by_cases hd : a c + dl_D (w c) ≤ x
    · refine Int.lt_of_le_of_lt (dl_sm_le (g := fun i => dl_b x (w i) (a i)) (fun i hi => ?_)) (h.2.2 x (by omega))
      show dl_b (x - dl_D W) (w i) (a i + (if i = c then dl_D (w c) else 0) - dl_D W) ≤ dl_b x (w i) (a i)
      by_cases e : i = c
      · rw [if_pos e, e]; exact dl_bB hd
      · rw [if_neg e, show a i + 0 - dl_D W = a i - dl_D W by omega]; exact dl_bA (by omega)
    · have h1 : dl_sm (fun i => dl_b (x - dl_D W) (w i) (a i + (if i = c then dl_D (w c) else 0) - dl_D W)) n ≤ dl_sm (fun i => (w i : Int) * a i + (if i = c then (144403552893600 - (w c : Int) * x) else 0)) n := by
        refine dl_sm_le (fun i hi => ?_)
        show dl_b (x - dl_D W) (w i) (a i + (if i = c then dl_D (w c) else 0) - dl_D W) ≤ (w i : Int) * a i + (if i = c then (144403552893600 - (w c : Int) * x) else 0)
        by_cases e : i = c
        · rw [if_pos e, if_pos e, e, dl_bD hwc (hw c hc) (by omega)]; exact Int.le_refl _
        · rw [if_neg e, if_neg e, show a i + 0 - dl_D W = a i - dl_D W by omega, show (w i : Int) * a i + 0 = (w i : Int) * a i by omega]
          refine dl_bC (by omega) (by omega) (fun hi' => ?_)
          by_cases hz : w i = 0
          · rw [hz]; exact Int.le_of_eq (Int.zero_mul _).symm
          · by_cases ha : a i ≤ 0
            · have := hmin i hi (by omega) ha
              omega
            · exact Int.mul_nonneg (Int.natCast_nonneg _) (by omega)
      refine Int.lt_of_le_of_lt h1 ?_
      have h2 : 0 < (w c : Int) * x := Int.mul_pos (by omega) hx
      rw [dl_sm_pt hc, h.1]
      omega
theorem dl_I_pos {n j : Nat} {w : Nat → Nat} {a : Nat → Int} (h : dl_I n w a) (hw : ∀ i, i < n → w i ≤ 36) (hj : j < n) (hwj : 0 < w j) : 0 < a j + dl_D (w j) := by
  by_cases hd : a j + dl_D (w j) ≤ 0
  · exfalso
    have h1 : dl_sm (fun i => (w i : Int) * a i + (if i = j then 144403552893600 else 0)) n ≤ dl_sm (fun i => dl_b 0 (w i) (a i)) n := by
      refine dl_sm_le (fun i hi => ?_)
      show (w i : Int) * a i + (if i = j then 144403552893600 else 0) ≤ dl_b 0 (w i) (a i)
      unfold dl_b
      by_cases hz : w i = 0
      · have e : i ≠ j := fun e => by rw [e] at hz; omega
        rw [if_neg e, hz, show ((0 : Nat) : Int) * a i = 0 from Int.zero_mul _, show ((0 : Nat) : Int) * (a i - 0) = 0 from Int.zero_mul _]
        by_cases h1 : a i + dl_D 0 ≤ 0
        · rw [if_pos h1]; decide
        · rw [if_neg h1]
          by_cases h2 : a i ≤ 0
          · rw [if_pos h2]; decide
          · rw [if_neg h2]; decide
      · have hm := dl_Dm (w := w i) (by omega) (hw i hi)
        by_cases h1 : a i + dl_D (w i) ≤ 0
        · rw [if_pos h1]
          have h3 : (w i : Int) * (a i + dl_D (w i)) ≤ (w i : Int) * 0 := dl_mm h1
          rw [Int.mul_zero, Int.mul_add, hm] at h3
          by_cases e : i = j
          · rw [if_pos e]; omega
          · rw [if_neg e]; omega
        · have e : i ≠ j := fun e => h1 (by rw [e]; exact hd)
          rw [if_neg h1, if_neg e]
          by_cases h2 : a i ≤ 0
          · have h3 : (w i : Int) * a i ≤ (w i : Int) * 0 := dl_mm h2
            rw [Int.mul_zero] at h3
            rw [if_pos h2, if_pos h3]; omega
          · rw [if_neg h2, show a i - 0 = a i by omega]; omega
    rw [dl_sm_pt hj, h.1] at h1
    have h2 := h.2.2 0 (Int.le_refl 0)
    omega
  · omega
theorem dl_I_lag {n j : Nat} {w : Nat → Nat} {a : Nat → Int} (h : dl_I n w a) (hw : ∀ i, i < n → w i ≤ 36) (hj : j < n) : -144403552893600 < (w j : Int) * a j ∧ (w j : Int) * a j < 144403552893600 := by
  refine ⟨?_, h.2.1 j hj⟩
  by_cases hz : w j = 0
  · rw [hz, show ((0 : Nat) : Int) * a j = 0 from Int.zero_mul _]; decide
  · have h1 := dl_I_pos h hw hj (by omega)
    have h2 : 0 < (w j : Int) * (a j + dl_D (w j)) := Int.mul_pos (by omega) h1
    rw [Int.mul_add, dl_Dm (by omega) (hw j hj)] at h2
    omega
theorem dl_I_adv {n j : Nat} {w : Nat → Nat} {a : Nat → Int} (h : dl_I n w a) (hw : ∀ i, i < n → w i ≤ 36) (hj : j < n) (hwj : 0 < w j) : -144403552893600 < a j ∧ a j < 144403552893600 := by
  have h1 := dl_I_pos h hw hj hwj
  have h2 := dl_Dle (w j)
  refine ⟨by omega, ?_⟩
  by_cases ha : a j ≤ 0
  · omega
  · have h3 : 1 * a j ≤ (w j : Int) * a j := Int.mul_le_mul_of_nonneg_right (by omega) (by omega)
    have h4 := h.2.1 j hj
    omega
theorem dl_I_el {n : Nat} {w : Nat → Nat} {a : Nat → Int} (h : dl_I n w a) (hW : 0 < dl_sm (fun i => (w i : Int)) n) : ∃ j, j < n ∧ 0 < w j ∧ a j ≤ 0 := by
  refine Classical.byContradiction (fun hn => ?_)
  have h1 : dl_sm (fun i => (w i : Int)) n ≤ dl_sm (fun i => (w i : Int) * a i) n := by
    refine dl_sm_le (fun i hi => ?_)
    show (w i : Int) ≤ (w i : Int) * a i
    by_cases hz : w i = 0
    · rw [hz]; exact Int.le_of_eq (Int.zero_mul _).symm
    · have ha : ¬ a i ≤ 0 := fun ha => hn ⟨i, hi, by omega, ha⟩
      have h2 : (w i : Int) * 1 ≤ (w i : Int) * a i := dl_mm (by omega)
      omega
  rw [h.1] at h1
  omega
