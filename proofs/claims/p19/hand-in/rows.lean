section
/-- the sum of f below n -/
def dl_sm (f : Nat → Int) : Nat → Int
  | 0 => 0
  | n + 1 => dl_sm f n + f n
theorem dl_sm_congr {f g : Nat → Int} {n : Nat} (h : ∀ i, i < n → f i = g i) : dl_sm f n = dl_sm g n := by
  induction n with
  | zero => rfl
  | succ n ih =>
    show dl_sm f n + f n = dl_sm g n + g n
    rw [ih (fun i hi => h i (by omega)), h n (by omega)]
theorem dl_sm_le {f g : Nat → Int} {n : Nat} (h : ∀ i, i < n → f i ≤ g i) : dl_sm f n ≤ dl_sm g n := by
  induction n with
  | zero => exact Int.le_refl 0
  | succ n ih =>
    show dl_sm f n + f n ≤ dl_sm g n + g n
    have h1 := ih (fun i hi => h i (by omega))
    have h2 := h n (by omega)
    omega
theorem dl_sm_pt {f : Nat → Int} {c n : Nat} {e : Int} (hc : c < n) : dl_sm (fun i => f i + if i = c then e else 0) n = dl_sm f n + e := by
  induction n with
  | zero => omega
  | succ n ih =>
    show dl_sm (fun i => f i + if i = c then e else 0) n + (f n + if n = c then e else 0) = dl_sm f n + f n + e
    by_cases h : n = c
    · have h1 : dl_sm (fun i => f i + if i = c then e else 0) n = dl_sm f n := dl_sm_congr (fun i hi => by
        show f i + (if i = c then e else 0) = f i
        rw [if_neg (by omega)]; omega)
      rw [h1, if_pos h]; omega
    · rw [ih (by omega), if_neg h]; omega
theorem dl_sm_add (f g : Nat → Int) (n : Nat) : dl_sm (fun i => f i + g i) n = dl_sm f n + dl_sm g n := by
  induction n with
  | zero => rfl
  | succ n ih =>
    show dl_sm (fun i => f i + g i) n + (f n + g n) = dl_sm f n + f n + (dl_sm g n + g n)
    rw [ih]; omega
theorem dl_sm_mul (f : Nat → Int) (e : Int) (n : Nat) : dl_sm (fun i => f i * e) n = dl_sm f n * e := by
  induction n with
  | zero => exact (Int.zero_mul e).symm
  | succ n ih =>
    show dl_sm (fun i => f i * e) n + f n * e = (dl_sm f n + f n) * e
    rw [ih, Int.add_mul]
theorem dl_sm_neg (f : Nat → Int) (n : Nat) : dl_sm (fun i => -f i) n = -dl_sm f n := by
  induction n with
  | zero => rfl
  | succ n ih =>
    show dl_sm (fun i => -f i) n + -f n = -(dl_sm f n + f n)
    rw [ih]; omega
theorem dl_sm_zero {f : Nat → Int} {n : Nat} (h : ∀ i, i < n → f i = 0) : dl_sm f n = 0 := by
  induction n with
  | zero => rfl
  | succ n ih =>
    show dl_sm f n + f n = 0
    rw [ih (fun i hi => h i (by omega)), h n (by omega)]; rfl
theorem dl_sm_nn {f : Nat → Int} {n : Nat} (h : ∀ i, i < n → 0 ≤ f i) : 0 ≤ dl_sm f n := by
  induction n with
  | zero => exact Int.le_refl 0
  | succ n ih =>
    show 0 ≤ dl_sm f n + f n
    have h1 := ih (fun i hi => h i (by omega))
    have h2 := h n (by omega)
    omega
theorem dl_sm_ge {f : Nat → Int} {n j : Nat} (h : ∀ i, i < n → 0 ≤ f i) (hj : j < n) : f j ≤ dl_sm f n := by
  induction n with
  | zero => omega
  | succ n ih =>
    show f j ≤ dl_sm f n + f n
    have h1 := dl_sm_nn (n := n) (fun i hi => h i (by omega))
    have h2 := h n (by omega)
    by_cases e : j = n
    · rw [e]; omega
    · have h3 := ih (fun i hi => h i (by omega)) (by omega)
      omega
/-- the unit, and the unit over a weight -/
def dl_D (w : Nat) : Int := ((144403552893600 / w : Nat) : Int)
theorem dl_Dn : ∀ w, w < 37 → 0 < w → w * (144403552893600 / w) = 144403552893600 ∧ 0 < 144403552893600 / w := by decide +kernel
theorem dl_Dm {w : Nat} (h0 : 0 < w) (h : w ≤ 36) : (w : Int) * dl_D w = 144403552893600 := by
  unfold dl_D
  rw [← Int.natCast_mul, (dl_Dn w (by omega) h0).1]
  rfl
theorem dl_Dp {w : Nat} (h0 : 0 < w) (h : w ≤ 36) : 0 < dl_D w := by
  unfold dl_D
  have h1 := (dl_Dn w (by omega) h0).2
  omega
theorem dl_D0 (w : Nat) : 0 ≤ dl_D w := Int.natCast_nonneg _
theorem dl_Dle (w : Nat) : dl_D w ≤ 144403552893600 := by
  unfold dl_D
  have h1 := Nat.div_le_self 144403552893600 w
  omega
theorem dl_mm {w : Nat} {a b : Int} (h : a ≤ b) : (w : Int) * a ≤ (w : Int) * b := Int.mul_le_mul_of_nonneg_left h (Int.natCast_nonneg w)
/-- what a client holds ahead of the place x -/
def dl_b (x : Int) (w : Nat) (a : Int) : Int :=
  if a + dl_D w ≤ x then 0 else if a ≤ x then (if (w : Int) * a ≤ 0 then (w : Int) * a else 0) else (w : Int) * (a - x)
theorem dl_b0 {x : Int} {w : Nat} {a : Int} (h : w = 0 ∨ a = 0) (hx : 0 ≤ x) : dl_b x w a = 0 := by
  have e : (w : Int) * a = 0 := by
    rcases h with h | h
    · rw [h]; exact Int.zero_mul a
    · rw [h]; exact Int.mul_zero _
  unfold dl_b
  rw [e]
  by_cases h1 : a + dl_D w ≤ x
  · rw [if_pos h1]
  · rw [if_neg h1]
    by_cases h2 : a ≤ x
    · rw [if_pos h2]; rfl
    · rw [if_neg h2]
      rcases h with h | h
      · rw [h]; exact Int.zero_mul _
      · omega
theorem dl_bA {x s a : Int} {w : Nat} (hs : 0 ≤ s) : dl_b (x - s) w (a - s) ≤ dl_b x w a := by
  unfold dl_b
  by_cases h1 : a + dl_D w ≤ x
  · rw [if_pos (show a - s + dl_D w ≤ x - s by omega), if_pos h1]; exact Int.le_refl 0
  · rw [if_neg (show ¬ a - s + dl_D w ≤ x - s by omega), if_neg h1]
    by_cases h2 : a ≤ x
    · rw [if_pos (show a - s ≤ x - s by omega), if_pos h2]
      have h3 : (w : Int) * (a - s) ≤ (w : Int) * a := dl_mm (by omega)
      by_cases h4 : (w : Int) * a ≤ 0
      · rw [if_pos h4, if_pos (by omega)]; exact h3
      · rw [if_neg h4]
        by_cases h5 : (w : Int) * (a - s) ≤ 0
        · rw [if_pos h5]; exact h5
        · rw [if_neg h5]; exact Int.le_refl 0
    · rw [if_neg (show ¬ a - s ≤ x - s by omega), if_neg h2, show a - s - (x - s) = a - x by omega]
      exact Int.le_refl _
theorem dl_bB {x s a : Int} {w : Nat} (h : a + dl_D w ≤ x) : dl_b (x - s) w (a + dl_D w - s) ≤ dl_b x w a := by
  have e : dl_b x w a = 0 := by
    unfold dl_b
    rw [if_pos h]
  rw [e]
  unfold dl_b
  by_cases h1 : a + dl_D w - s + dl_D w ≤ x - s
  · rw [if_pos h1]; exact Int.le_refl 0
  · rw [if_neg h1, if_pos (show a + dl_D w - s ≤ x - s by omega)]
    by_cases h5 : (w : Int) * (a + dl_D w - s) ≤ 0
    · rw [if_pos h5]; exact h5
    · rw [if_neg h5]; exact Int.le_refl 0
theorem dl_bC {x s a : Int} {w : Nat} (hs : 0 ≤ s) (hx : 0 ≤ x) (h : a + dl_D w ≤ x → 0 ≤ (w : Int) * a) : dl_b (x - s) w (a - s) ≤ (w : Int) * a := by
  unfold dl_b
  by_cases h1 : a + dl_D w ≤ x
  · rw [if_pos (show a - s + dl_D w ≤ x - s by omega)]; exact h h1
  · rw [if_neg (show ¬ a - s + dl_D w ≤ x - s by omega)]
    by_cases h2 : a ≤ x
    · rw [if_pos (show a - s ≤ x - s by omega)]
      have h3 : (w : Int) * (a - s) ≤ (w : Int) * a := dl_mm (by omega)
      by_cases h5 : (w : Int) * (a - s) ≤ 0
      · rw [if_pos h5]; exact h3
      · rw [if_neg h5]; omega
    · rw [if_neg (show ¬ a - s ≤ x - s by omega)]
      exact dl_mm (by omega)
theorem dl_bD {x s a : Int} {w : Nat} (h0 : 0 < w) (h36 : w ≤ 36) (h : x < a + dl_D w) : dl_b (x - s) w (a + dl_D w - s) = (w : Int) * a + (144403552893600 - (w : Int) * x) := by
  have hD := dl_D0 w
  have hm := dl_Dm h0 h36
  unfold dl_b
  rw [if_neg (show ¬ a + dl_D w - s + dl_D w ≤ x - s by omega), if_neg (show ¬ a + dl_D w - s ≤ x - s by omega), show a + dl_D w - s - (x - s) = a + dl_D w - x by omega, Int.mul_sub, Int.mul_add, hm]
  omega
/-- the lags sum to 0, none is a unit behind, and what is held ahead of any place is below a unit -/
def dl_I (n : Nat) (w : Nat → Nat) (a : Nat → Int) : Prop :=
  dl_sm (fun i => (w i : Int) * a i) n = 0 ∧ (∀ i, i < n → (w i : Int) * a i < 144403552893600) ∧ (∀ x : Int, 0 ≤ x → dl_sm (fun i => dl_b x (w i) (a i)) n < 144403552893600)
theorem dl_I_upd {n : Nat} {w w' : Nat → Nat} {a a' : Nat → Int} (h : dl_I n w a)
    (hu : ∀ i, i < n → (w' i = w i ∧ a' i = a i) ∨ ((w i = 0 ∨ a i = 0) ∧ (w' i = 0 ∨ a' i = 0))) : dl_I n w' a' := by
  have e0 : ∀ (v : Nat) (b : Int), (v = 0 ∨ b = 0) → (v : Int) * b = 0 := by
    intro v b hv
    rcases hv with hv | hv
    · rw [hv]; exact Int.zero_mul b
    · rw [hv]; exact Int.mul_zero _
  have e1 : ∀ i, i < n → (w' i : Int) * a' i = (w i : Int) * a i := by
    intro i hi
    rcases hu i hi with ⟨p, q⟩ | ⟨p, q⟩
    · rw [p, q]
    · rw [e0 _ _ p, e0 _ _ q]
  have e2 : ∀ x : Int, 0 ≤ x → ∀ i, i < n → dl_b x (w' i) (a' i) = dl_b x (w i) (a i) := by
    intro x hx i hi
    rcases hu i hi with ⟨p, q⟩ | ⟨p, q⟩
    · rw [p, q]
    · rw [dl_b0 p hx, dl_b0 q hx]
  refine ⟨(dl_sm_congr e1).trans h.1, fun i hi => ?_, fun x hx => ?_⟩
  · rw [e1 i hi]; exact h.2.1 i hi
  · rw [dl_sm_congr (e2 x hx)]; exact h.2.2 x hx
theorem dl_I_0 {n : Nat} {w : Nat → Nat} {a : Nat → Int} (h : ∀ i, i < n → w i = 0) : dl_I n w a := by
  refine ⟨dl_sm_zero (fun i hi => ?_), fun i hi => ?_, fun x hx => ?_⟩
  · show (w i : Int) * a i = 0
    rw [h i hi]; exact Int.zero_mul _
  · rw [h i hi]
    rw [show ((0 : Nat) : Int) * a i = 0 from Int.zero_mul _]
    decide
  · rw [dl_sm_zero (fun i hi => dl_b0 (Or.inl (h i hi)) hx)]
    decide
theorem dl_I_step {n c W : Nat} {w : Nat → Nat} {a : Nat → Int} (h : dl_I n w a) (hw : ∀ i, i < n → w i ≤ 36) (hc : c < n) (hwc : 0 < w c) (hac : a c ≤ 0)
    (hmin : ∀ i, i < n → 0 < w i → a i ≤ 0 → a c + dl_D (w c) ≤ a i + dl_D (w i))
    (hW : dl_sm (fun i => (w i : Int)) n = W) (hW0 : 0 < W) (hW36 : W ≤ 36) :
    dl_I n w (fun i => a i + (if i = c then dl_D (w c) else 0) - dl_D W) := by
  have hs := dl_Dp hW0 hW36
  have hWs := dl_Dm hW0 hW36
  have hcm := dl_Dm hwc (hw c hc)
  have hcD := dl_Dp hwc (hw c hc)
  refine ⟨?_, fun i hi => ?_, fun x' hx' => ?_⟩
  · have e1 : dl_sm (fun i => (w i : Int) * (a i + (if i = c then dl_D (w c) else 0) - dl_D W)) n = dl_sm (fun i => ((w i : Int) * a i + (if i = c then 144403552893600 else 0)) + (w i : Int) * (-dl_D W)) n := by
      refine dl_sm_congr (fun i _ => ?_)
      show (w i : Int) * (a i + (if i = c then dl_D (w c) else 0) - dl_D W) = ((w i : Int) * a i + (if i = c then 144403552893600 else 0)) + (w i : Int) * (-dl_D W)
      by_cases e : i = c
      · rw [if_pos e, if_pos e, e, Int.mul_sub, Int.mul_add, hcm, Int.mul_neg]; omega
      · rw [if_neg e, if_neg e, Int.mul_sub, Int.mul_neg, show a i + 0 = a i by omega]; omega
    rw [e1, dl_sm_add, dl_sm_pt hc, dl_sm_mul, h.1, hW, Int.mul_neg, hWs]
    decide
  · show (w i : Int) * (a i + (if i = c then dl_D (w c) else 0) - dl_D W) < 144403552893600
    by_cases e : i = c
    · rw [if_pos e, e, Int.mul_sub, Int.mul_add, hcm]
      have h1 : (w c : Int) * a c ≤ (w c : Int) * 0 := dl_mm hac
      have h2 : 0 < (w c : Int) * dl_D W := Int.mul_pos (by omega) hs
      rw [Int.mul_zero] at h1
      omega
    · rw [if_neg e]
      have h1 : (w i : Int) * (a i + 0 - dl_D W) ≤ (w i : Int) * a i := dl_mm (by omega)
      have h2 := h.2.1 i hi
      omega
  · have ex : x' = (x' + dl_D W) - dl_D W := by omega
    have hx : 0 < x' + dl_D W := by omega
    generalize x' + dl_D W = x at ex hx
    rw [ex]
    by_cases hd : a c + dl_D (w c) ≤ x
    · refine Int.lt_of_le_of_lt (dl_sm_le (g := fun i => dl_b x (w i) (a i)) (fun i hi => ?_)) (h.2.2 x (by omega))
      show dl_b (x - dl_D W) (w i) (a i + (if i = c then dl_D (w c) else 0) - dl_D W) ≤ dl_b x (w i) (a i)
      by_cases e : i = c
      · rw [if_pos e, e]; exact dl_bB hd
      · rw [if_neg e, show a i + 0 - dl_D W = a i - dl_D W by omega]; exact dl_bA (by omega)
    · have h1 : dl_sm (fun i => dl_b (x - dl_D W) (w i) (a i + (if i = c then dl_D (w c) else 0) - dl_D W)) n ≤ dl_sm (fun i => (w i : Int) * a i + (if i = c then (144403552893600 - (w c : Int) * x) else 0)) n := by
        refine dl_sm_le (fun i hi => ?_)
        show dl_b (x - dl_D W) (w i) (a i + (if i = c then dl_D (w c) else 0) - dl_D W) ≤ (w i : Int) * a i + (if i = c then (144403552893600 - (w c : Int) * x) else 0)
        by_cases e : i = c
        · rw [if_pos e, if_pos e, e, dl_bD hwc (hw c hc) (by omega)]; exact Int.le_refl _
        · rw [if_neg e, if_neg e, show a i + 0 - dl_D W = a i - dl_D W by omega, show (w i : Int) * a i + 0 = (w i : Int) * a i by omega]
          refine dl_bC (by omega) (by omega) (fun hi' => ?_)
          by_cases hz : w i = 0
          · rw [hz]; exact Int.le_of_eq (Int.zero_mul _).symm
          · by_cases ha : a i ≤ 0
            · have := hmin i hi (by omega) ha
              omega
            · exact Int.mul_nonneg (Int.natCast_nonneg _) (by omega)
      refine Int.lt_of_le_of_lt h1 ?_
      have h2 : 0 < (w c : Int) * x := Int.mul_pos (by omega) hx
      rw [dl_sm_pt hc, h.1]
      omega
theorem dl_I_pos {n j : Nat} {w : Nat → Nat} {a : Nat → Int} (h : dl_I n w a) (hw : ∀ i, i < n → w i ≤ 36) (hj : j < n) (hwj : 0 < w j) : 0 < a j + dl_D (w j) := by
  by_cases hd : a j + dl_D (w j) ≤ 0
  · exfalso
    have h1 : dl_sm (fun i => (w i : Int) * a i + (if i = j then 144403552893600 else 0)) n ≤ dl_sm (fun i => dl_b 0 (w i) (a i)) n := by
      refine dl_sm_le (fun i hi => ?_)
      show (w i : Int) * a i + (if i = j then 144403552893600 else 0) ≤ dl_b 0 (w i) (a i)
      unfold dl_b
      by_cases hz : w i = 0
      · have e : i ≠ j := fun e => by rw [e] at hz; omega
        rw [if_neg e, hz, show ((0 : Nat) : Int) * a i = 0 from Int.zero_mul _, show ((0 : Nat) : Int) * (a i - 0) = 0 from Int.zero_mul _]
        by_cases h1 : a i + dl_D 0 ≤ 0
        · rw [if_pos h1]; decide
        · rw [if_neg h1]
          by_cases h2 : a i ≤ 0
          · rw [if_pos h2]; decide
          · rw [if_neg h2]; decide
      · have hm := dl_Dm (w := w i) (by omega) (hw i hi)
        by_cases h1 : a i + dl_D (w i) ≤ 0
        · rw [if_pos h1]
          have h3 : (w i : Int) * (a i + dl_D (w i)) ≤ (w i : Int) * 0 := dl_mm h1
          rw [Int.mul_zero, Int.mul_add, hm] at h3
          by_cases e : i = j
          · rw [if_pos e]; omega
          · rw [if_neg e]; omega
        · have e : i ≠ j := fun e => h1 (by rw [e]; exact hd)
          rw [if_neg h1, if_neg e]
          by_cases h2 : a i ≤ 0
          · have h3 : (w i : Int) * a i ≤ (w i : Int) * 0 := dl_mm h2
            rw [Int.mul_zero] at h3
            rw [if_pos h2, if_pos h3]; omega
          · rw [if_neg h2, show a i - 0 = a i by omega]; omega
    rw [dl_sm_pt hj, h.1] at h1
    have h2 := h.2.2 0 (Int.le_refl 0)
    omega
  · omega
theorem dl_I_lag {n j : Nat} {w : Nat → Nat} {a : Nat → Int} (h : dl_I n w a) (hw : ∀ i, i < n → w i ≤ 36) (hj : j < n) : -144403552893600 < (w j : Int) * a j ∧ (w j : Int) * a j < 144403552893600 := by
  refine ⟨?_, h.2.1 j hj⟩
  by_cases hz : w j = 0
  · rw [hz, show ((0 : Nat) : Int) * a j = 0 from Int.zero_mul _]; decide
  · have h1 := dl_I_pos h hw hj (by omega)
    have h2 : 0 < (w j : Int) * (a j + dl_D (w j)) := Int.mul_pos (by omega) h1
    rw [Int.mul_add, dl_Dm (by omega) (hw j hj)] at h2
    omega
theorem dl_I_adv {n j : Nat} {w : Nat → Nat} {a : Nat → Int} (h : dl_I n w a) (hw : ∀ i, i < n → w i ≤ 36) (hj : j < n) (hwj : 0 < w j) : -144403552893600 < a j ∧ a j < 144403552893600 := by
  have h1 := dl_I_pos h hw hj hwj
  have h2 := dl_Dle (w j)
  refine ⟨by omega, ?_⟩
  by_cases ha : a j ≤ 0
  · omega
  · have h3 : 1 * a j ≤ (w j : Int) * a j := Int.mul_le_mul_of_nonneg_right (by omega) (by omega)
    have h4 := h.2.1 j hj
    omega
theorem dl_I_el {n : Nat} {w : Nat → Nat} {a : Nat → Int} (h : dl_I n w a) (hW : 0 < dl_sm (fun i => (w i : Int)) n) : ∃ j, j < n ∧ 0 < w j ∧ a j ≤ 0 := by
  refine Classical.byContradiction (fun hn => ?_)
  have h1 : dl_sm (fun i => (w i : Int)) n ≤ dl_sm (fun i => (w i : Int) * a i) n := by
    refine dl_sm_le (fun i hi => ?_)
    show (w i : Int) ≤ (w i : Int) * a i
    by_cases hz : w i = 0
    · rw [hz]; exact Int.le_of_eq (Int.zero_mul _).symm
    · have ha : ¬ a i ≤ 0 := fun ha => hn ⟨i, hi, by omega, ha⟩
      have h2 : (w i : Int) * 1 ≤ (w i : Int) * a i := dl_mm (by omega)
      omega
  rw [h.1] at h1
  omega
end
section
/-- the sum of the weights below n -/
def ed_sum (w : Nat → Int32) : Nat → Int32
  | 0 => 0
  | n + 1 => ed_sum w n + w n
theorem ed_sum_out {w : Nat → Int32} {k n : Nat} {x : Int32} (h : n ≤ k) : ed_sum (upd w k x) n = ed_sum w n := by
  induction n with
  | zero => rfl
  | succ n ih =>
    show ed_sum (upd w k x) n + upd w k x n = ed_sum w n + w n
    rw [ih (by omega), pk_un (by omega)]
theorem ed_sum_in {w : Nat → Int32} {k n : Nat} {x : Int32} (h : k < n) : ed_sum (upd w k x) n = ed_sum w n - w k + x := by
  induction n with
  | zero => omega
  | succ n ih =>
    show ed_sum (upd w k x) n + upd w k x n = ed_sum w n + w n - w k + x
    by_cases e : n = k
    · rw [e, ed_sum_out (Nat.le_refl k), pk_us, Int32.add_sub_cancel]
    · rw [ih (by omega), pk_un e]
      grind
/-- the choice among the clients below n: the least deadline of those within the allowance, ties to the least name -/
def ed_bs (w : Nat → Int32) (a : Nat → Int64) (al : Int64) : Nat → Int32 × Int64
  | 0 => (-1, 0)
  | n + 1 => if 0 < w n ∧ a n ≤ al then (if (ed_bs w a al n).1 < 0 ∨ a n + 144403552893600 / (w n).toInt64 < (ed_bs w a al n).2 then (nI n, a n + 144403552893600 / (w n).toInt64) else ed_bs w a al n) else ed_bs w a al n
theorem ed_bs_in (w : Nat → Int32) (a : Nat → Int64) (al : Int64) (n : Nat) : (ed_bs w a al n).1 = -1 ∨ ∃ j, j < n ∧ (ed_bs w a al n).1 = nI j ∧ 0 < w j ∧ a j ≤ al := by
  induction n with
  | zero => exact Or.inl rfl
  | succ n ih =>
    have up : (ed_bs w a al n).1 = -1 ∨ ∃ j, j < n + 1 ∧ (ed_bs w a al n).1 = nI j ∧ 0 < w j ∧ a j ≤ al := by
      rcases ih with h | ⟨j, h1, h2⟩
      · exact Or.inl h
      · exact Or.inr ⟨j, by omega, h2⟩
    unfold ed_bs
    by_cases h1 : 0 < w n ∧ a n ≤ al
    · rw [if_pos h1]
      by_cases h2 : (ed_bs w a al n).1 < 0 ∨ a n + 144403552893600 / (w n).toInt64 < (ed_bs w a al n).2
      · rw [if_pos h2]
        exact Or.inr ⟨n, by omega, rfl, h1.1, h1.2⟩
      · rw [if_neg h2]
        exact up
    · rw [if_neg h1]
      exact up
theorem ed_bs_congr {w : Nat → Int32} {a b : Nat → Int64} {al : Int64} {n : Nat} (h : ∀ j, 0 < w j → a j = b j) : ed_bs w a al n = ed_bs w b al n := by
  induction n with
  | zero => rfl
  | succ n ih =>
    unfold ed_bs
    rw [ih]
    by_cases h1 : 0 < w n
    · rw [h n h1]
    · rw [if_neg (fun z => h1 z.1), if_neg (fun z => h1 z.1)]
/-- how many of the clients below n may be chosen -/
def ed_ct (w : Nat → Int32) (a : Nat → Int64) : Nat → Int32
  | 0 => 0
  | n + 1 => if 0 < w n ∧ a n ≤ 0 then ed_ct w a n + 1 else ed_ct w a n
theorem ed_ct_congr {w : Nat → Int32} {a b : Nat → Int64} {n : Nat} (h : ∀ j, 0 < w j → a j = b j) : ed_ct w a n = ed_ct w b n := by
  induction n with
  | zero => rfl
  | succ n ih =>
    unfold ed_ct
    rw [ih]
    by_cases h1 : 0 < w n
    · rw [h n h1]
    · rw [if_neg (fun z => h1 z.1), if_neg (fun z => h1 z.1)]
/-- the advances, the present ones below n moved back by s -/
def ed_mv (w : Nat → Int32) (a : Nat → Int64) (s : Int64) (n : Nat) : Nat → Int64 := fun j => if j < n ∧ 0 < w j then a j - s else a j
theorem ed_mv_0 (w : Nat → Int32) (a : Nat → Int64) (s : Int64) : ed_mv w a s 0 = a := funext fun j => if_neg (fun z => absurd z.1 (by omega))
theorem ed_mv_at (w : Nat → Int32) (a : Nat → Int64) (s : Int64) (n : Nat) : ed_mv w a s n n = a n := if_neg (fun z => absurd z.1 (by omega))
theorem ed_mv_s {w : Nat → Int32} {a : Nat → Int64} {s : Int64} {n : Nat} (h : 0 < w n) : vp_updL (ed_mv w a s n) n (ed_mv w a s n n - s) = ed_mv w a s (n + 1) := by
  funext j
  by_cases e : j = n
  · rw [e, pk_uLs, ed_mv_at]
    exact (if_pos ⟨by omega, h⟩).symm
  · rw [pk_uLn e]
    show (if j < n ∧ 0 < w j then a j - s else a j) = (if j < n + 1 ∧ 0 < w j then a j - s else a j)
    have e2 : (j < n ∧ 0 < w j) ↔ (j < n + 1 ∧ 0 < w j) := by constructor <;> (intro z; exact ⟨by omega, z.2⟩)
    simp only [e2]
theorem ed_mv_n {w : Nat → Int32} {a : Nat → Int64} {s : Int64} {n : Nat} (h : ¬ 0 < w n) : ed_mv w a s n = ed_mv w a s (n + 1) := by
  funext j
  show (if j < n ∧ 0 < w j then a j - s else a j) = (if j < n + 1 ∧ 0 < w j then a j - s else a j)
  have e2 : (j < n ∧ 0 < w j) ↔ (j < n + 1 ∧ 0 < w j) := by
    constructor
    · intro z; exact ⟨by omega, z.2⟩
    · intro z
      have : j ≠ n := fun e => h (by rw [← e]; exact z.2)
      exact ⟨by omega, z.2⟩
  simp only [e2]
/-- f, with 0 in the places of the settled leavers below n -/
def ed_cl (w : Nat → Int32) (a : Nat → Int64) (m : Nat → Int32) (f : Nat → Int32) (n : Nat) : Nat → Int32 := fun j => if j < n ∧ 0 < w j ∧ ¬ m j = 0 ∧ a j = 0 then 0 else f j
theorem ed_cl_0 (w : Nat → Int32) (a : Nat → Int64) (m f : Nat → Int32) : ed_cl w a m f 0 = f := funext fun j => if_neg (fun z => absurd z.1 (by omega))
theorem ed_cl_at (w : Nat → Int32) (a : Nat → Int64) (m f : Nat → Int32) (n : Nat) : ed_cl w a m f n n = f n := if_neg (fun z => absurd z.1 (by omega))
theorem ed_cl_s {w : Nat → Int32} {a : Nat → Int64} {m f : Nat → Int32} {n : Nat} (h : 0 < w n ∧ ¬ m n = 0 ∧ a n = 0) : upd (ed_cl w a m f n) n 0 = ed_cl w a m f (n + 1) := by
  funext j
  by_cases e : j = n
  · rw [e, pk_us]
    exact (if_pos ⟨by omega, h⟩).symm
  · rw [pk_un e]
    show (if j < n ∧ 0 < w j ∧ ¬ m j = 0 ∧ a j = 0 then 0 else f j) = (if j < n + 1 ∧ 0 < w j ∧ ¬ m j = 0 ∧ a j = 0 then 0 else f j)
    have e2 : (j < n ∧ 0 < w j ∧ ¬ m j = 0 ∧ a j = 0) ↔ (j < n + 1 ∧ 0 < w j ∧ ¬ m j = 0 ∧ a j = 0) := ⟨fun z => ⟨by omega, z.2⟩, fun z => ⟨by omega, z.2⟩⟩
    by_cases hc : j < n ∧ 0 < w j ∧ ¬ m j = 0 ∧ a j = 0
    · rw [if_pos hc, if_pos (e2.mp hc)]
    · rw [if_neg hc, if_neg (fun z => hc (e2.mpr z))]
theorem ed_cl_n {w : Nat → Int32} {a : Nat → Int64} {m f : Nat → Int32} {n : Nat} (h : ¬ (0 < w n ∧ ¬ m n = 0 ∧ a n = 0)) : ed_cl w a m f n = ed_cl w a m f (n + 1) := by
  funext j
  show (if j < n ∧ 0 < w j ∧ ¬ m j = 0 ∧ a j = 0 then 0 else f j) = (if j < n + 1 ∧ 0 < w j ∧ ¬ m j = 0 ∧ a j = 0 then 0 else f j)
  by_cases e : j = n
  · rw [e, if_neg (fun z => h z.2), if_neg (fun z => h z.2)]
  · have e2 : (j < n ∧ 0 < w j ∧ ¬ m j = 0 ∧ a j = 0) ↔ (j < n + 1 ∧ 0 < w j ∧ ¬ m j = 0 ∧ a j = 0) := ⟨fun z => ⟨by omega, z.2⟩, fun z => ⟨by omega, z.2⟩⟩
    by_cases hc : j < n ∧ 0 < w j ∧ ¬ m j = 0 ∧ a j = 0
    · rw [if_pos hc, if_pos (e2.mp hc)]
    · rw [if_neg hc, if_neg (fun z => hc (e2.mpr z))]
theorem ed_cl_congr {w : Nat → Int32} {a b : Nat → Int64} {m m' f : Nat → Int32} {n : Nat} (h : ∀ j, 0 < w j → a j = b j ∧ m j = m' j) : ed_cl w a m f n = ed_cl w b m' f n := by
  funext j
  show (if j < n ∧ 0 < w j ∧ ¬ m j = 0 ∧ a j = 0 then 0 else f j) = (if j < n ∧ 0 < w j ∧ ¬ m' j = 0 ∧ b j = 0 then 0 else f j)
  by_cases h1 : 0 < w j
  · rw [(h j h1).1, (h j h1).2]
  · rw [if_neg (fun z => h1 z.2.1), if_neg (fun z => h1 z.2.1)]
theorem ed_cl_nn {w : Nat → Int32} {a : Nat → Int64} {m : Nat → Int32} {n : Nat} (h : ∀ j, ¬ w j < 0) : ∀ j, ¬ ed_cl w a m w n j < 0 := by
  intro j
  show ¬ (if j < n ∧ 0 < w j ∧ ¬ m j = 0 ∧ a j = 0 then 0 else w j) < 0
  by_cases hc : j < n ∧ 0 < w j ∧ ¬ m j = 0 ∧ a j = 0
  · rw [if_pos hc]; decide
  · rw [if_neg hc]; exact h j
theorem ed_cl_p {w : Nat → Int32} {a : Nat → Int64} {m : Nat → Int32} {n j : Nat} (h : 0 < ed_cl w a m w n j) : 0 < w j ∧ ∀ f : Nat → Int32, ed_cl w a m f n j = f j := by
  by_cases hc : j < n ∧ 0 < w j ∧ ¬ m j = 0 ∧ a j = 0
  · have e : ed_cl w a m w n j = 0 := if_pos hc
    rw [e] at h
    exact absurd h (by decide)
  · have e : ed_cl w a m w n j = w j := if_neg hc
    rw [e] at h
    exact ⟨h, fun f => if_neg hc⟩
theorem ed_nz {x : Int32} (h : 0 < x) : ¬ x = 0 := fun e => by rw [e] at h; exact absurd h (by decide)
theorem ed_nz64 {x : Int32} (h : 0 < x) : ¬ x.toInt64 = 0 := by
  intro e
  have h1 : x.toInt64.toInt = x.toInt := Int32.toInt_toInt64 x
  rw [e] at h1
  have h2 := Int32.lt_iff_toInt_lt.mp h
  rw [← h1] at h2
  exact absurd h2 (by decide)
theorem ed_z {x : Int32} (h : ¬ x < 0) (h0 : ¬ 0 < x) : x = 0 := by
  apply Int32.toInt_inj.mp
  rw [Int32.lt_iff_toInt_lt] at h h0
  have e : (0 : Int32).toInt = 0 := by decide
  rw [e] at h h0 ⊢
  omega
theorem ed_updL_id {f : Nat → Int64} {k : Nat} {x : Int64} (h : f k = x) : vp_updL f k x = f := by
  funext j
  by_cases e : j = k
  · rw [e, pk_uLs, h]
  · rw [pk_uLn e]
end
section
/-! the class's arrays as numbers -/
def dl_w (w : Nat → Int32) : Nat → Nat := fun j => (w j).toNatClampNeg
def dl_a (a : Nat → Int64) : Nat → Int := fun j => (a j).toInt
/-- the sum of the weights as a natural number -/
def dl_sn (f : Nat → Nat) : Nat → Nat
  | 0 => 0
  | n + 1 => dl_sn f n + f n
theorem dl_sn_sm (f : Nat → Nat) (n : Nat) : dl_sm (fun i => (f i : Int)) n = (dl_sn f n : Nat) := by
  induction n with
  | zero => rfl
  | succ n ih =>
    show dl_sm (fun i => (f i : Int)) n + (f n : Int) = ((dl_sn f n + f n : Nat) : Int)
    rw [ih]; omega
theorem dl_sn_ge {f : Nat → Nat} {n j : Nat} (hj : j < n) : f j ≤ dl_sn f n := by
  induction n with
  | zero => omega
  | succ n ih =>
    show f j ≤ dl_sn f n + f n
    by_cases e : j = n
    · rw [e]; omega
    · have := ih (by omega)
      omega
theorem dl_sn_zero {f : Nat → Nat} {n : Nat} (h : dl_sn f n = 0) : ∀ i, i < n → f i = 0 := fun i hi => by
  have := dl_sn_ge (f := f) hi
  omega
theorem dl_sn_congr {f g : Nat → Nat} {n : Nat} (h : ∀ i, i < n → f i = g i) : dl_sn f n = dl_sn g n := by
  induction n with
  | zero => rfl
  | succ n ih =>
    show dl_sn f n + f n = dl_sn g n + g n
    rw [ih (fun i hi => h i (by omega)), h n (by omega)]
theorem dl_sn_le {f g : Nat → Nat} {n : Nat} (h : ∀ i, i < n → f i ≤ g i) : dl_sn f n ≤ dl_sn g n := by
  induction n with
  | zero => exact Nat.le_refl 0
  | succ n ih =>
    show dl_sn f n + f n ≤ dl_sn g n + g n
    have h1 := ih (fun i hi => h i (by omega))
    have h2 := h n (by omega)
    omega
theorem dl_sn_upd {f g : Nat → Nat} {n k : Nat} (hk : k < n) (h : ∀ i, i ≠ k → g i = f i) : dl_sn g n + f k = dl_sn f n + g k := by
  induction n with
  | zero => omega
  | succ n ih =>
    show dl_sn g n + g n + f k = dl_sn f n + f n + g k
    by_cases e : k = n
    · rw [dl_sn_congr (f := g) (g := f) (fun i hi => h i (by omega)), e]; omega
    · have h1 := ih (by omega)
      have h2 := h n (by omega)
      omega
theorem dl_wn {w : Nat → Int32} {j : Nat} (h : ¬ w j < 0) : w j = nI (dl_w w j) ∧ dl_w w j < 2 ^ 31 := by
  obtain ⟨k, hk, e⟩ := nI_of h
  have e2 : dl_w w j = k := by
    show (w j).toNatClampNeg = k
    rw [e, nI_clamp hk]
  rw [e2]
  exact ⟨e, hk⟩
theorem dl_wp {w : Nat → Int32} {j : Nat} (h : ¬ w j < 0) : 0 < w j ↔ 0 < dl_w w j := by
  obtain ⟨e, hk⟩ := dl_wn h
  rw [e, ← nI_0, nI_ltI (by omega) hk]
theorem dl_sumN {w : Nat → Int32} (h : ∀ j, ¬ w j < 0) (n : Nat) : ed_sum w n = nI (dl_sn (dl_w w) n) := by
  induction n with
  | zero => exact nI_0.symm
  | succ n ih =>
    show ed_sum w n + w n = nI (dl_sn (dl_w w) n + dl_w w n)
    rw [ih, ← nI_add, ← (dl_wn (h n)).1]
theorem dl_bm {x : Int} (h1 : -9223372036854775808 ≤ x) (h2 : x < 9223372036854775808) : x.bmod (2 ^ 64) = x := Int.bmod_eq_of_le (by omega) (by omega)
theorem dl_lA {x y : Int64} (h1 : -9223372036854775808 ≤ x.toInt + y.toInt) (h2 : x.toInt + y.toInt < 9223372036854775808) : (x + y).toInt = x.toInt + y.toInt := by rw [Int64.toInt_add, dl_bm h1 h2]
theorem dl_lS {x y : Int64} (h1 : -9223372036854775808 ≤ x.toInt - y.toInt) (h2 : x.toInt - y.toInt < 9223372036854775808) : (x - y).toInt = x.toInt - y.toInt := by rw [Int64.toInt_sub, dl_bm h1 h2]
theorem dl_lM {x y : Int64} (h1 : -9223372036854775808 ≤ x.toInt * y.toInt) (h2 : x.toInt * y.toInt < 9223372036854775808) : (x * y).toInt = x.toInt * y.toInt := by rw [Int64.toInt_mul, dl_bm h1 h2]
theorem dl_lN {x : Int64} (h1 : -9223372036854775808 ≤ -x.toInt) (h2 : -x.toInt < 9223372036854775808) : (-x).toInt = -x.toInt := by rw [Int64.toInt_neg, dl_bm h1 h2]
theorem dl_U64 : (144403552893600 : Int64) = lN 144403552893600 := by decide +kernel
theorem dl_lD {w : Nat} (h0 : 0 < w) (h : w ≤ 36) : ((144403552893600 : Int64) / (nI w).toInt64).toInt = dl_D w := by
  rw [nI_l (by omega), dl_U64, pk_lDiv (by decide) h0 (by omega), pk_lT (Nat.lt_of_le_of_lt (Nat.div_le_self _ _) (by decide))]
  rfl
/-- the invariant of the class's state: weights, advances, marks -/
def dl_V (c l h q : Nat) (w : Nat → Int32) (a : Nat → Int64) (m : Nat → Int32) : Prop :=
  c ≤ 32 ∧ l ≤ 36 ∧ h ≤ 30000 ∧ q ≤ h ∧ (∀ j, ¬ w j < 0) ∧ (∀ j, m j = 0 ∨ m j = 1) ∧ dl_sn (dl_w w) c ≤ 36 ∧ dl_I c (dl_w w) (dl_a a)
section
variable {c l h q : Nat} {w : Nat → Int32} {a : Nat → Int64} {m : Nat → Int32}
theorem dl_V36 (V : dl_V c l h q w a m) : ∀ i, i < c → dl_w w i ≤ 36 := fun i hi => by
  have h1 := V.2.2.2.2.2.2.1
  have h2 := dl_sn_ge (f := dl_w w) hi
  omega
/-- the deadline of a present client, as a number -/
theorem dl_Vd (V : dl_V c l h q w a m) {i : Nat} (hi : i < c) (hw : 0 < w i) : (a i + 144403552893600 / (w i).toInt64).toInt = dl_a a i + dl_D (dl_w w i) ∧ (144403552893600 / (w i).toInt64).toInt = dl_D (dl_w w i) := by
  have hn := V.2.2.2.2.1 i
  have h0 := (dl_wp hn).mp hw
  have h36 := dl_V36 V i hi
  have hb := dl_I_adv V.2.2.2.2.2.2.2 (dl_V36 V) hi h0
  have hD : (144403552893600 / (w i).toInt64).toInt = dl_D (dl_w w i) := by
    rw [(dl_wn hn).1]
    exact dl_lD h0 h36
  have h1 := dl_D0 (dl_w w i)
  have h2 := dl_Dle (dl_w w i)
  have ea : dl_a a i = (a i).toInt := rfl
  rw [ea] at hb
  refine ⟨?_, hD⟩
  rw [dl_lA (by rw [hD]; omega) (by rw [hD]; omega), hD]
  rfl
/-- the choice: none that may be chosen, or the least deadline of those that may -/
theorem dl_bs_min (w : Nat → Int32) (a : Nat → Int64) (al : Int64) (n : Nat) (hn32 : n ≤ 32) : ((ed_bs w a al n).1 = -1 ∧ ∀ i, i < n → ¬ (0 < w i ∧ a i ≤ al)) ∨
    ∃ p, p < n ∧ ed_bs w a al n = (nI p, a p + 144403552893600 / (w p).toInt64) ∧ 0 < w p ∧ a p ≤ al ∧ ∀ i, i < n → 0 < w i → a i ≤ al → a p + 144403552893600 / (w p).toInt64 ≤ a i + 144403552893600 / (w i).toInt64 := by
  induction n with
  | zero => exact Or.inl ⟨rfl, fun i hi => absurd hi (by omega)⟩
  | succ n ih =>
    replace ih := ih (by omega)
    unfold ed_bs
    by_cases h1 : 0 < w n ∧ a n ≤ al
    · rw [if_pos h1]
      rcases ih with ⟨e, hn⟩ | ⟨p, hp, e, h2, h3, h4⟩
      · rw [if_pos (Or.inl (by rw [e]; decide))]
        refine Or.inr ⟨n, by omega, rfl, h1.1, h1.2, fun i hi hw ha => ?_⟩
        by_cases en : i = n
        · rw [en]; exact Int64.le_refl _
        · exact absurd ⟨hw, ha⟩ (hn i (by omega))
      · by_cases h5 : (ed_bs w a al n).1 < 0 ∨ a n + 144403552893600 / (w n).toInt64 < (ed_bs w a al n).2
        · rw [if_pos h5]
          have h6 : a n + 144403552893600 / (w n).toInt64 < a p + 144403552893600 / (w p).toInt64 ∨ nI p < 0 := by
            rw [e] at h5
            exact h5.symm
          refine Or.inr ⟨n, by omega, rfl, h1.1, h1.2, fun i hi hw ha => ?_⟩
          by_cases en : i = n
          · rw [en]; exact Int64.le_refl _
          · rcases h6 with h6 | h6
            · exact Int64.le_trans (Int64.le_of_lt h6) (h4 i (by omega) hw ha)
            · exact absurd h6 (nI_pos (by omega))
        · rw [if_neg h5]
          refine Or.inr ⟨p, by omega, e, h2, h3, fun i hi hw ha => ?_⟩
          by_cases en : i = n
          · rw [en]
            have h7 : ¬ a n + 144403552893600 / (w n).toInt64 < a p + 144403552893600 / (w p).toInt64 := by
              intro z
              refine h5 (Or.inr ?_)
              rw [e]
              exact z
            exact Int64.not_lt.mp h7
          · exact h4 i (by omega) hw ha
    · rw [if_neg h1]
      rcases ih with ⟨e, hn⟩ | ⟨p, hp, e, h2, h3, h4⟩
      · refine Or.inl ⟨e, fun i hi z => ?_⟩
        by_cases en : i = n
        · rw [en] at z; exact h1 z
        · exact hn i (by omega) z
      · refine Or.inr ⟨p, by omega, e, h2, h3, fun i hi hw ha => ?_⟩
        by_cases en : i = n
        · rw [en] at hw ha; exact absurd ⟨hw, ha⟩ h1
        · exact h4 i (by omega) hw ha
theorem dl_ct (w : Nat → Int32) (a : Nat → Int64) (n : Nat) : ∃ k, k ≤ n ∧ ed_ct w a n = nI k ∧ (k = 0 ↔ ∀ i, i < n → ¬ (0 < w i ∧ a i ≤ 0)) := by
  induction n with
  | zero => exact ⟨0, Nat.le_refl 0, nI_0.symm, ⟨fun _ i hi => absurd hi (by omega), fun _ => rfl⟩⟩
  | succ n ih =>
    obtain ⟨k, h1, h2, h3⟩ := ih
    unfold ed_ct
    by_cases h4 : 0 < w n ∧ a n ≤ 0
    · rw [if_pos h4, h2, nI_1]
      exact ⟨k + 1, by omega, rfl, ⟨fun z => absurd z (by omega), fun z => absurd h4 (z n (by omega))⟩⟩
    · rw [if_neg h4]
      refine ⟨k, by omega, h2, ⟨fun z i hi => ?_, fun z => h3.mpr (fun i hi => z i (by omega))⟩⟩
      by_cases en : i = n
      · rw [en]; exact h4
      · exact h3.mp z i (by omega)
/-- with a weight there is one that may be chosen; without one there is none -/
theorem dl_Vel (V : dl_V c l h q w a m) (hW : 0 < dl_sn (dl_w w) c) : ∃ j, j < c ∧ 0 < w j ∧ a j ≤ 0 := by
  obtain ⟨j, h1, h2, h3⟩ := dl_I_el V.2.2.2.2.2.2.2 (by rw [dl_sn_sm]; omega)
  refine ⟨j, h1, (dl_wp (V.2.2.2.2.1 j)).mpr h2, ?_⟩
  rw [Int64.le_iff_toInt_le]
  exact h3
theorem dl_Vno (V : dl_V c l h q w a m) (hW : dl_sn (dl_w w) c = 0) : ∀ i, i < c → ¬ 0 < w i := fun i hi z => by
  have h1 := dl_sn_zero hW i hi
  have h2 := (dl_wp (V.2.2.2.2.1 i)).mp z
  omega
/-- the lag of a present client, as a number -/
theorem dl_Vlag (V : dl_V c l h q w a m) {i : Nat} (hi : i < c) : (-((w i).toInt64 * a i)).toInt = -((dl_w w i : Int) * dl_a a i) ∧ -144403552893600 < (dl_w w i : Int) * dl_a a i ∧ (dl_w w i : Int) * dl_a a i < 144403552893600 := by
  have hn := V.2.2.2.2.1 i
  have hb := dl_I_lag V.2.2.2.2.2.2.2 (dl_V36 V) hi
  have h36 := dl_V36 V i hi
  have ew : (w i).toInt64.toInt = (dl_w w i : Int) := by
    rw [Int32.toInt_toInt64, (dl_wn hn).1]
    exact nI_toInt (by omega)
  have ea : (a i).toInt = dl_a a i := rfl
  have em : ((w i).toInt64 * a i).toInt = (dl_w w i : Int) * dl_a a i := by
    rw [dl_lM (by rw [ew, ea]; omega) (by rw [ew, ea]; omega), ew, ea]
  refine ⟨?_, hb⟩
  rw [dl_lN (by rw [em]; omega) (by rw [em]; omega), em]
/-- the choice's step on the numbers -/
theorem dl_Vq (V : dl_V c l h q w a m) (hq : q < h) {p : Nat} (hp : p < c) (hw : 0 < w p) (ha : a p ≤ 0)
    (hmin : ∀ i, i < c → 0 < w i → a i ≤ 0 → a p + 144403552893600 / (w p).toInt64 ≤ a i + 144403552893600 / (w i).toInt64) :
    dl_V c l h (q + 1) (ed_cl w (ed_mv w (vp_updL a p (a p + 144403552893600 / (w p).toInt64)) (144403552893600 / (ed_sum w c).toInt64) c) m w c) (ed_mv w (vp_updL a p (a p + 144403552893600 / (w p).toInt64)) (144403552893600 / (ed_sum w c).toInt64) c) m := by
  have hN := V.2.2.2.2.1
  have h36 := dl_V36 V
  have hI := V.2.2.2.2.2.2.2
  have hp0 := (dl_wp (hN p)).mp hw
  have hW0 : 0 < dl_sn (dl_w w) c := by
    have := dl_sn_ge (f := dl_w w) hp
    omega
  have hW36 := V.2.2.2.2.2.2.1
  have hS : (144403552893600 / (ed_sum w c).toInt64).toInt = dl_D (dl_sn (dl_w w) c) := by
    rw [dl_sumN hN]
    exact dl_lD hW0 hW36
  have hS0 := dl_D0 (dl_sn (dl_w w) c)
  have hSle := dl_Dle (dl_sn (dl_w w) c)
  have hle : ∀ {x y : Int64}, x ≤ y → x.toInt ≤ y.toInt := fun z => Int64.le_iff_toInt_le.mp z
  have hst := dl_I_step (c := p) (W := dl_sn (dl_w w) c) hI h36 hp hp0 (hle ha) (fun i hi h0 hai => by
    have h1 := hle (hmin i hi ((dl_wp (hN i)).mpr h0) (Int64.le_iff_toInt_le.mpr hai))
    rw [(dl_Vd V hp hw).1, (dl_Vd V hi ((dl_wp (hN i)).mpr h0)).1] at h1
    exact h1) (dl_sn_sm _ _) hW0 hW36
  have hnew : ∀ i, i < c → 0 < w i → dl_a (ed_mv w (vp_updL a p (a p + 144403552893600 / (w p).toInt64)) (144403552893600 / (ed_sum w c).toInt64) c) i = dl_a a i + (if i = p then dl_D (dl_w w p) else 0) - dl_D (dl_sn (dl_w w) c) := by
    intro i hi hwi
    have hb := dl_I_adv hI h36 hi ((dl_wp (hN i)).mp hwi)
    have e1 : ed_mv w (vp_updL a p (a p + 144403552893600 / (w p).toInt64)) (144403552893600 / (ed_sum w c).toInt64) c i = vp_updL a p (a p + 144403552893600 / (w p).toInt64) i - 144403552893600 / (ed_sum w c).toInt64 := if_pos ⟨hi, hwi⟩
    have e2 : (vp_updL a p (a p + 144403552893600 / (w p).toInt64) i).toInt = dl_a a i + (if i = p then dl_D (dl_w w p) else 0) := by
      by_cases e : i = p
      · rw [e, pk_uLs, if_pos rfl]; exact (dl_Vd V hp hw).1
      · rw [pk_uLn e, if_neg e, Int.add_zero]; rfl
    have h1 := dl_D0 (dl_w w p)
    have h2 := dl_Dle (dl_w w p)
    have h3 : 0 ≤ (if i = p then dl_D (dl_w w p) else 0) ∧ (if i = p then dl_D (dl_w w p) else 0) ≤ 144403552893600 := by
      by_cases e : i = p
      · rw [if_pos e]; exact ⟨h1, h2⟩
      · rw [if_neg e]; decide
    show (ed_mv w (vp_updL a p (a p + 144403552893600 / (w p).toInt64)) (144403552893600 / (ed_sum w c).toInt64) c i).toInt = _
    rw [e1, dl_lS (by rw [e2, hS]; omega) (by rw [e2, hS]; omega), e2, hS]
  generalize ed_mv w (vp_updL a p (a p + 144403552893600 / (w p).toInt64)) (144403552893600 / (ed_sum w c).toInt64) c = b at hnew ⊢
  have hwz : ∀ i, ¬ 0 < w i → dl_w w i = 0 := fun i z => by
    have := (dl_wp (hN i)).mpr
    by_cases e : dl_w w i = 0
    · exact e
    · exact absurd (this (by omega)) z
  have hI2 : dl_I c (dl_w w) (dl_a b) := by
    refine dl_I_upd hst (fun i hi => ?_)
    by_cases hwi : 0 < w i
    · exact Or.inl ⟨rfl, hnew i hi hwi⟩
    · exact Or.inr ⟨Or.inl (hwz i hwi), Or.inl (hwz i hwi)⟩
  have hcl : ∀ i, dl_w (ed_cl w b m w c) i = dl_w w i ∨ (dl_w (ed_cl w b m w c) i = 0 ∧ dl_a b i = 0) := by
    intro i
    by_cases hc : i < c ∧ 0 < w i ∧ ¬ m i = 0 ∧ b i = 0
    · have e : ed_cl w b m w c i = 0 := if_pos hc
      refine Or.inr ⟨?_, ?_⟩
      · show (ed_cl w b m w c i).toNatClampNeg = 0
        rw [e]; rfl
      · show (b i).toInt = 0
        rw [hc.2.2.2]; rfl
    · have e : ed_cl w b m w c i = w i := if_neg hc
      refine Or.inl ?_
      show (ed_cl w b m w c i).toNatClampNeg = (w i).toNatClampNeg
      rw [e]
  refine ⟨V.1, V.2.1, V.2.2.1, by omega, ed_cl_nn hN, V.2.2.2.2.2.1, ?_, ?_⟩
  · refine Nat.le_trans (dl_sn_le (fun i hi => ?_)) hW36
    rcases hcl i with e | ⟨e, _⟩
    · rw [e]; exact Nat.le_refl _
    · rw [e]; exact Nat.zero_le _
  · refine dl_I_upd hI2 (fun i hi => ?_)
    rcases hcl i with e | ⟨e, e2⟩
    · exact Or.inl ⟨e, rfl⟩
    · exact Or.inr ⟨Or.inr e2, Or.inl e⟩
/-- a weight that changes where the client is absent or stands at 0, the advance then 0 -/
theorem dl_Vw (V : dl_V c l h q w a m) {p : Nat} {x : Int32} {b : Nat → Int64} {m' : Nat → Int32} (hp : p < c) (hx : ¬ x < 0) (hz : ¬ 0 < w p ∨ a p = 0) (hb : ∀ i, i ≠ p → b i = a i) (hbp : b p = 0) (hm : ∀ j, m' j = 0 ∨ m' j = 1)
    (hs : dl_sn (dl_w w) c + x.toNatClampNeg ≤ 36 + dl_w w p) : dl_V c l h q (upd w p x) b m' := by
  have hN := V.2.2.2.2.1
  have ep : dl_w (upd w p x) p = x.toNatClampNeg := by
    show (upd w p x p).toNatClampNeg = _
    rw [pk_us]
  have en : ∀ i, i ≠ p → dl_w (upd w p x) i = dl_w w i := fun i hi => by
    show (upd w p x i).toNatClampNeg = _
    rw [pk_un hi]; rfl
  refine ⟨V.1, V.2.1, V.2.2.1, V.2.2.2.1, fun j => ?_, hm, ?_, ?_⟩
  · by_cases e : j = p
    · rw [e, pk_us]; exact hx
    · rw [pk_un e]; exact hN j
  · have h1 := dl_sn_upd (f := dl_w w) (g := dl_w (upd w p x)) hp en
    rw [ep] at h1
    omega
  · refine dl_I_upd V.2.2.2.2.2.2.2 (fun i hi => ?_)
    by_cases e : i = p
    · refine Or.inr ⟨?_, Or.inr ?_⟩
      · rw [e]
        rcases hz with hz | hz
        · by_cases e2 : dl_w w p = 0
          · exact Or.inl e2
          · exact absurd ((dl_wp (hN p)).mpr (by omega)) hz
        · refine Or.inr ?_
          show (a p).toInt = 0
          rw [hz]; rfl
      · show (b i).toInt = 0
        rw [e, hbp]; rfl
    · refine Or.inl ⟨en i e, ?_⟩
      show (b i).toInt = (a i).toInt
      rw [hb i e]
end
end
section
/-! the class's methods, each over a general post -/
theorem ed_ix (x : Int32) {c : Nat} (hc : c ≤ 32) : (x < 0 ∨ nI c ≤ x) ∨ ∃ j : Nat, j < c ∧ x = nI j := by
  rcases pk_ix x (n := c) (by omega) with h | h | h
  · exact Or.inl (Or.inl h)
  · exact Or.inl (Or.inr h)
  · exact Or.inr h
section
variable {c : Nat} {l hz W q : Int32} {w : Nat → Int32} {a : Nat → Int64} {s m g : Nat → Int32}
theorem ed_xbad1 {post : Int32 → Prop} {x : Int32} (hx : x < 0 ∨ nI c ≤ x) (hp : post 1) : wpX_isBad post (nI c, l, hz, W, q, w, a, s, m, g) x := by
  by_cases h : x < 0
  · exact br_t h hp
  · rcases hx with hx | hx
    · exact absurd hx h
    · exact br_f h (br_f (Int32.not_lt.mpr hx) hp)
theorem ed_xbad0 {post : Int32 → Prop} {j : Nat} (hc : c ≤ 32) (hj : j < c) (hp : post 0) : wpX_isBad post (nI c, l, hz, W, q, w, a, s, m, g) (nI j) :=
  br_f (nI_pos (by omega)) (br_t (nI_lt hj (by omega)) hp)
theorem ed_xprb {post : Int32 → Prop} {x : Int32} (hx : x < 0 ∨ nI c ≤ x) (hp : post 0) : wpX_isPresent post (nI c, l, hz, W, q, w, a, s, m, g) x := by
  unfold wpX_isPresent
  exact ed_xbad1 hx (br_f (by decide) hp)
theorem ed_xpr1 {post : Int32 → Prop} {j : Nat} (hc : c ≤ 32) (hj : j < c) (hw : 0 < w j) (hp : post 1) : wpX_isPresent post (nI c, l, hz, W, q, w, a, s, m, g) (nI j) := by
  unfold wpX_isPresent
  refine ed_xbad0 hc hj (br_t rfl ⟨vp_in_nI (by omega) (by omega), ?_⟩)
  rw [nI_clamp (by omega)]
  exact br_f (Int32.not_le.mpr hw) hp
theorem ed_xpr0 {post : Int32 → Prop} {j : Nat} (hc : c ≤ 32) (hj : j < c) (hw : ¬ 0 < w j) (hp : post 0) : wpX_isPresent post (nI c, l, hz, W, q, w, a, s, m, g) (nI j) := by
  unfold wpX_isPresent
  refine ed_xbad0 hc hj (br_t rfl ⟨vp_in_nI (by omega) (by omega), ?_⟩)
  rw [nI_clamp (by omega)]
  exact br_t (Int32.not_lt.mp hw) hp
theorem ed_xbw {post : Int32 → Prop} {x : Int32} (h1 : (x < 1 ∨ ¬ x ≤ l) → post 1) (h0 : ¬ x < 1 → x ≤ l → post 0) : wpX_isBadWeight post (nI c, l, hz, W, q, w, a, s, m, g) x :=
  br_c (fun z => h1 (Or.inl z)) (fun z => br_c (fun y => h0 z y) (fun y => h1 (Or.inr y)))
theorem ed_xdl {post : Int64 → Prop} {j : Nat} (hc : c ≤ 32) (hj : j < c) (hw : 0 < w j) (hp : post (a j + 144403552893600 / (w j).toInt64)) : wpX_deadlineOf post (nI c, l, hz, W, q, w, a, s, m, g) (nI j) := by
  unfold wpX_deadlineOf
  dsimp only
  rw [nI_clamp (by omega)]
  exact ⟨vp_in_nI (by omega) (by omega), vp_in_nI (by omega) (by omega), ed_nz64 hw, hp⟩
theorem ed_xbest_l {post : Int32 → Prop} {al : Int64} (hc : c ≤ 32) (hp : post (ed_bs w a al c).1) : ∀ d i, i + d = c → wX_best_8 post al (nI c) l hz W q w a s m g (d + 1) (ed_bs w a al i).1 (ed_bs w a al i).2 (nI i) := by
  intro d
  induction d with
  | zero =>
    intro i hi
    have e : i = c := by omega
    rw [e]
    exact br_t (nI_le (Nat.le_refl c) (by omega)) hp
  | succ d ih =>
    intro i hi
    have h := ih (i + 1) (by omega)
    refine br_f (nI_ge (by omega) (by omega)) ?_
    by_cases hw : 0 < w i
    · refine ed_xpr1 hc (by omega) hw (br_f (by decide) ⟨vp_in_nI (by omega) (by omega), ?_⟩)
      rw [nI_clamp (by omega)]
      by_cases ha : a i ≤ al
      · refine br_f (Int64.not_lt.mpr ha) (ed_xdl hc (by omega) hw ?_)
        by_cases h3 : (ed_bs w a al i).1 < 0
        · have e : ed_bs w a al (i + 1) = (nI i, a i + 144403552893600 / (w i).toInt64) := (if_pos ⟨hw, ha⟩).trans (if_pos (Or.inl h3))
          rw [e] at h
          exact br_t h3 (nm_r (nI_1 i) h)
        · by_cases h4 : a i + 144403552893600 / (w i).toInt64 < (ed_bs w a al i).2
          · have e : ed_bs w a al (i + 1) = (nI i, a i + 144403552893600 / (w i).toInt64) := (if_pos ⟨hw, ha⟩).trans (if_pos (Or.inr h4))
            rw [e] at h
            exact br_f h3 (br_f (Int64.not_le.mpr h4) (nm_r (nI_1 i) h))
          · have e : ed_bs w a al (i + 1) = ed_bs w a al i := (if_pos ⟨hw, ha⟩).trans (if_neg (not_or.mpr ⟨h3, h4⟩))
            rw [e] at h
            exact br_f h3 (br_t (Int64.not_lt.mp h4) (nm_r (nI_1 i) h))
      · have e : ed_bs w a al (i + 1) = ed_bs w a al i := if_neg (fun z => ha z.2)
        rw [e] at h
        exact br_t (Int64.not_le.mp ha) (nm_r (nI_1 i) h)
    · have e : ed_bs w a al (i + 1) = ed_bs w a al i := if_neg (fun z => hw z.1)
      rw [e] at h
      exact ed_xpr0 hc (by omega) hw (br_t rfl (nm_r (nI_1 i) h))
theorem ed_xbest {post : Int32 → Prop} {al : Int64} (hc : c ≤ 32) (hp : post (ed_bs w a al c).1) : wpX_best post (nI c, l, hz, W, q, w, a, s, m, g) al := by
  unfold wpX_best
  exact ⟨c + 1, ed_xbest_l hc hp c 0 (by omega)⟩
theorem ed_xel_l {post : Int32 → Prop} (hc : c ≤ 32) (hp : post (ed_ct w a c)) : ∀ d i, i + d = c → wX_eligible_4 post (nI c) l hz W q w a s m g (d + 1) (ed_ct w a i) (nI i) := by
  intro d
  induction d with
  | zero =>
    intro i hi
    have e : i = c := by omega
    rw [e]
    exact br_t (nI_le (Nat.le_refl c) (by omega)) hp
  | succ d ih =>
    intro i hi
    have h := ih (i + 1) (by omega)
    refine br_f (nI_ge (by omega) (by omega)) ?_
    by_cases hw : 0 < w i
    · refine ed_xpr1 hc (by omega) hw (br_f (by decide) ⟨vp_in_nI (by omega) (by omega), ?_⟩)
      rw [nI_clamp (by omega)]
      by_cases ha : a i ≤ 0
      · have e : ed_ct w a (i + 1) = ed_ct w a i + 1 := if_pos ⟨hw, ha⟩
        rw [e] at h
        exact br_f (Int64.not_lt.mpr ha) (nm_e (nm_r (nI_1 i) h))
      · have e : ed_ct w a (i + 1) = ed_ct w a i := if_neg (fun z => ha z.2)
        rw [e] at h
        exact br_t (Int64.not_le.mp ha) (nm_r (nI_1 i) h)
    · have e : ed_ct w a (i + 1) = ed_ct w a i := if_neg (fun z => hw z.1)
      rw [e] at h
      exact ed_xpr0 hc (by omega) hw (br_t rfl (nm_r (nI_1 i) h))
theorem ed_xel {post : Int32 → Prop} (hc : c ≤ 32) (hp : post (ed_ct w a c)) : wpX_eligible post (nI c, l, hz, W, q, w, a, s, m, g) := by
  unfold wpX_eligible
  exact ⟨c + 1, ed_xel_l hc hp c 0 (by omega)⟩
theorem ed_xmv_l {post : St2 → Prop} {x : Int64} (hc : c ≤ 32) (hp : post (nI c, l, hz, W, q, w, ed_mv w a x c, s, m, g)) : ∀ d i, i + d = c → wX_moveMean_12 post x (nI c) l hz W q (d + 1) (nI i) w (ed_mv w a x i) s m g := by
  intro d
  induction d with
  | zero =>
    intro i hi
    have e : i = c := by omega
    rw [e]
    exact br_t (nI_le (Nat.le_refl c) (by omega)) hp
  | succ d ih =>
    intro i hi
    have h := ih (i + 1) (by omega)
    refine br_f (nI_ge (by omega) (by omega)) ?_
    by_cases hw : 0 < w i
    · refine ed_xpr1 hc (by omega) hw (br_f (by decide) ⟨vp_in_nI (by omega) (by omega), vp_in_nI (by omega) (by omega), ?_⟩)
      rw [nI_clamp (by omega)]
      exact nm_r (ed_mv_s hw) (nm_r (nI_1 i) h)
    · rw [← ed_mv_n hw] at h
      exact ed_xpr0 hc (by omega) hw (br_t rfl (nm_r (nI_1 i) h))
theorem ed_xmv {post : St2 → Prop} (hc : c ≤ 32) (hW : ¬ W.toInt64 = 0) (hp : post (nI c, l, hz, W, q, w, ed_mv w a (144403552893600 / W.toInt64) c, s, m, g)) : wpX_moveMean post (nI c, l, hz, W, q, w, a, s, m, g) := by
  unfold wpX_moveMean
  refine ⟨hW, nm_e ⟨c + 1, ?_⟩⟩
  have h := ed_xmv_l (s := s) (m := m) (g := g) hc hp c 0 (by omega)
  rw [ed_mv_0] at h
  exact h
theorem ed_xab {post : St2 → Prop} {j : Nat} (hc : c ≤ 32) (hj : j < c) (hp : post (nI c, l, hz, W - w j, q, upd w j 0, a, s, m, g)) : wpX_makeAbsent post (nI c, l, hz, W, q, w, a, s, m, g) (nI j) := by
  unfold wpX_makeAbsent
  dsimp only
  rw [nI_clamp (by omega)]
  exact ⟨vp_in_nI (by omega) (by omega), nm_e ⟨vp_in_nI (by omega) (by omega), nm_e hp⟩⟩
theorem ed_xrm_l {post : St2 → Prop} (hc : c ≤ 32) (hp : post (nI c, l, hz, ed_sum (ed_cl w a m w c) c, q, ed_cl w a m w c, a, s, m, g)) : ∀ d i, i + d = c → wX_removeSettledLeavers_2 post (d + 1) (nI i) (nI c) l hz (ed_sum (ed_cl w a m w i) c) q (ed_cl w a m w i) a s m g := by
  intro d
  induction d with
  | zero =>
    intro i hi
    have e : i = c := by omega
    rw [e]
    exact br_t (nI_le (Nat.le_refl c) (by omega)) hp
  | succ d ih =>
    intro i hi
    have h := ih (i + 1) (by omega)
    refine br_f (nI_ge (by omega) (by omega)) ?_
    have ea := ed_cl_at w a m w i
    by_cases hw : 0 < w i
    · refine ed_xpr1 hc (by omega) (by rw [ea]; exact hw) (br_f (by decide) ⟨vp_in_nI (by omega) (by omega), ?_⟩)
      rw [nI_clamp (by omega)]
      by_cases hm : m i = 0
      · rw [← ed_cl_n (f := w) (fun z => z.2.1 hm)] at h
        exact br_t hm (nm_r (nI_1 i) h)
      · refine br_f hm ⟨vp_in_nI (by omega) (by omega), ?_⟩
        by_cases hz : a i = 0
        · refine br_t hz (ed_xab hc (by omega) ?_)
          have e1 : upd (ed_cl w a m w i) i 0 = ed_cl w a m w (i + 1) := ed_cl_s ⟨hw, hm, hz⟩
          have e2 : ed_sum (ed_cl w a m w i) c - ed_cl w a m w i i = ed_sum (ed_cl w a m w (i + 1)) c := by
            rw [← e1, ed_sum_in (by omega), Int32.add_zero]
          rw [e1, e2]
          exact nm_r (nI_1 i) h
        · rw [← ed_cl_n (f := w) (fun z => hz z.2.2)] at h
          exact br_f hz (nm_r (nI_1 i) h)
    · rw [← ed_cl_n (f := w) (fun z => hw z.1)] at h
      exact ed_xpr0 hc (by omega) (by rw [ea]; exact hw) (br_t rfl (nm_r (nI_1 i) h))
theorem ed_xrm {post : St2 → Prop} (hc : c ≤ 32) (hp : post (nI c, l, hz, ed_sum (ed_cl w a m w c) c, q, ed_cl w a m w c, a, s, m, g)) : wpX_removeSettledLeavers post (nI c, l, hz, ed_sum w c, q, w, a, s, m, g) := by
  unfold wpX_removeSettledLeavers
  refine ⟨c + 1, ?_⟩
  have h := ed_xrm_l hc hp c 0 (by omega)
  rw [ed_cl_0] at h
  exact h
end
theorem ed_xgq {c n j : Nat} {l hz : Int32} {w : Nat → Int32} {a : Nat → Int64} {s m g : Nat → Int32} {post : St2 → Prop} (hc : c ≤ 32) (hn : n < 30000) (hj : j < c) (hw : 0 < w j) (hW : ¬ (ed_sum w c).toInt64 = 0) {a2 : Nat → Int64} (ha2 : ed_mv w (vp_updL a j (a j + 144403552893600 / (w j).toInt64)) (144403552893600 / (ed_sum w c).toInt64) c = a2)
    (hp : post (nI c, l, hz, ed_sum (ed_cl w a2 m w c) c, nI (n + 1), ed_cl w a2 m w c, a2, upd s j (s j + 1), m, upd g (n % 64) (nI j))) : wpX_giveQuantum post (nI c, l, hz, ed_sum w c, nI n, w, a, s, m, g) (nI j) := by
  have hi : vp_in (nI j) 32 := vp_in_nI (by omega) (by omega)
  have er : nI n - nI n / 64 * 64 = nI (n % 64) := pk_rem (d := 64) (by omega) (by omega) (by omega)
  unfold wpX_giveQuantum
  dsimp only
  rw [nI_clamp (by omega)]
  refine ⟨hi, hi, ed_nz64 hw, hi, nm_e ⟨hi, hi, nm_e ?_⟩⟩
  refine ed_xmv hc hW ?_
  dsimp only
  rw [ha2, er, nI_clamp (by omega)]
  exact ⟨by decide, vp_in_nI (by omega) (by omega), nm_e (nm_r (nI_1 n) (ed_xrm hc hp))⟩
end
section
/-! the class's methods keep the invariant, whatever they are called with -/
section
variable {c l h q : Nat} {w : Nat → Int32} {a : Nat → Int64} {s m g : Nat → Int32}
theorem dl_Vm (V : dl_V c l h q w a m) {m' : Nat → Int32} (hm : ∀ j, m' j = 0 ∨ m' j = 1) : dl_V c l h q w a m' :=
  ⟨V.1, V.2.1, V.2.2.1, V.2.2.2.1, V.2.2.2.2.1, hm, V.2.2.2.2.2.2⟩
theorem dl_mk {p : Nat} {x : Int32} (hm : ∀ j, m j = 0 ∨ m j = 1) (hx : x = 0 ∨ x = 1) : ∀ j, upd m p x j = 0 ∨ upd m p x j = 1 := fun j => by
  by_cases e : j = p
  · rw [e, pk_us]; exact hx
  · rw [pk_un e]; exact hm j
theorem dl_mjoin {post : Int32 → St2 → Prop} (V : dl_V c l h q w a m) (H : ∀ r q w a s m g, dl_V c l h q w a m → post r (nI c, nI l, nI h, ed_sum w c, nI q, w, a, s, m, g)) (x y : Int32) : wpX_join post (nI c, nI l, nI h, ed_sum w c, nI q, w, a, s, m, g) x y := by
  have hc := V.1
  have hl := V.2.1
  have H0 := fun r => H r q w a s m g V
  unfold wpX_join
  rcases ed_ix x hc with hb | ⟨j, hj, rfl⟩
  · exact ed_xbad1 hb (br_f (by decide) (H0 _))
  · have hi : vp_in (nI j) 32 := vp_in_nI (by omega) (by omega)
    have ec : (nI j).toNatClampNeg = j := nI_clamp (by omega)
    refine ed_xbad0 hc hj (br_t rfl ?_)
    by_cases hw : 0 < w j
    · exact ed_xpr1 hc hj hw (br_f (by decide) (H0 _))
    · refine ed_xpr0 hc hj hw (br_t rfl (ed_xbw (fun z => br_f (by decide) (H0 _)) (fun z1 z2 => br_t rfl (br_c (fun z3 => ?_) (fun z3 => H0 _)))))
      have hy : ¬ y < 0 := fun z => z1 (Int32.lt_trans z (by decide))
      refine ⟨hi, nm_e ⟨hi, nm_e ⟨hi, nm_e ⟨hi, nm_e (nm_e ?_)⟩⟩⟩⟩
      rw [ec]
      have es : ed_sum w c + y = ed_sum (upd w j y) c := by rw [ed_sum_in hj, ed_z (V.2.2.2.2.1 j) hw, Int32.sub_zero]
      rw [es]
      refine H _ _ _ _ _ _ _ (dl_Vw V hj hy (Or.inl hw) (fun i hi => pk_uLn hi) pk_uLs (dl_mk V.2.2.2.2.2.1 (Or.inl rfl)) ?_)
      obtain ⟨k, hk, rfl⟩ := nI_of2 (M := nI l) (n := l) (nI_toInt (by omega)) hy z2
      have h36 := V.2.2.2.2.2.2.1
      rw [dl_sumN V.2.2.2.2.1, nI_add, nI_leI (by omega) (by omega)] at z3
      rw [nI_clamp (by omega)]
      omega
theorem dl_mleave {post : Int32 → St2 → Prop} (V : dl_V c l h q w a m) (H : ∀ r q w a s m g, dl_V c l h q w a m → post r (nI c, nI l, nI h, ed_sum w c, nI q, w, a, s, m, g)) (x : Int32) : wpX_leave post (nI c, nI l, nI h, ed_sum w c, nI q, w, a, s, m, g) x := by
  have hc := V.1
  have H0 := fun r => H r q w a s m g V
  unfold wpX_leave
  rcases ed_ix x hc with hb | ⟨j, hj, rfl⟩
  · exact ed_xbad1 hb (br_f (by decide) (H0 _))
  · have hi : vp_in (nI j) 32 := vp_in_nI (by omega) (by omega)
    have ec : (nI j).toNatClampNeg = j := nI_clamp (by omega)
    refine ed_xbad0 hc hj (br_t rfl ?_)
    by_cases hw : 0 < w j
    · refine ed_xpr1 hc hj hw (br_f (by decide) ⟨hi, br_c (fun z1 => ⟨hi, br_c (fun z2 => ?_) (fun z2 => ⟨hi, nm_e ?_⟩)⟩) (fun z1 => H0 _)⟩)
      · rw [ec] at z2
        refine ed_xab hc hj ?_
        have es : ed_sum w c - w j = ed_sum (upd w j 0) c := by rw [ed_sum_in hj, Int32.add_zero]
        rw [es]
        refine H _ _ _ _ _ _ _ (dl_Vw V hj (by decide) (Or.inr z2) (fun i hi => rfl) z2 V.2.2.2.2.2.1 ?_)
        have h36 := V.2.2.2.2.2.2.1
        have e0 : (0 : Int32).toNatClampNeg = 0 := rfl
        omega
      · exact H _ _ _ _ _ _ _ (dl_Vm V (dl_mk V.2.2.2.2.2.1 (Or.inr rfl)))
    · exact ed_xpr0 hc hj hw (br_t rfl (H0 _))
theorem dl_mstay {post : Int32 → St2 → Prop} (V : dl_V c l h q w a m) (H : ∀ r q w a s m g, dl_V c l h q w a m → post r (nI c, nI l, nI h, ed_sum w c, nI q, w, a, s, m, g)) (x : Int32) : wpX_stay post (nI c, nI l, nI h, ed_sum w c, nI q, w, a, s, m, g) x := by
  have hc := V.1
  have H0 := fun r => H r q w a s m g V
  unfold wpX_stay
  rcases ed_ix x hc with hb | ⟨j, hj, rfl⟩
  · exact ed_xbad1 hb (br_f (by decide) (H0 _))
  · have hi : vp_in (nI j) 32 := vp_in_nI (by omega) (by omega)
    refine ed_xbad0 hc hj (br_t rfl ?_)
    by_cases hw : 0 < w j
    · exact ed_xpr1 hc hj hw (br_f (by decide) ⟨hi, br_c (fun z1 => H0 _) (fun z1 => ⟨hi, nm_e (H _ _ _ _ _ _ _ (dl_Vm V (dl_mk V.2.2.2.2.2.1 (Or.inl rfl))))⟩)⟩)
    · exact ed_xpr0 hc hj hw (br_t rfl (H0 _))
theorem dl_mrew {post : Int32 → St2 → Prop} (V : dl_V c l h q w a m) (H : ∀ r q w a s m g, dl_V c l h q w a m → post r (nI c, nI l, nI h, ed_sum w c, nI q, w, a, s, m, g)) (x y : Int32) : wpX_reweigh post (nI c, nI l, nI h, ed_sum w c, nI q, w, a, s, m, g) x y := by
  have hc := V.1
  have hl := V.2.1
  have H0 := fun r => H r q w a s m g V
  unfold wpX_reweigh
  rcases ed_ix x hc with hb | ⟨j, hj, rfl⟩
  · exact ed_xbad1 hb (br_f (by decide) (H0 _))
  · have hi : vp_in (nI j) 32 := vp_in_nI (by omega) (by omega)
    have ec : (nI j).toNatClampNeg = j := nI_clamp (by omega)
    refine ed_xbad0 hc hj (br_t rfl ?_)
    by_cases hw : 0 < w j
    · refine ed_xpr1 hc hj hw (br_f (by decide) (ed_xbw (fun z => br_f (by decide) (H0 _)) (fun z1 z2 => br_t rfl ⟨hi, br_c (fun z3 => ⟨hi, nm_e (br_c (fun z4 => ⟨hi, nm_e ?_⟩) (fun z4 => H0 _))⟩) (fun z3 => H0 _)⟩)))
      rw [ec] at z3 z4 ⊢
      have hy : ¬ y < 0 := fun z => z1 (Int32.lt_trans z (by decide))
      have es : ed_sum w c - w j + y = ed_sum (upd w j y) c := (ed_sum_in hj).symm
      rw [es]
      refine H _ _ _ _ _ _ _ (dl_Vw V hj hy (Or.inr z3) (fun i hi => rfl) z3 V.2.2.2.2.2.1 ?_)
      obtain ⟨k, hk, rfl⟩ := nI_of2 (M := nI l) (n := l) (nI_toInt (by omega)) hy z2
      have h36 := V.2.2.2.2.2.2.1
      have hge := dl_sn_ge (f := dl_w w) hj
      rw [dl_sumN V.2.2.2.2.1, (dl_wn (V.2.2.2.2.1 j)).1, pk_sub hge, nI_add, nI_leI (by omega) (by omega)] at z4
      rw [nI_clamp (by omega)]
      omega
    · exact ed_xpr0 hc hj hw (br_t rfl (H0 _))
end
theorem dl_mrun_l {c l h N : Nat} {post : Int32 → St2 → Prop} (hN : N ≤ 64) (H : ∀ r q w a s m g, dl_V c l h q w a m → post r (nI c, nI l, nI h, ed_sum w c, nI q, w, a, s, m, g)) :
    ∀ (d i q : Nat) (w : Nat → Int32) (a : Nat → Int64) (s m g : Nat → Int32), i + d = N → dl_V c l h q w a m → wX_run_16 post (nI N) (d + 1) (nI i) (nI c) (nI l) (nI h) (ed_sum w c) (nI q) w a s m g := by
  intro d
  induction d with
  | zero =>
    intro i q w a s m g hi V
    have e : i = N := by omega
    rw [e]
    exact br_t (nI_le (Nat.le_refl N) (by omega)) (H _ _ _ _ _ _ _ V)
  | succ d ih =>
    intro i q w a s m g hi V
    have hc := V.1
    have hh := V.2.2.1
    refine br_f (nI_ge (by omega) (by omega)) (ed_xbest hc ?_)
    rcases dl_bs_min w a 0 c hc with ⟨e, _⟩ | ⟨p, hp, e, hw, ha, hmin⟩
    · exact br_t (by rw [e]; decide) (H _ _ _ _ _ _ _ V)
    · rw [e]
      refine br_f (nI_pos (by omega)) (br_c (fun _ => H _ _ _ _ _ _ _ V) (fun hW => br_c (fun hq => ?_) (fun _ => H _ _ _ _ _ _ _ V)))
      have hqh := V.2.2.2.1
      rw [nI_ltI (by omega) (by omega)] at hq
      have hWz : ¬ (ed_sum w c).toInt64 = 0 := ed_nz64 (Int32.lt_of_lt_of_le (by decide : (0 : Int32) < 1) (Int32.not_lt.mp hW))
      exact ed_xgq hc (by omega) hp hw hWz rfl (nm_r (nI_1 i) (ih (i + 1) (q + 1) _ _ _ _ _ (by omega) (dl_Vq V hq hp hw ha hmin)))
section
variable {c l h q : Nat} {w : Nat → Int32} {a : Nat → Int64} {s m g : Nat → Int32}
theorem dl_mrun {post : Int32 → St2 → Prop} (V : dl_V c l h q w a m) (H : ∀ r q w a s m g, dl_V c l h q w a m → post r (nI c, nI l, nI h, ed_sum w c, nI q, w, a, s, m, g)) (x : Int32) : wpX_run post (nI c, nI l, nI h, ed_sum w c, nI q, w, a, s, m, g) x := by
  unfold wpX_run
  refine br_c (fun _ => H _ _ _ _ _ _ _ V) (fun z => br_c (fun z2 => ?_) (fun _ => H _ _ _ _ _ _ _ V))
  obtain ⟨N, hN, rfl⟩ := nI_of2 (M := 64) (n := 64) (by decide) (fun y => z (Int32.lt_trans y (by decide))) z2
  exact ⟨N + 1, dl_mrun_l hN H N 0 q w a s m g (by omega) V⟩
theorem dl_qw {post : Int32 → Prop} {W hz q' l' : Int32} (hc : c ≤ 32) (H : ∀ r, post r) (x : Int32) : wpX_weight post (nI c, l', hz, W, q', w, a, s, m, g) x := by
  unfold wpX_weight
  rcases ed_ix x hc with hb | ⟨j, hj, rfl⟩
  · exact ed_xprb hb (br_t rfl (H _))
  · have hi : vp_in (nI j) 32 := vp_in_nI (by omega) (by omega)
    by_cases hw : 0 < w j
    · exact ed_xpr1 hc hj hw (br_f (by decide) ⟨hi, H _⟩)
    · exact ed_xpr0 hc hj hw (br_t rfl (H _))
theorem dl_qle {post : Int32 → Prop} {W hz q' l' : Int32} (hc : c ≤ 32) (H : ∀ r, post r) (x : Int32) : wpX_leaving post (nI c, l', hz, W, q', w, a, s, m, g) x := by
  unfold wpX_leaving
  rcases ed_ix x hc with hb | ⟨j, hj, rfl⟩
  · exact ed_xprb hb (br_t rfl (H _))
  · have hi : vp_in (nI j) 32 := vp_in_nI (by omega) (by omega)
    by_cases hw : 0 < w j
    · exact ed_xpr1 hc hj hw (br_f (by decide) ⟨hi, br_c (fun _ => H _) (fun _ => H _)⟩)
    · exact ed_xpr0 hc hj hw (br_t rfl (H _))
theorem dl_qlag {post : Int64 → Prop} {W hz q' l' : Int32} (hc : c ≤ 32) (H : ∀ r, post r) (x : Int32) : wpX_lag post (nI c, l', hz, W, q', w, a, s, m, g) x := by
  unfold wpX_lag
  rcases ed_ix x hc with hb | ⟨j, hj, rfl⟩
  · exact ed_xprb hb (br_t rfl (H _))
  · have hi : vp_in (nI j) 32 := vp_in_nI (by omega) (by omega)
    by_cases hw : 0 < w j
    · exact ed_xpr1 hc hj hw (br_f (by decide) ⟨hi, hi, H _⟩)
    · exact ed_xpr0 hc hj hw (br_t rfl (H _))
theorem dl_qw1 {post : Int32 → Prop} {W hz q' l' : Int32} {j : Nat} (hc : c ≤ 32) (hj : j < c) (h1 : 0 < w j → post (w j)) (h0 : ¬ 0 < w j → post 0) : wpX_weight post (nI c, l', hz, W, q', w, a, s, m, g) (nI j) := by
  have hi : vp_in (nI j) 32 := vp_in_nI (by omega) (by omega)
  unfold wpX_weight
  by_cases hw : 0 < w j
  · refine ed_xpr1 hc hj hw (br_f (by decide) ⟨hi, ?_⟩)
    rw [nI_clamp (by omega)]
    exact h1 hw
  · exact ed_xpr0 hc hj hw (br_t rfl (h0 hw))
theorem dl_qlag1 {post : Int64 → Prop} {W hz q' l' : Int32} {j : Nat} (hc : c ≤ 32) (hj : j < c) (hw : 0 < w j) (hp : post (-((w j).toInt64 * a j))) : wpX_lag post (nI c, l', hz, W, q', w, a, s, m, g) (nI j) := by
  have hi : vp_in (nI j) 32 := vp_in_nI (by omega) (by omega)
  unfold wpX_lag
  refine ed_xpr1 hc hj hw (br_f (by decide) ⟨hi, hi, ?_⟩)
  rw [nI_clamp (by omega)]
  exact hp
end
end
section
/-! the law's walk -/
theorem dl_cell {post : Int32 → Prop} {L : Nat} {xs : Nat → Int32} {x : Int32} (k : Nat) (hL : L ≤ 260) (H : ∀ r, post r) (hx : x = nI k) (hk : k < 2 ^ 31) : wpL_cell post L xs () x := by
  subst hx
  exact pk_le L k (fun _ => H _) (fun z => ⟨vp_in_nI z (by omega), H _⟩)
theorem dl_mod {post : Int32 → Prop} {x y : Int32} (hy : ¬ y = 0) (H : ∀ r, post r) : wpL_mod post () x y := ⟨hy, H _⟩
theorem dl_modv {post : Int32 → Prop} {x : Int32} (M : Nat) (h0 : 0 < M) (hM : M < 2 ^ 31) (H : ∀ j, j < M → post (nI j)) : wpL_mod post () x (nI M) := by
  refine ⟨nI_ne0 h0 hM, ?_⟩
  rw [pk_and x 31 (by decide), pk_rem (Nat.mod_lt _ (by decide)) h0 hM]
  exact H _ (Nat.mod_lt _ h0)
section
variable {c l h q : Nat} {w : Nat → Int32} {a : Nat → Int64} {s m g : Nat → Int32} {post : Int32 → Prop} {L : Nat} {xs : Nat → Int32} {kc ks : Nat} {x1 x6 x7 x8 x13 x14 x15 x16 x17 x18 x19 x20 x21 z0 : Int32}
variable {J : Int32 → Int32 → Int32 → Int32 → Int32 → Int32 → (Nat → Int32) → (Nat → Int64) → (Nat → Int32) → (Nat → Int32) → (Nat → Int32) → Prop} {K : Int32 → Int32 → Int32 → Prop}
theorem dl_556 (H : ∀ y z, K y z (x19 + 1)) : wL_law_556 post L xs J K x1 x6 x7 x8 x13 x14 x15 x16 x17 x18 x19 x20 kc ks (nI c) (nI l) (nI h) (ed_sum w c) (nI q) w a s m g := by
  unfold wL_law_556
  exact br_c (fun _ => nm_e (H _ _)) (fun _ => nm_e (H _ _))
theorem dl_457 (H : ∀ y z, K y z (x19 + 1)) : wL_law_457 post L xs J K x1 x6 x7 x8 x13 x14 x15 x16 x17 x19 x20 z0 kc ks (nI c) (nI l) (nI h) (ed_sum w c) (nI q) w a s m g := by
  unfold wL_law_457
  exact dl_556 H
theorem dl_495 (H : ∀ y z, K y z (x19 + 1)) : wL_law_495 post L xs J K x1 x6 x7 x8 x13 x14 x15 x16 x17 x19 x20 z0 kc ks (nI c) (nI l) (nI h) (ed_sum w c) (nI q) w a s m g := by
  unfold wL_law_495
  exact dl_556 H
theorem dl_535 (H : ∀ y z, K y z (x19 + 1)) : wL_law_535 post L xs J K x1 x6 x7 x8 x13 x14 x15 x16 x17 x19 x20 z0 kc ks (nI c) (nI l) (nI h) (ed_sum w c) (nI q) w a s m g := by
  unfold wL_law_535
  exact dl_556 H
theorem dl_447 (H : ∀ y z, K y z (x19 + 1)) : wL_law_447 post L xs J K x1 x6 x7 x8 x13 x14 x15 x16 x17 x19 x20 x21 kc ks (nI c) (nI l) (nI h) (ed_sum w c) (nI q) w a s m g := by
  unfold wL_law_447
  exact br_c (fun _ => dl_457 H) (fun _ => dl_457 H)
theorem dl_494 (H : ∀ y z, K y z (x19 + 1)) : wL_law_494 post L xs J K x1 x6 x7 x8 x13 x14 x15 x16 x17 x19 x20 kc ks (nI c) (nI l) (nI h) (ed_sum w c) (nI q) w a s m g := by
  unfold wL_law_494
  exact dl_495 H
theorem dl_534 (H : ∀ y z, K y z (x19 + 1)) : wL_law_534 post L xs J K x1 x6 x7 x8 x13 x14 x15 x16 x17 x19 x20 kc ks (nI c) (nI l) (nI h) (ed_sum w c) (nI q) w a s m g := by
  unfold wL_law_534
  exact dl_535 H
theorem dl_475 (hc : c ≤ 32) (H : ∀ y z, K y z (x19 + 1)) : wL_law_475 post L xs J K x1 x6 x7 x8 x13 x14 x15 x16 x17 x19 x20 x21 kc ks (nI c) (nI l) (nI h) (ed_sum w c) (nI q) w a s m g := by
  unfold wL_law_475
  exact br_c (fun _ => dl_494 H) (fun _ => dl_qle hc (fun r => br_c (fun _ => dl_495 H) (fun _ => dl_494 H)) _)
theorem dl_513 (hc : c ≤ 32) (H : ∀ y z, K y z (x19 + 1)) : wL_law_513 post L xs J K x1 x6 x7 x8 x13 x14 x15 x16 x17 x19 x20 x21 kc ks (nI c) (nI l) (nI h) (ed_sum w c) (nI q) w a s m g := by
  unfold wL_law_513
  exact br_c (fun _ => dl_534 H) (fun _ => dl_qlag hc (fun r => br_c (fun _ => dl_535 H) (fun _ => dl_534 H)) _)
theorem dl_432 (hc : c ≤ 32) (H : ∀ y z, K y z (x19 + 1)) : wL_law_432 post L xs J K x1 x6 x7 x8 x13 x14 x15 x16 x17 x18 x19 x20 z0 kc ks (nI c) (nI l) (nI h) (ed_sum w c) (nI q) w a s m g := by
  unfold wL_law_432
  exact br_c (fun _ => dl_447 H) (fun _ => br_c (fun _ => dl_447 H) (fun _ => br_c (fun _ => dl_475 hc H) (fun _ => br_c (fun _ => dl_475 hc H) (fun _ => br_c (fun _ => dl_513 hc H) (fun _ => br_c (fun _ => dl_513 hc H) (fun _ => br_c (fun _ => dl_qle hc (fun r => dl_556 H) _) (fun _ => dl_556 H)))))))
theorem dl_632 (V : dl_V c l h q w a m) (HJ : ∀ q w a s m g, dl_V c l h q w a m → J (x8 + 1) (nI c) (nI l) (nI h) (ed_sum w c) (nI q) w a s m g) : wL_law_632 post L xs J x1 x6 x7 x8 x17 kc ks (nI c) (nI l) (nI h) (ed_sum w c) (nI q) w a s m g := by
  unfold wL_law_632
  exact dl_mleave V (fun r q w a s m g V x ex => by subst ex; exact HJ q w a s m g V) _
theorem dl_656 (V : dl_V c l h q w a m) (HJ : ∀ q w a s m g, dl_V c l h q w a m → J (x8 + 1) (nI c) (nI l) (nI h) (ed_sum w c) (nI q) w a s m g) : wL_law_656 post L xs J x1 x6 x7 x8 x16 x17 kc ks (nI c) (nI l) (nI h) (ed_sum w c) (nI q) w a s m g := by
  unfold wL_law_656
  exact ⟨by decide, dl_mrew V (fun r q w a s m g V x ex => by subst ex; exact HJ q w a s m g V) _ _⟩
theorem dl_705 (V : dl_V c l h q w a m) (HJ : ∀ q w a s m g, dl_V c l h q w a m → J (x8 + 1) (nI c) (nI l) (nI h) (ed_sum w c) (nI q) w a s m g) : wL_law_705 post L xs J x1 x6 x7 x8 x16 kc ks (nI c) (nI l) (nI h) (ed_sum w c) (nI q) w a s m g := by
  unfold wL_law_705
  exact ⟨by decide, dl_mrun V (fun r q w a s m g V x ex => by subst ex; exact HJ q w a s m g V) _⟩
theorem dl_571 (V : dl_V c l h q w a m) (HJ : ∀ q w a s m g, dl_V c l h q w a m → J (x8 + 1) (nI c) (nI l) (nI h) (ed_sum w c) (nI q) w a s m g) : wL_law_571 post L xs J x1 x6 x7 x8 x13 x15 x16 x17 kc ks (nI c) (nI l) (nI h) (ed_sum w c) (nI q) w a s m g := by
  unfold wL_law_571
  refine br_c (fun _ => ⟨by decide, dl_mjoin V (fun r q w a s m g V x ex => by subst ex; exact HJ q w a s m g V) _ _⟩) (fun _ => br_c (fun _ => ⟨by decide, dl_mjoin V (fun r q w a s m g V x ex => by subst ex; exact HJ q w a s m g V) _ _⟩) (fun _ => ?_))
  refine br_c (fun _ => dl_632 V HJ) (fun _ => br_c (fun _ => dl_632 V HJ) (fun _ => br_c (fun _ => dl_656 V HJ) (fun _ => br_c (fun _ => dl_656 V HJ) (fun _ => ?_))))
  refine br_c (fun _ => dl_mstay V (fun r q w a s m g V x ex => by subst ex; exact HJ q w a s m g V) _) (fun _ => br_c (fun _ => dl_705 V HJ) (fun _ => br_c (fun _ => dl_705 V HJ) (fun _ => br_c (fun _ => ⟨by decide, dl_mrun V (fun r q w a s m g V x ex => by subst ex; exact HJ q w a s m g V) _⟩) (fun _ => ?_))))
  refine br_c (fun _ => ⟨by decide, by decide, nm_e ⟨by decide, ?_⟩⟩) (fun _ => br_c (fun _ => ⟨by decide, ?_⟩) (fun _ => dl_mrun V (fun r q w a s m g V x ex => by subst ex; exact HJ q w a s m g V) _))
  · exact br_c (fun _ => dl_mjoin V (fun r q w a s m g V x ex => by subst ex; exact HJ q w a s m g V) _ _) (fun _ => ⟨by decide, br_c (fun _ => dl_mrew V (fun r q w a s m g V x ex => by subst ex; exact HJ q w a s m g V) _ _) (fun _ => ⟨by decide, br_c (fun _ => dl_mleave V (fun r q w a s m g V x ex => by subst ex; exact HJ q w a s m g V) _) (fun _ => dl_mstay V (fun r q w a s m g V x ex => by subst ex; exact HJ q w a s m g V) _)⟩)⟩)
  · unfold wpX_bestWithin
    exact ed_xbest V.1 (nm_e (HJ q w a s m g V))
theorem dl_397 (V : dl_V c l h q w a m) (HJ : ∀ q w a s m g, dl_V c l h q w a m → J (x8 + 1) (nI c) (nI l) (nI h) (ed_sum w c) (nI q) w a s m g) (h0 : 0 < c) : ∀ (d i : Nat) (y z : Int32), i + d = c → wL_law_397 post L xs J (nI c) x6 x7 x8 x13 x14 x15 x16 kc ks (nI c) (nI l) (nI h) (ed_sum w c) (nI q) w a s m g (d + 1) y z (nI i) := by
  have hc := V.1
  intro d
  induction d with
  | zero =>
    intro i y z hi
    have e : i = c := by omega
    rw [e]
    exact br_t (nI_le (Nat.le_refl c) (by omega)) (dl_571 V HJ)
  | succ d ih =>
    intro i y z hi
    have H : ∀ y z, wL_law_397 post L xs J (nI c) x6 x7 x8 x13 x14 x15 x16 kc ks (nI c) (nI l) (nI h) (ed_sum w c) (nI q) w a s m g (d + 1) y z (nI i + 1) := fun y z => by
      rw [nI_1]
      exact ih (i + 1) y z (by omega)
    exact br_f (nI_ge (by omega) (by omega)) (br_c (fun _ => ⟨nI_ne0 h0 (by omega), nm_e (dl_qw hc (fun r => br_c (fun _ => dl_432 hc H) (fun _ => dl_432 hc H)) _)⟩) (fun _ => dl_571 V HJ))
theorem dl_256 {k : Nat} (hk : k ≤ 200) (hL : L ≤ 260) (h0 : 0 < c) (V : dl_V c l h q w a m) (HJ : ∀ q w a s m g, dl_V c l h q w a m → J (nI k + 1) (nI c) (nI l) (nI h) (ed_sum w c) (nI q) w a s m g) : wL_law_256 post L xs J (nI c) x6 x7 (nI k) kc ks (nI c) (nI l) (nI h) (ed_sum w c) (nI q) w a s m g := by
  have hc := V.1
  unfold wL_law_256
  refine br_c (fun z6 => br_c (fun _ => ?_) (fun _ => br_c (fun _ => nm_e (HJ q w a s m g V)) (fun _ => dl_mrun V (fun r q w a s m g V x ex => by subst ex; exact HJ q w a s m g V) _))) (fun _ => ?_)
  · have h6 : 6 ≤ k := (nI_leI (a := 6) (by decide) (by omega)).mp z6
    have e : (9 : Int32) + 3 * (nI k - 6) = nI (9 + 3 * (k - 6)) := by
      have e1 : nI k - 6 = nI (k - 6) := pk_sub (b := 6) h6
      have e2 : (3 : Int32) * nI (k - 6) = nI (3 * (k - 6)) := pk_mul 3 (k - 6)
      have e3 : (9 : Int32) + nI (3 * (k - 6)) = nI (9 + 3 * (k - 6)) := nI_add 9 _
      rw [e1, e2, e3]
    have ea : ∀ t : Nat, nI (9 + 3 * (k - 6)) + nI t = nI (9 + 3 * (k - 6) + t) := fun t => nI_add _ t
    have ec : nI c + 2 = nI (c + 2) := nI_add c 2
    refine nm_r e (dl_cell _ hL (fun r1 => dl_mod (by decide) (fun r2 => dl_cell _ hL (fun r3 => dl_mod (nI_ne0 h0 (by omega)) (fun r4 => dl_cell _ hL (fun r5 => dl_mod ?_ (fun r6 => nm_e (dl_cell _ hL (fun r7 => dl_mod (by decide) (fun r8 => ⟨c + 1, dl_397 V HJ h0 c 0 _ _ (by omega)⟩)) (ea 2) (by omega)))) (ea 1) (by omega))) (ea 1) (by omega))) rfl (by omega))
    rw [ec]
    exact nI_ne0 (by omega) (by omega)
  · exact dl_cell (3 + k) hL (fun r1 => dl_mod (by decide) (fun r2 => dl_mjoin V (fun r q w a s m g V x ex => by subst ex; exact HJ q w a s m g V) _ _)) (nI_add 3 k) (by omega)
theorem dl_125 (V : dl_V c l h q w a m) (HG : wL_law_256 post L xs J (nI c) x6 x7 x8 kc ks (nI c) (nI l) (nI h) (ed_sum w c) (nI q) w a s m g) : ∀ (d i : Nat) (x9 : Int64), i + d = c → x9.toInt = -dl_sm (fun j => (dl_w w j : Int) * dl_a a j) i → (-(144403552893600 * (i : Int)) ≤ x9.toInt ∧ x9.toInt ≤ 144403552893600 * (i : Int)) → wL_law_125 post L xs J (nI c) x6 x7 x8 kc ks (nI c) (nI l) (nI h) (ed_sum w c) (nI q) w a s m g (d + 1) x9 (nI i) := by
  have hc := V.1
  have hN := V.2.2.2.2.1
  have hU : (144403552893600 : Int64).toInt = 144403552893600 := by decide
  have hU' : (-144403552893600 : Int64).toInt = -144403552893600 := by decide
  have hz : (0 : Int64).toInt = 0 := by decide
  intro d
  induction d with
  | zero =>
    intro i x9 hi hs _
    have e : i = c := by omega
    rw [e] at hs ⊢
    have h9 : x9 = 0 := by
      apply Int64.toInt_inj.mp
      rw [hs, V.2.2.2.2.2.2.2.1]
      rfl
    refine br_t (nI_le (Nat.le_refl c) (by omega)) (br_t h9 ?_)
    have hW := dl_sumN hN c
    have hW36 := V.2.2.2.2.2.2.1
    unfold wpX_next
    refine ed_xbest hc ?_
    show (ed_sum w c ≤ 0 → _) ∧ (¬ ed_sum w c ≤ 0 → _)
    by_cases h0 : dl_sn (dl_w w) c = 0
    · have hno := dl_Vno V h0
      have e1 : (ed_bs w a 0 c).1 = -1 := by
        rcases dl_bs_min w a 0 c hc with ⟨e, _⟩ | ⟨p, hp, _, hw, _⟩
        · exact e
        · exact absurd hw (hno p hp)
      have e2 : ed_ct w a c = 0 := by
        obtain ⟨k, _, e, hk⟩ := dl_ct w a c
        rw [e, hk.mpr (fun i hi z => hno i hi z.1)]
        exact nI_0
      exact br_t (by rw [hW, h0]; decide) (br_t e1 (ed_xel hc (br_t e2 HG)))
    · have hpos : ¬ ed_sum w c ≤ 0 := by
        rw [hW]
        exact nI_nle (by omega) (by omega)
      obtain ⟨j, hj, hwj, haj⟩ := dl_Vel V (by omega)
      rcases dl_bs_min w a 0 c hc with ⟨_, hn⟩ | ⟨p, hp, e, hw, ha, _⟩
      · exact absurd ⟨hwj, haj⟩ (hn j hj)
      · have e3 : 1 ≤ ed_ct w a c := by
          obtain ⟨k, hk1, e, hk⟩ := dl_ct w a c
          have hk0 : k ≠ 0 := fun z => hk.mp z p hp ⟨hw, ha⟩
          rw [e]
          exact nI_le (a := 1) (by omega) (by omega)
        rw [e]
        refine br_f hpos (dl_qw1 hc hp (fun _ => br_f (Int32.not_le.mpr hw) (dl_qlag1 hc hp hw (br_f ?_ (ed_xel hc (br_t e3 HG))))) (fun z => absurd hw z))
        rw [Int64.lt_iff_toInt_lt, (dl_Vlag V hp).1, hz]
        have h1 : (dl_w w p : Int) * dl_a a p ≤ (dl_w w p : Int) * 0 := dl_mm (by
          have := Int64.le_iff_toInt_le.mp ha
          rw [hz] at this
          exact this)
        rw [Int.mul_zero] at h1
        omega
  | succ d ih =>
    intro i x9 hi hs hb
    have hic : i < c := by omega
    obtain ⟨hl1, hl2, hl3⟩ := dl_Vlag V hic
    have es : dl_sm (fun j => (dl_w w j : Int) * dl_a a j) (i + 1) = dl_sm (fun j => (dl_w w j : Int) * dl_a a j) i + (dl_w w i : Int) * dl_a a i := rfl
    refine br_f (nI_ge (by omega) (by omega)) (dl_qw1 hc hic (fun hw => br_f (Int32.not_le.mpr hw) (dl_qlag1 hc hic hw (br_f ?_ (br_t ?_ (nm_e (nm_r (nI_1 i) (ih (i + 1) _ (by omega) ?_ ?_))))))) (fun hw => br_t (by decide) (nm_r (nI_1 i) (ih (i + 1) x9 (by omega) ?_ ?_))))
    · rw [Int64.le_iff_toInt_le, hl1, hU']; omega
    · rw [Int64.lt_iff_toInt_lt, hl1, hU]; omega
    · rw [dl_lA (by rw [hl1]; omega) (by rw [hl1]; omega), hl1, hs, es]; omega
    · rw [dl_lA (by rw [hl1]; omega) (by rw [hl1]; omega), hl1]; omega
    · have hz0 : dl_w w i = 0 := by
        by_cases e : dl_w w i = 0
        · exact e
        · exact absurd ((dl_wp (hN i)).mpr (by omega)) hw
      rw [es, hs, hz0, show ((0 : Nat) : Int) * dl_a a i = 0 from Int.zero_mul _]; omega
    · omega
end

theorem dl_112 {c l h T : Nat} {L : Nat} {xs : Nat → Int32} {kc ks : Nat} {x6 : Int32} (hL : L ≤ 260) (hT : T ≤ 190) (h0 : 0 < c) : ∀ (d k q : Nat) (w : Nat → Int32) (a : Nat → Int64) (s m g : Nat → Int32), k + d = T + 1 → dl_V c l h q w a m → wL_law_112 (fun r => r = 1) L xs (nI c) x6 (nI T) kc ks (d + 1) (nI k) (nI c) (nI l) (nI h) (ed_sum w c) (nI q) w a s m g := by
  intro d
  induction d with
  | zero =>
    intro k q w a s m g hk V
    exact br_t (nI_lt (by omega) (by omega)) rfl
  | succ d ih =>
    intro k q w a s m g hk V
    refine br_f (nI_nlt (by omega) (by omega)) ⟨c + 1, dl_125 V (dl_256 (by omega) hL h0 V (fun q w a s m g V' => ?_)) c 0 0 (by omega) rfl (by decide)⟩
    rw [nI_1]
    exact ih (k + 1) q w a s m g (by omega) V'
theorem dl_97 {c l h S : Nat} {L : Nat} {xs : Nat → Int32} {kc ks : Nat} {z0 : Int32} (hL : L ≤ 260) (hS : S ≤ 100) (hz : z0 = nI S) (h0 : 0 < c) (hc : c ≤ 32) (hl : l ≤ 36) (hh : h ≤ 30000) : wL_law_97 (fun r => r = 1) L xs (nI c) z0 kc ks (nI c) (nI l) (nI h) 0 0 (fun _ => 0) (fun _ => 0) (fun _ => 0) (fun _ => 0) (fun _ => 0) := by
  have V : dl_V c l h 0 (fun _ => 0) (fun _ => 0) (fun _ => 0) := by
    have ez : ∀ n, dl_sn (dl_w (fun _ => 0)) n = 0 := fun n => by
      induction n with
      | zero => rfl
      | succ n ih =>
        show dl_sn (dl_w (fun _ => 0)) n + 0 = 0
        rw [ih]
    refine ⟨hc, hl, hh, Nat.zero_le h, fun _ => by show ¬ (0 : Int32) < 0; decide, fun _ => Or.inl rfl, ?_, dl_I_0 (fun _ _ => rfl)⟩
    rw [ez]
    exact Nat.zero_le _
  have es : ∀ n, ed_sum (fun _ => 0) n = 0 := fun n => by
    induction n with
    | zero => rfl
    | succ n ih =>
      show ed_sum (fun _ => 0) n + 0 = 0
      rw [ih]; rfl
  have e : (6 : Int32) + z0 + 48 = nI (6 + S + 48) := by
    have e1 : (6 : Int32) + nI S = nI (6 + S) := nI_add 6 S
    have e2 : nI (6 + S) + (48 : Int32) = nI (6 + S + 48) := nI_add (6 + S) 48
    rw [hz, e1, e2]
  unfold wL_law_97
  refine nm_r e ⟨6 + S + 48 + 1 + 1, ?_⟩
  have t := dl_112 (xs := xs) (kc := kc) (ks := ks) (x6 := z0) (T := 6 + S + 48) hL (by omega) h0 (6 + S + 48 + 1) 0 0 (fun _ => 0) (fun _ => 0) (fun _ => 0) (fun _ => 0) (fun _ => 0) (by omega) V
  rw [es] at t
  exact t
theorem dl_clamp {post : Int32 → Prop} {k n : Nat} (h1 : 1 ≤ k) (h2 : k ≤ n) (hn : n < 2 ^ 31) (hp : post (nI k)) : wpX_clamp post () (nI k) (nI n) :=
  br_t (nI_le (a := 1) h1 (by omega)) (br_t (nI_le h2 hn) hp)
theorem dl_64 {c l h : Nat} {L : Nat} {xs : Nat → Int32} (hL : L ≤ 260) (h0 : 0 < c) (hc : c ≤ 32) (hl0 : 0 < l) (hl : l ≤ 36) (hh0 : 0 < h) (hh : h ≤ 30000) : wL_law_64 (fun r => r = 1) L xs (nI c) (nI l) (nI h) 0 0 := by
  unfold wL_law_64
  refine ⟨by decide, by decide, 5, 192, by decide, by decide, ?_⟩
  unfold wpX_init
  refine ⟨by decide, by decide, by decide, by decide, by decide, by decide, by decide, by decide, by decide, by decide, dl_clamp h0 hc (by decide) (dl_clamp hl0 hl (by decide) (dl_clamp hh0 hh (by decide) ?_))⟩
  refine pk_le L 9 (fun _ => dl_97 (S := 0) hL (by omega) rfl h0 hc hl hh) (fun z => ⟨by decide, dl_97 (S := (L - 7) / 3) hL (by omega) ?_ h0 hc hl hh⟩)
  have e1 : nI L - 7 = nI (L - 7) := pk_sub (b := 7) (by omega)
  have e2 : nI (L - 7) / 3 = nI ((L - 7) / 3) := pk_div (d := 3) (by omega) (by omega) (by omega)
  show (nI L - 7) / 3 = _
  rw [e1, e2]
theorem i_vc (xs : Nat → Int32) (L : Nat) (hL : L ≤ 260) : wpL_law (fun r => r = 1) L xs := by
  unfold wpL_law
  refine dl_cell 0 hL (fun r1 => dl_modv 29 (by decide) (by decide) (fun j1 h1 => nm_r (nI_add 4 j1) ?_)) rfl (by decide)
  refine dl_cell 1 hL (fun r4 => dl_modv 25 (by decide) (by decide) (fun j2 h2 => nm_r (pk_sub (a := 36) (b := j2) (by omega)) ?_)) rfl (by decide)
  refine dl_cell 2 hL (fun r7 => dl_modv 1000 (by decide) (by decide) (fun j3 h3 => ⟨by decide, br_c (fun _ => ⟨by decide, ?_⟩) (fun _ => ?_)⟩)) rfl (by decide)
  · have e1 : nI j3 - nI j3 / 300 * 300 = nI (j3 % 300) := pk_rem (d := 300) (by omega) (by omega) (by omega)
    have e2 : (20 : Int32) + nI (j3 % 300) = nI (20 + j3 % 300) := nI_add 20 _
    rw [e1, e2]
    exact dl_64 hL (by omega) (by omega) (by omega) (by omega) (by omega) (by omega)
  · have e1 : (30000 : Int32) - nI j3 = nI (30000 - j3) := pk_sub (a := 30000) (by omega)
    rw [e1]
    exact dl_64 hL (by omega) (by omega) (by omega) (by omega) (by omega) (by omega)
end
