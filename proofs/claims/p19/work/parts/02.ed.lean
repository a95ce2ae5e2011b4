/-- the sum of the weights below n -/
def ed_sum (w : Nat → Int32) : Nat → Int32
  | 0 => 0
  | n + 1 => ed_sum w n + w n
theorem ed_sum_out {w : Nat → Int32} {k n : Nat} {x : Int32} (h : n ≤ k) : ed_sum (upd w k x) n = ed_sum w n := by
  induction n with
  | zero => rfl
  | succ n ih =>
    show ed_sum (upd w k x) n + upd w k x n = ed_sum w n + w n
    rw [ih (by omega), pk_un (by omega)]
theorem ed_sum_in {w : Nat → Int32} {k n : Nat} {x : Int32} (h : k < n) : ed_sum (upd w k x) n = ed_sum w n - w k + x := by
  induction n with
  | zero => omega
  | succ n ih =>
    show ed_sum (upd w k x) n + upd w k x n = ed_sum w n + w n - w k + x
    by_cases e : n = k
    · rw [e, ed_sum_out (Nat.le_refl k), pk_us, Int32.add_sub_cancel]
    · rw [ih (by omega), pk_un e]
      grind
/-- the choice among the clients below n: the least deadline of those within the allowance, ties to the least name -/
def ed_bs (w : Nat → Int32) (a : Nat → Int64) (al : Int64) : Nat → Int32 × Int64
  | 0 => (-1, 0)
  | n + 1 => if 0 < w n ∧ a n ≤ al then (if (ed_bs w a al n).1 < 0 ∨ a n + 144403552893600 / (w n).toInt64 < (ed_bs w a al n).2 then (nI n, a n + 144403552893600 / (w n).toInt64) else ed_bs w a al n) else ed_bs w a al n
theorem ed_bs_in (w : Nat → Int32) (a : Nat → Int64) (al : Int64) (n : Nat) : (ed_bs w a al n).1 = -1 ∨ ∃ j, j < n ∧ (ed_bs w a al n).1 = nI j ∧ 0 < w j ∧ a j ≤ al := by
  induction n with
  | zero => exact Or.inl rfl
  | succ n ih =>
    have up : (ed_bs w a al n).1 = -1 ∨ ∃ j, j < n + 1 ∧ (ed_bs w a al n).1 = nI j ∧ 0 < w j ∧ a j ≤ al := by
      rcases ih with h | ⟨j, h1, h2⟩
      · exact Or.inl h
      · exact Or.inr ⟨j, by omega, h2⟩
    unfold ed_bs
    by_cases h1 : 0 < w n ∧ a n ≤ al
    · rw [if_pos h1]
      by_cases h2 : (ed_bs w a al n).1 < 0 ∨ a n + 144403552893600 / (w n).toInt64 < (ed_bs w a al n).2
      · rw [if_pos h2]
        exact Or.inr ⟨n, by omega, rfl, h1.1, h1.2⟩
      · rw [if_neg h2]
        exact up
    · rw [if_neg h1]
      exact up
theorem ed_bs_congr {w : Nat → Int32} {a b : Nat → Int64} {al : Int64} {n : Nat} (h : ∀ j, 0 < w j → a j = b j) : ed_bs w a al n = ed_bs w b al n := by
  induction n with
  | zero => rfl
  | succ n ih =>
    unfold ed_bs
    rw [ih]
    by_cases h1 : 0 < w n
    · rw [h n h1]
    · rw [if_neg (fun z => h1 z.1), if_neg (fun z => h1 z.1)]
/-- how many of the clients below n may be chosen -/
def ed_ct (w : Nat → Int32) (a : Nat → Int64) : Nat → Int32
  | 0 => 0
  | n + 1 => if 0 < w n ∧ a n ≤ 0 then ed_ct w a n + 1 else ed_ct w a n
theorem ed_ct_congr {w : Nat → Int32} {a b : Nat → Int64} {n : Nat} (h : ∀ j, 0 < w j → a j = b j) : ed_ct w a n = ed_ct w b n := by
  induction n with
  | zero => rfl
  | succ n ih =>
    unfold ed_ct
    rw [ih]
    by_cases h1 : 0 < w n
    · rw [h n h1]
    · rw [if_neg (fun z => h1 z.1), if_neg (fun z => h1 z.1)]
/-- the advances, the present ones below n moved back by s -/
def ed_mv (w : Nat → Int32) (a : Nat → Int64) (s : Int64) (n : Nat) : Nat → Int64 := fun j => if j < n ∧ 0 < w j then a j - s else a j
theorem ed_mv_0 (w : Nat → Int32) (a : Nat → Int64) (s : Int64) : ed_mv w a s 0 = a := funext fun j => if_neg (fun z => absurd z.1 (by omega))
theorem ed_mv_at (w : Nat → Int32) (a : Nat → Int64) (s : Int64) (n : Nat) : ed_mv w a s n n = a n := if_neg (fun z => absurd z.1 (by omega))
theorem ed_mv_s {w : Nat → Int32} {a : Nat → Int64} {s : Int64} {n : Nat} (h : 0 < w n) : vp_updL (ed_mv w a s n) n (ed_mv w a s n n - s) = ed_mv w a s (n + 1) := by
  funext j
  by_cases e : j = n
  · rw [e, pk_uLs, ed_mv_at]
    exact (if_pos ⟨by omega, h⟩).symm
  · rw [pk_uLn e]
    show (if j < n ∧ 0 < w j then a j - s else a j) = (if j < n + 1 ∧ 0 < w j then a j - s else a j)
    have e2 : (j < n ∧ 0 < w j) ↔ (j < n + 1 ∧ 0 < w j) := by constructor <;> (intro z; exact ⟨by omega, z.2⟩)
    simp only [e2]
theorem ed_mv_n {w : Nat → Int32} {a : Nat → Int64} {s : Int64} {n : Nat} (h : ¬ 0 < w n) : ed_mv w a s n = ed_mv w a s (n + 1) := by
  funext j
  show (if j < n ∧ 0 < w j then a j - s else a j) = (if j < n + 1 ∧ 0 < w j then a j - s else a j)
  have e2 : (j < n ∧ 0 < w j) ↔ (j < n + 1 ∧ 0 < w j) := by
    constructor
    · intro z; exact ⟨by omega, z.2⟩
    · intro z
      have : j ≠ n := fun e => h (by rw [← e]; exact z.2)
      exact ⟨by omega, z.2⟩
  simp only [e2]
/-- f, with 0 in the places of the settled leavers below n -/
def ed_cl (w : Nat → Int32) (a : Nat → Int64) (m : Nat → Int32) (f : Nat → Int32) (n : Nat) : Nat → Int32 := fun j => if j < n ∧ 0 < w j ∧ ¬ m j = 0 ∧ a j = 0 then 0 else f j
theorem ed_cl_0 (w : Nat → Int32) (a : Nat → Int64) (m f : Nat → Int32) : ed_cl w a m f 0 = f := funext fun j => if_neg (fun z => absurd z.1 (by omega))
theorem ed_cl_at (w : Nat → Int32) (a : Nat → Int64) (m f : Nat → Int32) (n : Nat) : ed_cl w a m f n n = f n := if_neg (fun z => absurd z.1 (by omega))
theorem ed_cl_s {w : Nat → Int32} {a : Nat → Int64} {m f : Nat → Int32} {n : Nat} (h : 0 < w n ∧ ¬ m n = 0 ∧ a n = 0) : upd (ed_cl w a m f n) n 0 = ed_cl w a m f (n + 1) := by
  funext j
  by_cases e : j = n
  · rw [e, pk_us]
    exact (if_pos ⟨by omega, h⟩).symm
  · rw [pk_un e]
    show (if j < n ∧ 0 < w j ∧ ¬ m j = 0 ∧ a j = 0 then 0 else f j) = (if j < n + 1 ∧ 0 < w j ∧ ¬ m j = 0 ∧ a j = 0 then 0 else f j)
    have e2 : (j < n ∧ 0 < w j ∧ ¬ m j = 0 ∧ a j = 0) ↔ (j < n + 1 ∧ 0 < w j ∧ ¬ m j = 0 ∧ a j = 0) := ⟨fun z => ⟨by omega, z.2⟩, fun z => ⟨by omega, z.2⟩⟩
    by_cases hc : j < n ∧ 0 < w j ∧ ¬ m j = 0 ∧ a j = 0
    · rw [if_pos hc, if_pos (e2.mp hc)]
    · rw [if_neg hc, if_neg (fun z => hc (e2.mpr z))]
theorem ed_cl_n {w : Nat → Int32} {a : Nat → Int64} {m f : Nat → Int32} {n : Nat} (h : ¬ (0 < w n ∧ ¬ m n = 0 ∧ a n = 0)) : ed_cl w a m f n = ed_cl w a m f (n + 1) := by
  funext j
  show (if j < n ∧ 0 < w j ∧ ¬ m j = 0 ∧ a j = 0 then 0 else f j) = (if j < n + 1 ∧ 0 < w j ∧ ¬ m j = 0 ∧ a j = 0 then 0 else f j)
  by_cases e : j = n
  · rw [e, if_neg (fun z => h z.2), if_neg (fun z => h z.2)]
  · have e2 : (j < n ∧ 0 < w j ∧ ¬ m j = 0 ∧ a j = 0) ↔ (j < n + 1 ∧ 0 < w j ∧ ¬ m j = 0 ∧ a j = 0) := ⟨fun z => ⟨by omega, z.2⟩, fun z => ⟨by omega, z.2⟩⟩
    by_cases hc : j < n ∧ 0 < w j ∧ ¬ m j = 0 ∧ a j = 0
    · rw [if_pos hc, if_pos (e2.mp hc)]
    · rw [if_neg hc, if_neg (fun z => hc (e2.mpr z))]
theorem ed_cl_congr {w : Nat → Int32} {a b : Nat → Int64} {m m' f : Nat → Int32} {n : Nat} (h : ∀ j, 0 < w j → a j = b j ∧ m j = m' j) : ed_cl w a m f n = ed_cl w b m' f n := by
  funext j
  show (if j < n ∧ 0 < w j ∧ ¬ m j = 0 ∧ a j = 0 then 0 else f j) = (if j < n ∧ 0 < w j ∧ ¬ m' j = 0 ∧ b j = 0 then 0 else f j)
  by_cases h1 : 0 < w j
  · rw [(h j h1).1, (h j h1).2]
  · rw [if_neg (fun z => h1 z.2.1), if_neg (fun z => h1 z.2.1)]
theorem ed_cl_nn {w : Nat → Int32} {a : Nat → Int64} {m : Nat → Int32} {n : Nat} (h : ∀ j, ¬ w j < 0) : ∀ j, ¬ ed_cl w a m w n j < 0 := by
  intro j
  show ¬ (if j < n ∧ 0 < w j ∧ ¬ m j = 0 ∧ a j = 0 then 0 else w j) < 0
  by_cases hc : j < n ∧ 0 < w j ∧ ¬ m j = 0 ∧ a j = 0
  · rw [if_pos hc]; decide
  · rw [if_neg hc]; exact h j
theorem ed_cl_p {w : Nat → Int32} {a : Nat → Int64} {m : Nat → Int32} {n j : Nat} (h : 0 < ed_cl w a m w n j) : 0 < w j ∧ ∀ f : Nat → Int32, ed_cl w a m f n j = f j := by
  by_cases hc : j < n ∧ 0 < w j ∧ ¬ m j = 0 ∧ a j = 0
  · have e : ed_cl w a m w n j = 0 := if_pos hc
    rw [e] at h
    exact absurd h (by decide)
  · have e : ed_cl w a m w n j = w j := if_neg hc
    rw [e] at h
    exact ⟨h, fun f => if_neg hc⟩
theorem ed_nz {x : Int32} (h : 0 < x) : ¬ x = 0 := fun e => by rw [e] at h; exact absurd h (by decide)
theorem ed_nz64 {x : Int32} (h : 0 < x) : ¬ x.toInt64 = 0 := by
  intro e
  have h1 : x.toInt64.toInt = x.toInt := Int32.toInt_toInt64 x
  rw [e] at h1
  have h2 := Int32.lt_iff_toInt_lt.mp h
  rw [← h1] at h2
  exact absurd h2 (by decide)
theorem ed_z {x : Int32} (h : ¬ x < 0) (h0 : ¬ 0 < x) : x = 0 := by
  apply Int32.toInt_inj.mp
  rw [Int32.lt_iff_toInt_lt] at h h0
  have e : (0 : Int32).toInt = 0 := by decide
  rw [e] at h h0 ⊢
  omega
theorem ed_updL_id {f : Nat → Int64} {k : Nat} {x : Int64} (h : f k = x) : vp_updL f k x = f := by
  funext j
  by_cases e : j = k
  · rw [e, pk_uLs, h]
  · rw [pk_uLn e]
