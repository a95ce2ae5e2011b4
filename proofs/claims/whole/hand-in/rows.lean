section
theorem pk_us {f : Nat → Int32} {k : Nat} {x : Int32} : upd f k x k = x := if_pos rfl
theorem pk_un {f : Nat → Int32} {k j : Nat} {x : Int32} (h : j ≠ k) : upd f k x j = f j := if_neg h
theorem pk_uLs {f : Nat → Int64} {k : Nat} {x : Int64} : vp_updL f k x k = x := if_pos rfl
theorem pk_uLn {f : Nat → Int64} {k j : Nat} {x : Int64} (h : j ≠ k) : vp_updL f k x j = f j := if_neg h
theorem pk_sub {a b : Nat} (h : b ≤ a) : nI a - nI b = nI (a - b) := by
  obtain ⟨c, rfl⟩ : ∃ c, a = c + b := ⟨a - b, by omega⟩
  rw [← nI_add, Int32.add_sub_cancel, Nat.add_sub_cancel]
theorem pk_m1 (n : Nat) : nI (n + 1) + (-1) = nI n := by
  rw [← nI_1, Int32.add_assoc, show (1 : Int32) + (-1) = 0 from rfl, Int32.add_zero]
theorem pk_mul (a b : Nat) : nI a * nI b = nI (a * b) := (Int32.ofNat_mul a b).symm
theorem pk_div {a d : Nat} (ha : a < 2 ^ 31) (h0 : 0 < d) (hd : d < 2 ^ 31) : nI a / nI d = nI (a / d) := by
  apply Int32.toInt_inj.mp
  rw [lg_idiv_nonneg (by rw [nI_toInt ha]; omega) (by rw [nI_toInt hd]; omega), nI_toInt ha, nI_toInt hd, nI_toInt (Nat.lt_of_le_of_lt (Nat.div_le_self a d) ha)]
  first | rfl | exact (Int.natCast_ediv _ _).symm
theorem pk_rem {a d : Nat} (ha : a < 2 ^ 31) (h0 : 0 < d) (hd : d < 2 ^ 31) : nI a - nI a / nI d * nI d = nI (a % d) := by
  rw [pk_div ha h0 hd, pk_mul, pk_sub (Nat.div_mul_le_self a d)]
  exact congrArg nI (by have := Nat.div_add_mod' a d; omega)
theorem pk_ix (x : Int32) {n : Nat} (hn : n < 2 ^ 31) : x < 0 ∨ nI n ≤ x ∨ ∃ j : Nat, j < n ∧ x = nI j := by
  by_cases h : x < 0
  · exact Or.inl h
  · obtain ⟨j, hj, rfl⟩ := nI_of h
    by_cases h2 : j < n
    · exact Or.inr (Or.inr ⟨j, h2, rfl⟩)
    · exact Or.inr (Or.inl (nI_le (by omega) hj))
theorem pk_le {x y : Int32} {A B : Prop} (a b : Nat) (f : a ≤ b → A) (g : b < a → B) (hx : x = nI a := by rfl) (hy : y = nI b := by rfl) (ha : a < 2 ^ 31 := by omega) (hb : b < 2 ^ 31 := by omega) : (x ≤ y → A) ∧ (¬ x ≤ y → B) := by
  subst hx hy
  rw [nI_leI ha hb]
  exact ⟨f, fun z => g (by omega)⟩
theorem pk_lt {x y : Int32} {A B : Prop} (a b : Nat) (f : a < b → A) (g : b ≤ a → B) (hx : x = nI a := by rfl) (hy : y = nI b := by rfl) (ha : a < 2 ^ 31 := by omega) (hb : b < 2 ^ 31 := by omega) : (x < y → A) ∧ (¬ x < y → B) := by
  subst hx hy
  rw [nI_ltI ha hb]
  exact ⟨f, fun z => g (by omega)⟩
theorem pk_eq {x y : Int32} {A B : Prop} (a b : Nat) (f : a = b → A) (g : a ≠ b → B) (hx : x = nI a := by rfl) (hy : y = nI b := by rfl) (ha : a < 2 ^ 31 := by omega) (hb : b < 2 ^ 31 := by omega) : (x = y → A) ∧ (¬ x = y → B) := by
  subst hx hy
  rw [nI_eq ha hb]
  exact ⟨f, g⟩
theorem pk_in {x : Int32} (n N : Nat) (h : n < N) (hx : x = nI n := by rfl) (hN : N < 2 ^ 31 := by omega) : vp_in x N := by
  subst hx
  exact vp_in_nI h hN
theorem pk_cl {x : Int32} (n : Nat) (hx : x = nI n := by rfl) (h : n < 2 ^ 31 := by omega) : x.toNatClampNeg = n := by
  subst hx
  exact nI_clamp h
/-- the sum of the weights below n -/
def ed_sum (w : Nat → Int32) : Nat → Int32
  | 0 => 0
  | n + 1 => ed_sum w n + w n
theorem ed_sum_out {w : Nat → Int32} {k n : Nat} {x : Int32} (h : n ≤ k) : ed_sum (upd w k x) n = ed_sum w n := by
  induction n with
  | zero => rfl
  | succ n ih =>
    show ed_sum (upd w k x) n + upd w k x n = ed_sum w n + w n
    rw [ih (by omega), pk_un (by omega)]
theorem ed_sum_in {w : Nat → Int32} {k n : Nat} {x : Int32} (h : k < n) : ed_sum (upd w k x) n = ed_sum w n - w k + x := by
  induction n with
  | zero => omega
  | succ n ih =>
    show ed_sum (upd w k x) n + upd w k x n = ed_sum w n + w n - w k + x
    by_cases e : n = k
    · rw [e, ed_sum_out (Nat.le_refl k), pk_us, Int32.add_sub_cancel]
    · rw [ih (by omega), pk_un e]
      grind
/-- the choice among the clients below n: the least deadline of those within the allowance, ties to the least name -/
def ed_bs (w : Nat → Int32) (a : Nat → Int64) (al : Int64) : Nat → Int32 × Int64
  | 0 => (-1, 0)
  | n + 1 => if 0 < w n ∧ a n ≤ al then (if (ed_bs w a al n).1 < 0 ∨ a n + 144403552893600 / (w n).toInt64 < (ed_bs w a al n).2 then (nI n, a n + 144403552893600 / (w n).toInt64) else ed_bs w a al n) else ed_bs w a al n
theorem ed_bs_in (w : Nat → Int32) (a : Nat → Int64) (al : Int64) (n : Nat) : (ed_bs w a al n).1 = -1 ∨ ∃ j, j < n ∧ (ed_bs w a al n).1 = nI j ∧ 0 < w j ∧ a j ≤ al := by
  induction n with
  | zero => exact Or.inl rfl
  | succ n ih =>
    have up : (ed_bs w a al n).1 = -1 ∨ ∃ j, j < n + 1 ∧ (ed_bs w a al n).1 = nI j ∧ 0 < w j ∧ a j ≤ al := by
      rcases ih with h | ⟨j, h1, h2⟩
      · exact Or.inl h
      · exact Or.inr ⟨j, by omega, h2⟩
    unfold ed_bs
    by_cases h1 : 0 < w n ∧ a n ≤ al
    · rw [if_pos h1]
      by_cases h2 : (ed_bs w a al n).1 < 0 ∨ a n + 144403552893600 / (w n).toInt64 < (ed_bs w a al n).2
      · rw [if_pos h2]
        exact Or.inr ⟨n, by omega, rfl, h1.1, h1.2⟩
      · rw [if_neg h2]
        exact up
    · rw [if_neg h1]
      exact up
theorem ed_bs_congr {w : Nat → Int32} {a b : Nat → Int64} {al : Int64} {n : Nat} (h : ∀ j, 0 < w j → a j = b j) : ed_bs w a al n = ed_bs w b al n := by
  induction n with
  | zero => rfl
  | succ n ih =>
    unfold ed_bs
    rw [ih]
    by_cases h1 : 0 < w n
    · rw [h n h1]
    · rw [if_neg (fun z => h1 z.1), if_neg (fun z => h1 z.1)]
/-- how many of the clients below n may be chosen -/
def ed_ct (w : Nat → Int32) (a : Nat → Int64) : Nat → Int32
  | 0 => 0
  | n + 1 => if 0 < w n ∧ a n ≤ 0 then ed_ct w a n + 1 else ed_ct w a n
theorem ed_ct_congr {w : Nat → Int32} {a b : Nat → Int64} {n : Nat} (h : ∀ j, 0 < w j → a j = b j) : ed_ct w a n = ed_ct w b n := by
  induction n with
  | zero => rfl
  | succ n ih =>
    unfold ed_ct
    rw [ih]
    by_cases h1 : 0 < w n
    · rw [h n h1]
    · rw [if_neg (fun z => h1 z.1), if_neg (fun z => h1 z.1)]
/-- the advances, the present ones below n moved back by s -/
def ed_mv (w : Nat → Int32) (a : Nat → Int64) (s : Int64) (n : Nat) : Nat → Int64 := fun j => if j < n ∧ 0 < w j then a j - s else a j
theorem ed_mv_0 (w : Nat → Int32) (a : Nat → Int64) (s : Int64) : ed_mv w a s 0 = a := funext fun j => if_neg (fun z => absurd z.1 (by omega))
theorem ed_mv_at (w : Nat → Int32) (a : Nat → Int64) (s : Int64) (n : Nat) : ed_mv w a s n n = a n := if_neg (fun z => absurd z.1 (by omega))
theorem ed_mv_s {w : Nat → Int32} {a : Nat → Int64} {s : Int64} {n : Nat} (h : 0 < w n) : vp_updL (ed_mv w a s n) n (ed_mv w a s n n - s) = ed_mv w a s (n + 1) := by
  funext j
  by_cases e : j = n
  · rw [e, pk_uLs, ed_mv_at]
    exact (if_pos ⟨by omega, h⟩).symm
  · rw [pk_uLn e]
    show (if j < n ∧ 0 < w j then a j - s else a j) = (if j < n + 1 ∧ 0 < w j then a j - s else a j)
    have e2 : (j < n ∧ 0 < w j) ↔ (j < n + 1 ∧ 0 < w j) := by constructor <;> (intro z; exact ⟨by omega, z.2⟩)
    simp only [e2]
theorem ed_mv_n {w : Nat → Int32} {a : Nat → Int64} {s : Int64} {n : Nat} (h : ¬ 0 < w n) : ed_mv w a s n = ed_mv w a s (n + 1) := by
  funext j
  show (if j < n ∧ 0 < w j then a j - s else a j) = (if j < n + 1 ∧ 0 < w j then a j - s else a j)
  have e2 : (j < n ∧ 0 < w j) ↔ (j < n + 1 ∧ 0 < w j) := by
    constructor
    · intro z; exact ⟨by omega, z.2⟩
    · intro z
      have : j ≠ n := fun e => h (by rw [← e]; exact z.2)
      exact ⟨by omega, z.2⟩
  simp only [e2]
/-- f, with 0 in the places of the settled leavers below n -/
def ed_cl (w : Nat → Int32) (a : Nat → Int64) (m : Nat → Int32) (f : Nat → Int32) (n : Nat) : Nat → Int32 := fun j => if j < n ∧ 0 < w j ∧ ¬ m j = 0 ∧ a j = 0 then 0 else f j
theorem ed_cl_0 (w : Nat → Int32) (a : Nat → Int64) (m f : Nat → Int32) : ed_cl w a m f 0 = f := funext fun j => if_neg (fun z => absurd z.1 (by omega))
theorem ed_cl_at (w : Nat → Int32) (a : Nat → Int64) (m f : Nat → Int32) (n : Nat) : ed_cl w a m f n n = f n := if_neg (fun z => absurd z.1 (by omega))
theorem ed_cl_s {w : Nat → Int32} {a : Nat → Int64} {m f : Nat → Int32} {n : Nat} (h : 0 < w n ∧ ¬ m n = 0 ∧ a n = 0) : upd (ed_cl w a m f n) n 0 = ed_cl w a m f (n + 1) := by
  funext j
  by_cases e : j = n
  · rw [e, pk_us]
    exact (if_pos ⟨by omega, h⟩).symm
  · rw [pk_un e]
    show (if j < n ∧ 0 < w j ∧ ¬ m j = 0 ∧ a j = 0 then 0 else f j) = (if j < n + 1 ∧ 0 < w j ∧ ¬ m j = 0 ∧ a j = 0 then 0 else f j)
    have e2 : (j < n ∧ 0 < w j ∧ ¬ m j = 0 ∧ a j = 0) ↔ (j < n + 1 ∧ 0 < w j ∧ ¬ m j = 0 ∧ a j = 0) := ⟨fun z => ⟨by omega, z.2⟩, fun z => ⟨by omega, z.2⟩⟩
    by_cases hc : j < n ∧ 0 < w j ∧ ¬ m j = 0 ∧ a j = 0
    · rw [if_pos hc, if_pos (e2.mp hc)]
    · rw [if_neg hc, if_neg (fun z => hc (e2.mpr z))]
theorem ed_cl_n {w : Nat → Int32} {a : Nat → Int64} {m f : Nat → Int32} {n : Nat} (h : ¬ (0 < w n ∧ ¬ m n = 0 ∧ a n = 0)) : ed_cl w a m f n = ed_cl w a m f (n + 1) := by
  funext j
  show (if j < n ∧ 0 < w j ∧ ¬ m j = 0 ∧ a j = 0 then 0 else f j) = (if j < n + 1 ∧ 0 < w j ∧ ¬ m j = 0 ∧ a j = 0 then 0 else f j)
  by_cases e : j = n
  · rw [e, if_neg (fun z => h z.2), if_neg (fun z => h z.2)]
  · have e2 : (j < n ∧ 0 < w j ∧ ¬ m j = 0 ∧ a j = 0) ↔ (j < n + 1 ∧ 0 < w j ∧ ¬ m j = 0 ∧ a j = 0) := ⟨fun z => ⟨by omega, z.2⟩, fun z => ⟨by omega, z.2⟩⟩
    by_cases hc : j < n ∧ 0 < w j ∧ ¬ m j = 0 ∧ a j = 0
    · rw [if_pos hc, if_pos (e2.mp hc)]
    · rw [if_neg hc, if_neg (fun z => hc (e2.mpr z))]
theorem ed_cl_congr {w : Nat → Int32} {a b : Nat → Int64} {m m' f : Nat → Int32} {n : Nat} (h : ∀ j, 0 < w j → a j = b j ∧ m j = m' j) : ed_cl w a m f n = ed_cl w b m' f n := by
  funext j
  show (if j < n ∧ 0 < w j ∧ ¬ m j = 0 ∧ a j = 0 then 0 else f j) = (if j < n ∧ 0 < w j ∧ ¬ m' j = 0 ∧ b j = 0 then 0 else f j)
  by_cases h1 : 0 < w j
  · rw [(h j h1).1, (h j h1).2]
  · rw [if_neg (fun z => h1 z.2.1), if_neg (fun z => h1 z.2.1)]
theorem ed_cl_nn {w : Nat → Int32} {a : Nat → Int64} {m : Nat → Int32} {n : Nat} (h : ∀ j, ¬ w j < 0) : ∀ j, ¬ ed_cl w a m w n j < 0 := by
  intro j
  show ¬ (if j < n ∧ 0 < w j ∧ ¬ m j = 0 ∧ a j = 0 then 0 else w j) < 0
  by_cases hc : j < n ∧ 0 < w j ∧ ¬ m j = 0 ∧ a j = 0
  · rw [if_pos hc]; decide
  · rw [if_neg hc]; exact h j
theorem ed_cl_p {w : Nat → Int32} {a : Nat → Int64} {m : Nat → Int32} {n j : Nat} (h : 0 < ed_cl w a m w n j) : 0 < w j ∧ ∀ f : Nat → Int32, ed_cl w a m f n j = f j := by
  by_cases hc : j < n ∧ 0 < w j ∧ ¬ m j = 0 ∧ a j = 0
  · have e : ed_cl w a m w n j = 0 := if_pos hc
    rw [e] at h
    exact absurd h (by decide)
  · have e : ed_cl w a m w n j = w j := if_neg hc
    rw [e] at h
    exact ⟨h, fun f => if_neg hc⟩
theorem ed_nz {x : Int32} (h : 0 < x) : ¬ x = 0 := fun e => by rw [e] at h; exact absurd h (by decide)
theorem ed_nz64 {x : Int32} (h : 0 < x) : ¬ x.toInt64 = 0 := by
  intro e
  have h1 : x.toInt64.toInt = x.toInt := Int32.toInt_toInt64 x
  rw [e] at h1
  have h2 := Int32.lt_iff_toInt_lt.mp h
  rw [← h1] at h2
  exact absurd h2 (by decide)
theorem ed_z {x : Int32} (h : ¬ x < 0) (h0 : ¬ 0 < x) : x = 0 := by
  apply Int32.toInt_inj.mp
  rw [Int32.lt_iff_toInt_lt] at h h0
  have e : (0 : Int32).toInt = 0 := by decide
  rw [e] at h h0 ⊢
  omega
theorem ed_updL_id {f : Nat → Int64} {k : Nat} {x : Int64} (h : f k = x) : vp_updL f k x = f := by
  funext j
  by_cases e : j = k
  · rw [e, pk_uLs, h]
  · rw [pk_uLn e]
end
section
/-- what the two states share: weights the same; advances, services and marks of the present ones; the last 64 of the history -/
def ed_K (c h q : Nat) (w : Nat → Int32) (ax : Nat → Int64) (sx mx lg : Nat → Int32) (ay : Nat → Int64) (sy my hs : Nat → Int32) : Prop :=
  c ≤ 32 ∧ h ≤ 30000 ∧ q ≤ h ∧ (∀ j, ¬ w j < 0) ∧ (∀ j, mx j = 0 ∨ mx j = 1) ∧ (∀ j, 0 < w j → ax j = ay j ∧ sx j = sy j ∧ mx j = my j) ∧ (∀ t, t < q → q ≤ t + 64 → lg (t % 64) = hs t)
section
variable {c h q : Nat} {w : Nat → Int32} {ax : Nat → Int64} {sx mx lg : Nat → Int32} {ay : Nat → Int64} {sy my hs : Nat → Int32}
theorem ed_K_0 (hc : c ≤ 32) (hh : h ≤ 30000) : ed_K c h 0 (fun _ => 0) (fun _ => 0) (fun _ => 0) (fun _ => 0) (fun _ => 0) (fun _ => 0) (fun _ => 0) (fun _ => 0) (fun _ => 0) :=
  ⟨hc, hh, Nat.zero_le h, fun _ => by show ¬ (0 : Int32) < 0; decide, fun _ => Or.inl rfl, fun _ _ => ⟨rfl, rfl, rfl⟩, fun t ht => absurd ht (by omega)⟩
/-- one quantum -/
theorem ed_K_q {a2x a2y : Nat → Int64} {s1x s1y : Nat → Int32} (K : ed_K c h q w ax sx mx lg ay sy my hs) (hq : q < h) (ha : ∀ j, 0 < w j → a2x j = a2y j) (hs1 : ∀ j, 0 < w j → s1x j = s1y j) (p : Int32) :
    ed_K c h (q + 1) (ed_cl w a2x mx w c) a2x s1x mx (upd lg (q % 64) p) a2y (ed_cl w a2y my s1y c) (ed_cl w a2y my my c) (upd hs q p) := by
  obtain ⟨k1, k2, k3, k4, k5, k6, k7⟩ := K
  have e : ∀ f : Nat → Int32, ed_cl w a2y my f c = ed_cl w a2x mx f c := fun f => ed_cl_congr (fun j hj => ⟨(ha j hj).symm, ((k6 j hj).2.2).symm⟩)
  refine ⟨k1, k2, by omega, ed_cl_nn k4, k5, fun j hj => ?_, fun t ht h64 => ?_⟩
  · obtain ⟨hw, hf⟩ := ed_cl_p hj
    rw [e, e, hf, hf]
    exact ⟨ha j hw, hs1 j hw, (k6 j hw).2.2⟩
  · by_cases et : t = q
    · rw [et, pk_us, pk_us]
    · rw [pk_un et, pk_un (by omega)]
      exact k7 t (by omega) (by omega)
/-- a present client's place is written on both sides alike, or an absent one's -/
theorem ed_K_w {p : Nat} {x : Int32} {ax' ay' : Nat → Int64} {sx' sy' mx' my' : Nat → Int32} (K : ed_K c h q w ax sx mx lg ay sy my hs) (hx : ¬ x < 0) (hm : ∀ j, mx' j = 0 ∨ mx' j = 1)
    (hn : ∀ j, j ≠ p → ax' j = ax j ∧ sx' j = sx j ∧ mx' j = mx j ∧ ay' j = ay j ∧ sy' j = sy j ∧ my' j = my j) (hp : 0 < x → ax' p = ay' p ∧ sx' p = sy' p ∧ mx' p = my' p) :
    ed_K c h q (upd w p x) ax' sx' mx' lg ay' sy' my' hs := by
  obtain ⟨k1, k2, k3, k4, k5, k6, k7⟩ := K
  refine ⟨k1, k2, k3, fun j => ?_, hm, fun j hj => ?_, k7⟩
  · by_cases e : j = p
    · rw [e, pk_us]; exact hx
    · rw [pk_un e]; exact k4 j
  · by_cases e : j = p
    · rw [e, pk_us] at hj
      rw [e]
      exact hp hj
    · rw [pk_un e] at hj
      obtain ⟨e1, e2, e3, e4, e5, e6⟩ := hn j e
      rw [e1, e2, e3, e4, e5, e6]
      exact k6 j hj
/-- the marks alone change, on both sides alike -/
theorem ed_K_m {p : Nat} {x : Int32} (K : ed_K c h q w ax sx mx lg ay sy my hs) (hx : x = 0 ∨ x = 1) : ed_K c h q w ax sx (upd mx p x) lg ay sy (upd my p x) hs := by
  obtain ⟨k1, k2, k3, k4, k5, k6, k7⟩ := K
  refine ⟨k1, k2, k3, k4, fun j => ?_, fun j hj => ?_, k7⟩
  · by_cases e : j = p
    · rw [e, pk_us]; exact hx
    · rw [pk_un e]; exact k5 j
  · obtain ⟨e1, e2, e3⟩ := k6 j hj
    refine ⟨e1, e2, ?_⟩
    by_cases e : j = p
    · rw [e, pk_us, pk_us]
    · rw [pk_un e, pk_un e]; exact e3
end
end
section
/-! the class's methods, each over a general post -/
theorem ed_ix (x : Int32) {c : Nat} (hc : c ≤ 32) : (x < 0 ∨ nI c ≤ x) ∨ ∃ j : Nat, j < c ∧ x = nI j := by
  rcases pk_ix x (n := c) (by omega) with h | h | h
  · exact Or.inl (Or.inl h)
  · exact Or.inl (Or.inr h)
  · exact Or.inr h
section
variable {c : Nat} {l hz W q : Int32} {w : Nat → Int32} {a : Nat → Int64} {s m g : Nat → Int32}
theorem ed_xbad1 {post : Int32 → Prop} {x : Int32} (hx : x < 0 ∨ nI c ≤ x) (hp : post 1) : wpX_isBad post (nI c, l, hz, W, q, w, a, s, m, g) x := by
  by_cases h : x < 0
  · exact br_t h hp
  · rcases hx with hx | hx
    · exact absurd hx h
    · exact br_f h (br_f (Int32.not_lt.mpr hx) hp)
theorem ed_xbad0 {post : Int32 → Prop} {j : Nat} (hc : c ≤ 32) (hj : j < c) (hp : post 0) : wpX_isBad post (nI c, l, hz, W, q, w, a, s, m, g) (nI j) :=
  br_f (nI_pos (by omega)) (br_t (nI_lt hj (by omega)) hp)
theorem ed_xprb {post : Int32 → Prop} {x : Int32} (hx : x < 0 ∨ nI c ≤ x) (hp : post 0) : wpX_isPresent post (nI c, l, hz, W, q, w, a, s, m, g) x := by
  unfold wpX_isPresent
  exact ed_xbad1 hx (br_f (by decide) hp)
theorem ed_xpr1 {post : Int32 → Prop} {j : Nat} (hc : c ≤ 32) (hj : j < c) (hw : 0 < w j) (hp : post 1) : wpX_isPresent post (nI c, l, hz, W, q, w, a, s, m, g) (nI j) := by
  unfold wpX_isPresent
  refine ed_xbad0 hc hj (br_t rfl ⟨vp_in_nI (by omega) (by omega), ?_⟩)
  rw [nI_clamp (by omega)]
  exact br_f (Int32.not_le.mpr hw) hp
theorem ed_xpr0 {post : Int32 → Prop} {j : Nat} (hc : c ≤ 32) (hj : j < c) (hw : ¬ 0 < w j) (hp : post 0) : wpX_isPresent post (nI c, l, hz, W, q, w, a, s, m, g) (nI j) := by
  unfold wpX_isPresent
  refine ed_xbad0 hc hj (br_t rfl ⟨vp_in_nI (by omega) (by omega), ?_⟩)
  rw [nI_clamp (by omega)]
  exact br_t (Int32.not_lt.mp hw) hp
theorem ed_xbw {post : Int32 → Prop} {x : Int32} (h1 : (x < 1 ∨ ¬ x ≤ l) → post 1) (h0 : ¬ x < 1 → x ≤ l → post 0) : wpX_isBadWeight post (nI c, l, hz, W, q, w, a, s, m, g) x :=
  br_c (fun z => h1 (Or.inl z)) (fun z => br_c (fun y => h0 z y) (fun y => h1 (Or.inr y)))
theorem ed_xdl {post : Int64 → Prop} {j : Nat} (hc : c ≤ 32) (hj : j < c) (hw : 0 < w j) (hp : post (a j + 144403552893600 / (w j).toInt64)) : wpX_deadlineOf post (nI c, l, hz, W, q, w, a, s, m, g) (nI j) := by
  unfold wpX_deadlineOf
  dsimp only
  rw [nI_clamp (by omega)]
  exact ⟨vp_in_nI (by omega) (by omega), vp_in_nI (by omega) (by omega), ed_nz64 hw, hp⟩
theorem ed_xbest_l {post : Int32 → Prop} {al : Int64} (hc : c ≤ 32) (hp : post (ed_bs w a al c).1) : ∀ d i, i + d = c → wX_best_8 post al (nI c) l hz W q w a s m g (d + 1) (ed_bs w a al i).1 (ed_bs w a al i).2 (nI i) := by
  intro d
  induction d with
  | zero =>
    intro i hi
    have e : i = c := by omega
    rw [e]
    exact br_t (nI_le (Nat.le_refl c) (by omega)) hp
  | succ d ih =>
    intro i hi
    have h := ih (i + 1) (by omega)
    refine br_f (nI_ge (by omega) (by omega)) ?_
    by_cases hw : 0 < w i
    · refine ed_xpr1 hc (by omega) hw (br_f (by decide) ⟨vp_in_nI (by omega) (by omega), ?_⟩)
      rw [nI_clamp (by omega)]
      by_cases ha : a i ≤ al
      · refine br_f (Int64.not_lt.mpr ha) (ed_xdl hc (by omega) hw ?_)
        by_cases h3 : (ed_bs w a al i).1 < 0
        · have e : ed_bs w a al (i + 1) = (nI i, a i + 144403552893600 / (w i).toInt64) := (if_pos ⟨hw, ha⟩).trans (if_pos (Or.inl h3))
          rw [e] at h
          exact br_t h3 (nm_r (nI_1 i) h)
        · by_cases h4 : a i + 144403552893600 / (w i).toInt64 < (ed_bs w a al i).2
          · have e : ed_bs w a al (i + 1) = (nI i, a i + 144403552893600 / (w i).toInt64) := (if_pos ⟨hw, ha⟩).trans (if_pos (Or.inr h4))
            rw [e] at h
            exact br_f h3 (br_f (Int64.not_le.mpr h4) (nm_r (nI_1 i) h))
          · have e : ed_bs w a al (i + 1) = ed_bs w a al i := (if_pos ⟨hw, ha⟩).trans (if_neg (not_or.mpr ⟨h3, h4⟩))
            rw [e] at h
            exact br_f h3 (br_t (Int64.not_lt.mp h4) (nm_r (nI_1 i) h))
      · have e : ed_bs w a al (i + 1) = ed_bs w a al i := if_neg (fun z => ha z.2)
        rw [e] at h
        exact br_t (Int64.not_le.mp ha) (nm_r (nI_1 i) h)
    · have e : ed_bs w a al (i + 1) = ed_bs w a al i := if_neg (fun z => hw z.1)
      rw [e] at h
      exact ed_xpr0 hc (by omega) hw (br_t rfl (nm_r (nI_1 i) h))
theorem ed_xbest {post : Int32 → Prop} {al : Int64} (hc : c ≤ 32) (hp : post (ed_bs w a al c).1) : wpX_best post (nI c, l, hz, W, q, w, a, s, m, g) al := by
  unfold wpX_best
  exact ⟨c + 1, ed_xbest_l hc hp c 0 (by omega)⟩
theorem ed_xel_l {post : Int32 → Prop} (hc : c ≤ 32) (hp : post (ed_ct w a c)) : ∀ d i, i + d = c → wX_eligible_4 post (nI c) l hz W q w a s m g (d + 1) (ed_ct w a i) (nI i) := by
  intro d
  induction d with
  | zero =>
    intro i hi
    have e : i = c := by omega
    rw [e]
    exact br_t (nI_le (Nat.le_refl c) (by omega)) hp
  | succ d ih =>
    intro i hi
    have h := ih (i + 1) (by omega)
    refine br_f (nI_ge (by omega) (by omega)) ?_
    by_cases hw : 0 < w i
    · refine ed_xpr1 hc (by omega) hw (br_f (by decide) ⟨vp_in_nI (by omega) (by omega), ?_⟩)
      rw [nI_clamp (by omega)]
      by_cases ha : a i ≤ 0
      · have e : ed_ct w a (i + 1) = ed_ct w a i + 1 := if_pos ⟨hw, ha⟩
        rw [e] at h
        exact br_f (Int64.not_lt.mpr ha) (nm_e (nm_r (nI_1 i) h))
      · have e : ed_ct w a (i + 1) = ed_ct w a i := if_neg (fun z => ha z.2)
        rw [e] at h
        exact br_t (Int64.not_le.mp ha) (nm_r (nI_1 i) h)
    · have e : ed_ct w a (i + 1) = ed_ct w a i := if_neg (fun z => hw z.1)
      rw [e] at h
      exact ed_xpr0 hc (by omega) hw (br_t rfl (nm_r (nI_1 i) h))
theorem ed_xel {post : Int32 → Prop} (hc : c ≤ 32) (hp : post (ed_ct w a c)) : wpX_eligible post (nI c, l, hz, W, q, w, a, s, m, g) := by
  unfold wpX_eligible
  exact ⟨c + 1, ed_xel_l hc hp c 0 (by omega)⟩
theorem ed_xmv_l {post : SX → Prop} {x : Int64} (hc : c ≤ 32) (hp : post (nI c, l, hz, W, q, w, ed_mv w a x c, s, m, g)) : ∀ d i, i + d = c → wX_moveMean_12 post x (nI c) l hz W q (d + 1) (nI i) w (ed_mv w a x i) s m g := by
  intro d
  induction d with
  | zero =>
    intro i hi
    have e : i = c := by omega
    rw [e]
    exact br_t (nI_le (Nat.le_refl c) (by omega)) hp
  | succ d ih =>
    intro i hi
    have h := ih (i + 1) (by omega)
    refine br_f (nI_ge (by omega) (by omega)) ?_
    by_cases hw : 0 < w i
    · refine ed_xpr1 hc (by omega) hw (br_f (by decide) ⟨vp_in_nI (by omega) (by omega), vp_in_nI (by omega) (by omega), ?_⟩)
      rw [nI_clamp (by omega)]
      exact nm_r (ed_mv_s hw) (nm_r (nI_1 i) h)
    · rw [← ed_mv_n hw] at h
      exact ed_xpr0 hc (by omega) hw (br_t rfl (nm_r (nI_1 i) h))
theorem ed_xmv {post : SX → Prop} (hc : c ≤ 32) (hW : ¬ W.toInt64 = 0) (hp : post (nI c, l, hz, W, q, w, ed_mv w a (144403552893600 / W.toInt64) c, s, m, g)) : wpX_moveMean post (nI c, l, hz, W, q, w, a, s, m, g) := by
  unfold wpX_moveMean
  refine ⟨hW, nm_e ⟨c + 1, ?_⟩⟩
  have h := ed_xmv_l (s := s) (m := m) (g := g) hc hp c 0 (by omega)
  rw [ed_mv_0] at h
  exact h
theorem ed_xab {post : SX → Prop} {j : Nat} (hc : c ≤ 32) (hj : j < c) (hp : post (nI c, l, hz, W - w j, q, upd w j 0, a, s, m, g)) : wpX_makeAbsent post (nI c, l, hz, W, q, w, a, s, m, g) (nI j) := by
  unfold wpX_makeAbsent
  dsimp only
  rw [nI_clamp (by omega)]
  exact ⟨vp_in_nI (by omega) (by omega), nm_e ⟨vp_in_nI (by omega) (by omega), nm_e hp⟩⟩
theorem ed_xrm_l {post : SX → Prop} (hc : c ≤ 32) (hp : post (nI c, l, hz, ed_sum (ed_cl w a m w c) c, q, ed_cl w a m w c, a, s, m, g)) : ∀ d i, i + d = c → wX_removeSettledLeavers_2 post (d + 1) (nI i) (nI c) l hz (ed_sum (ed_cl w a m w i) c) q (ed_cl w a m w i) a s m g := by
  intro d
  induction d with
  | zero =>
    intro i hi
    have e : i = c := by omega
    rw [e]
    exact br_t (nI_le (Nat.le_refl c) (by omega)) hp
  | succ d ih =>
    intro i hi
    have h := ih (i + 1) (by omega)
    refine br_f (nI_ge (by omega) (by omega)) ?_
    have ea := ed_cl_at w a m w i
    by_cases hw : 0 < w i
    · refine ed_xpr1 hc (by omega) (by rw [ea]; exact hw) (br_f (by decide) ⟨vp_in_nI (by omega) (by omega), ?_⟩)
      rw [nI_clamp (by omega)]
      by_cases hm : m i = 0
      · rw [← ed_cl_n (f := w) (fun z => z.2.1 hm)] at h
        exact br_t hm (nm_r (nI_1 i) h)
      · refine br_f hm ⟨vp_in_nI (by omega) (by omega), ?_⟩
        by_cases hz : a i = 0
        · refine br_t hz (ed_xab hc (by omega) ?_)
          have e1 : upd (ed_cl w a m w i) i 0 = ed_cl w a m w (i + 1) := ed_cl_s ⟨hw, hm, hz⟩
          have e2 : ed_sum (ed_cl w a m w i) c - ed_cl w a m w i i = ed_sum (ed_cl w a m w (i + 1)) c := by
            rw [← e1, ed_sum_in (by omega), Int32.add_zero]
          rw [e1, e2]
          exact nm_r (nI_1 i) h
        · rw [← ed_cl_n (f := w) (fun z => hz z.2.2)] at h
          exact br_f hz (nm_r (nI_1 i) h)
    · rw [← ed_cl_n (f := w) (fun z => hw z.1)] at h
      exact ed_xpr0 hc (by omega) (by rw [ea]; exact hw) (br_t rfl (nm_r (nI_1 i) h))
theorem ed_xrm {post : SX → Prop} (hc : c ≤ 32) (hp : post (nI c, l, hz, ed_sum (ed_cl w a m w c) c, q, ed_cl w a m w c, a, s, m, g)) : wpX_removeSettledLeavers post (nI c, l, hz, ed_sum w c, q, w, a, s, m, g) := by
  unfold wpX_removeSettledLeavers
  refine ⟨c + 1, ?_⟩
  have h := ed_xrm_l hc hp c 0 (by omega)
  rw [ed_cl_0] at h
  exact h
end
theorem ed_xgq {c n j : Nat} {l hz : Int32} {w : Nat → Int32} {a : Nat → Int64} {s m g : Nat → Int32} {post : SX → Prop} (hc : c ≤ 32) (hn : n < 30000) (hj : j < c) (hw : 0 < w j) (hW : ¬ (ed_sum w c).toInt64 = 0) {a2 : Nat → Int64} (ha2 : ed_mv w (vp_updL a j (a j + 144403552893600 / (w j).toInt64)) (144403552893600 / (ed_sum w c).toInt64) c = a2)
    (hp : post (nI c, l, hz, ed_sum (ed_cl w a2 m w c) c, nI (n + 1), ed_cl w a2 m w c, a2, upd s j (s j + 1), m, upd g (n % 64) (nI j))) : wpX_giveQuantum post (nI c, l, hz, ed_sum w c, nI n, w, a, s, m, g) (nI j) := by
  have hi : vp_in (nI j) 32 := vp_in_nI (by omega) (by omega)
  have er : nI n - nI n / 64 * 64 = nI (n % 64) := pk_rem (d := 64) (by omega) (by omega) (by omega)
  unfold wpX_giveQuantum
  dsimp only
  rw [nI_clamp (by omega)]
  refine ⟨hi, hi, ed_nz64 hw, hi, nm_e ⟨hi, hi, nm_e ?_⟩⟩
  refine ed_xmv hc hW ?_
  dsimp only
  rw [ha2, er, nI_clamp (by omega)]
  exact ⟨by decide, vp_in_nI (by omega) (by omega), nm_e (nm_r (nI_1 n) (ed_xrm hc hp))⟩
end
section
/-! the reference's methods, each over a general post -/
theorem ed_nar0 : vp_nar .boolean 0 = 0 := by decide
theorem ed_nar1 : vp_nar .boolean 1 = 1 := by decide
section
variable {c : Nat} {l hz q : Int32} {w : Nat → Int32} {a : Nat → Int64} {s m g : Nat → Int32}
theorem ed_ybad1 {post : Int32 → Prop} {x : Int32} (hx : x < 0 ∨ nI c ≤ x) (hp : post 1) : wpY_bad post (nI c, l, hz, q, w, a, s, m, g) x := by
  by_cases h : x < 0
  · exact br_t h hp
  · rcases hx with hx | hx
    · exact absurd hx h
    · exact br_f h (br_f (Int32.not_lt.mpr hx) hp)
theorem ed_ybad0 {post : Int32 → Prop} {j : Nat} (hc : c ≤ 32) (hj : j < c) (hp : post 0) : wpY_bad post (nI c, l, hz, q, w, a, s, m, g) (nI j) :=
  br_f (nI_pos (by omega)) (br_t (nI_lt hj (by omega)) hp)
theorem ed_yrm {post : SY → Prop} {j : Nat} (hc : c ≤ 32) (hj : j < c) (hp : post (nI c, l, hz, q, upd w j 0, vp_updL a j 0, upd s j 0, upd m j 0, g)) : wpY_remove post (nI c, l, hz, q, w, a, s, m, g) (nI j) := by
  have hi : vp_in (nI j) 32 := vp_in_nI (by omega) (by omega)
  unfold wpY_remove
  dsimp only
  rw [nI_clamp (by omega), ed_nar0]
  exact ⟨hi, nm_e ⟨hi, nm_e ⟨hi, nm_e ⟨hi, nm_e hp⟩⟩⟩⟩
theorem ed_ytw_l {post : Int32 → Prop} (hc : c ≤ 32) (hp : post (ed_sum w c)) : ∀ d i, i + d = c → wY_totalWeight_4 post (nI c) l hz q w a s m g (d + 1) (ed_sum w i) (nI i) := by
  intro d
  induction d with
  | zero =>
    intro i hi
    have e : i = c := by omega
    rw [e]
    exact br_t (nI_le (Nat.le_refl c) (by omega)) hp
  | succ d ih =>
    intro i hi
    have h := ih (i + 1) (by omega)
    refine br_f (nI_ge (by omega) (by omega)) ⟨vp_in_nI (by omega) (by omega), ?_⟩
    rw [nI_clamp (by omega)]
    exact nm_e (nm_r (nI_1 i) h)
theorem ed_ytw {post : Int32 → Prop} (hc : c ≤ 32) (hp : post (ed_sum w c)) : wpY_totalWeight post (nI c, l, hz, q, w, a, s, m, g) := by
  unfold wpY_totalWeight
  exact ⟨c + 1, ed_ytw_l hc hp c 0 (by omega)⟩
theorem ed_ybest_l {post : Int32 → Prop} {al : Int64} (hc : c ≤ 32) (hp : post (ed_bs w a al c).1) : ∀ d i, i + d = c → wY_bestWithin_8 post al (nI c) l hz q w a s m g (d + 1) (ed_bs w a al i).1 (ed_bs w a al i).2 (nI i) := by
  intro d
  induction d with
  | zero =>
    intro i hi
    have e : i = c := by omega
    rw [e]
    exact br_t (nI_le (Nat.le_refl c) (by omega)) hp
  | succ d ih =>
    intro i hi
    have h := ih (i + 1) (by omega)
    have hv : vp_in (nI i) 32 := vp_in_nI (by omega) (by omega)
    refine br_f (nI_ge (by omega) (by omega)) ⟨hv, ?_⟩
    rw [nI_clamp (by omega)]
    by_cases hw : 0 < w i
    · refine br_f (Int32.not_le.mpr hw) ⟨hv, ?_⟩
      by_cases ha : a i ≤ al
      · refine br_f (Int64.not_lt.mpr ha) ⟨hv, hv, ed_nz64 hw, nm_e ?_⟩
        by_cases h3 : (ed_bs w a al i).1 < 0
        · have e : ed_bs w a al (i + 1) = (nI i, a i + 144403552893600 / (w i).toInt64) := (if_pos ⟨hw, ha⟩).trans (if_pos (Or.inl h3))
          rw [e] at h
          have h5 : (ed_bs w a al i).1 = -1 := by
            rcases ed_bs_in w a al i with z | ⟨j, hj, z, _⟩
            · exact z
            · rw [z] at h3
              exact absurd h3 (nI_pos (by omega))
          exact br_t h5 (nm_r (nI_1 i) h)
        · have h5 : ¬ (ed_bs w a al i).1 = -1 := fun z => h3 (by rw [z]; decide)
          by_cases h4 : a i + 144403552893600 / (w i).toInt64 < (ed_bs w a al i).2
          · have e : ed_bs w a al (i + 1) = (nI i, a i + 144403552893600 / (w i).toInt64) := (if_pos ⟨hw, ha⟩).trans (if_pos (Or.inr h4))
            rw [e] at h
            exact br_f h5 (br_f (Int64.not_le.mpr h4) (nm_r (nI_1 i) h))
          · have e : ed_bs w a al (i + 1) = ed_bs w a al i := (if_pos ⟨hw, ha⟩).trans (if_neg (not_or.mpr ⟨h3, h4⟩))
            rw [e] at h
            exact br_f h5 (br_t (Int64.not_lt.mp h4) (nm_r (nI_1 i) h))
      · have e : ed_bs w a al (i + 1) = ed_bs w a al i := if_neg (fun z => ha z.2)
        rw [e] at h
        exact br_t (Int64.not_le.mp ha) (nm_r (nI_1 i) h)
    · have e : ed_bs w a al (i + 1) = ed_bs w a al i := if_neg (fun z => hw z.1)
      rw [e] at h
      exact br_t (Int32.not_lt.mp hw) (nm_r (nI_1 i) h)
theorem ed_ybest {post : Int32 → Prop} {al : Int64} (hc : c ≤ 32) (hp : post (ed_bs w a al c).1) : wpY_bestWithin post (nI c, l, hz, q, w, a, s, m, g) al := by
  unfold wpY_bestWithin
  exact ⟨c + 1, ed_ybest_l hc hp c 0 (by omega)⟩
theorem ed_yel_l {post : Int32 → Prop} (hc : c ≤ 32) (hp : post (ed_ct w a c)) : ∀ d i, i + d = c → wY_eligible_4 post (nI c) l hz q w a s m g (d + 1) (ed_ct w a i) (nI i) := by
  intro d
  induction d with
  | zero =>
    intro i hi
    have e : i = c := by omega
    rw [e]
    exact br_t (nI_le (Nat.le_refl c) (by omega)) hp
  | succ d ih =>
    intro i hi
    have h := ih (i + 1) (by omega)
    have hv : vp_in (nI i) 32 := vp_in_nI (by omega) (by omega)
    refine br_f (nI_ge (by omega) (by omega)) ⟨hv, ?_⟩
    rw [nI_clamp (by omega)]
    by_cases hw : 0 < w i
    · refine br_f (Int32.not_le.mpr hw) ⟨hv, ?_⟩
      by_cases ha : a i ≤ 0
      · have e : ed_ct w a (i + 1) = ed_ct w a i + 1 := if_pos ⟨hw, ha⟩
        rw [e] at h
        exact br_f (Int64.not_lt.mpr ha) (nm_e (nm_r (nI_1 i) h))
      · have e : ed_ct w a (i + 1) = ed_ct w a i := if_neg (fun z => ha z.2)
        rw [e] at h
        exact br_t (Int64.not_le.mp ha) (nm_r (nI_1 i) h)
    · have e : ed_ct w a (i + 1) = ed_ct w a i := if_neg (fun z => hw z.1)
      rw [e] at h
      exact br_t (Int32.not_lt.mp hw) (nm_r (nI_1 i) h)
theorem ed_yel {post : Int32 → Prop} (hc : c ≤ 32) (hp : post (ed_ct w a c)) : wpY_eligible post (nI c, l, hz, q, w, a, s, m, g) := by
  unfold wpY_eligible
  exact ⟨c + 1, ed_yel_l hc hp c 0 (by omega)⟩
theorem ed_y175_l {post : Int32 → SY → Prop} {J : Int32 → Int32 → Int32 → Int32 → Int32 → Int32 → (Nat → Int32) → (Nat → Int64) → (Nat → Int32) → (Nat → Int32) → (Nat → Int32) → Prop} {x1 x2 x3 : Int32} (hc : c ≤ 32)
    (hp : J (x2 + 1) (x3 + 1) (nI c) l hz q (ed_cl w a m w c) a (ed_cl w a m s c) (ed_cl w a m m c) g) : ∀ d i, i + d = c → wY_run_175 post J x1 x2 x3 (d + 1) (nI i) (nI c) l hz q (ed_cl w a m w i) a (ed_cl w a m s i) (ed_cl w a m m i) g := by
  intro d
  induction d with
  | zero =>
    intro i hi
    have e : i = c := by omega
    rw [e]
    exact br_t (nI_le (Nat.le_refl c) (by omega)) (nm_e (nm_e hp))
  | succ d ih =>
    intro i hi
    have h := ih (i + 1) (by omega)
    have hv : vp_in (nI i) 32 := vp_in_nI (by omega) (by omega)
    refine br_f (nI_ge (by omega) (by omega)) ⟨hv, ?_⟩
    rw [nI_clamp (by omega), ed_cl_at, ed_cl_at]
    by_cases hA : 0 < w i ∧ ¬ m i = 0 ∧ a i = 0
    · refine br_f (Int32.not_le.mpr hA.1) ⟨hv, br_f hA.2.1 ⟨hv, br_t hA.2.2 (ed_yrm hc (by omega) ?_)⟩⟩
      rw [ed_cl_s hA, ed_cl_s hA, ed_cl_s hA, ed_updL_id hA.2.2]
      exact nm_r (nI_1 i) h
    · rw [← ed_cl_n (f := w) hA, ← ed_cl_n (f := s) hA, ← ed_cl_n (f := m) hA] at h
      have h' := nm_r (P := fun x => wY_run_175 post J x1 x2 x3 (d + 1) x (nI c) l hz q (ed_cl w a m w i) a (ed_cl w a m s i) (ed_cl w a m m i) g) (nI_1 i) h
      refine br_c (fun _ => h') (fun z1 => ⟨hv, br_c (fun _ => h') (fun z2 => ⟨hv, br_f (fun z3 => hA ⟨Int32.not_le.mp z1, z2, z3⟩) h'⟩)⟩)
theorem ed_y109_l {n j : Nat} {post : Int32 → SY → Prop} {J : Int32 → Int32 → Int32 → Int32 → Int32 → Int32 → (Nat → Int32) → (Nat → Int64) → (Nat → Int32) → (Nat → Int32) → (Nat → Int32) → Prop} {x1 x2 x3 x4 : Int32} (hc : c ≤ 32) (hn : n < 30000) (hW : ¬ x4.toInt64 = 0) {a2 : Nat → Int64} (ha2 : ed_mv w a (144403552893600 / x4.toInt64) c = a2)
    (hp : J (x2 + 1) (x3 + 1) (nI c) l hz (nI (n + 1)) (ed_cl w a2 m w c) a2 (ed_cl w a2 m s c) (ed_cl w a2 m m c) (upd g n (nI j))) : ∀ d i, i + d = c → wY_run_109 post J x1 x2 x3 x4 (nI j) (nI c) l hz (nI n) (d + 1) (nI i) w (ed_mv w a (144403552893600 / x4.toInt64) i) s m g := by
  intro d
  induction d with
  | zero =>
    intro i hi
    have e : i = c := by omega
    rw [e, ha2]
    refine br_t (nI_le (Nat.le_refl c) (by omega)) ⟨vp_in_nI (by omega) (by omega), ?_⟩
    rw [nI_clamp (by omega)]
    refine nm_e (nm_r (nI_1 n) ⟨c + 1, ?_⟩)
    have h := ed_y175_l (post := post) (x1 := x1) hc hp c 0 (by omega)
    rw [ed_cl_0, ed_cl_0, ed_cl_0] at h
    exact h
  | succ d ih =>
    intro i hi
    have h := ih (i + 1) (by omega)
    have hv : vp_in (nI i) 32 := vp_in_nI (by omega) (by omega)
    refine br_f (nI_ge (by omega) (by omega)) ⟨hv, ?_⟩
    rw [nI_clamp (by omega)]
    by_cases hw : 0 < w i
    · exact br_f (Int32.not_le.mpr hw) ⟨hv, hW, hv, nm_r (ed_mv_s hw) (nm_r (nI_1 i) h)⟩
    · rw [← ed_mv_n hw] at h
      exact br_t (Int32.not_lt.mp hw) (nm_r (nI_1 i) h)
end
end
section
/-- the relation: the same sizes, clock and weights; the class's weight sum is the sum of the weights -/
def i_Rel (_ : Nat) (u : SX) (v : SY) : Prop := ∃ (c h q : Nat) (l : Int32) (w : Nat → Int32) (ax : Nat → Int64) (sx mx lg : Nat → Int32) (ay : Nat → Int64) (sy my hs : Nat → Int32),
  u = (nI c, l, nI h, ed_sum w c, nI q, w, ax, sx, mx, lg) ∧ v = (nI c, l, nI h, nI q, w, ay, sy, my, hs) ∧ ed_K c h q w ax sx mx lg ay sy my hs
theorem ed_R {k c h q : Nat} {l W : Int32} {w : Nat → Int32} {ax : Nat → Int64} {sx mx lg : Nat → Int32} {ay : Nat → Int64} {sy my hs : Nat → Int32} (hW : W = ed_sum w c) (K : ed_K c h q w ax sx mx lg ay sy my hs) : i_Rel k (nI c, l, nI h, W, nI q, w, ax, sx, mx, lg) (nI c, l, nI h, nI q, w, ay, sy, my, hs) :=
  ⟨c, h, q, l, w, ax, sx, mx, lg, ay, sy, my, hs, by rw [hW], rfl, K⟩
theorem i_up {k : Nat} {u : SX} {v : SY} (h : i_Rel k u v) : i_Rel (k + 3) u v := h
theorem ed_clamp (x : Int32) (n : Nat) (hn : n < 2 ^ 31) (h1 : 1 ≤ n) : ∃ k, k ≤ n ∧ (∀ post : Int32 → Prop, post (nI k) → wpX_clamp post x (nI n)) ∧ (∀ A : Int32 → Prop, A (nI k) → (1 ≤ x → ((x ≤ nI n → A x) ∧ (¬ x ≤ nI n → A (nI n)))) ∧ (¬ 1 ≤ x → A 1)) := by
  have e1 : nI 1 = 1 := rfl
  by_cases h : 1 ≤ x
  · by_cases h2 : x ≤ nI n
    · obtain ⟨k, hk, rfl⟩ := nI_of2 (M := nI n) (n := n) (nI_toInt hn) (fun z => absurd (Int32.lt_of_lt_of_le z (by decide : (0 : Int32) ≤ 1)) (Int32.not_lt.mpr h)) h2
      exact ⟨k, hk, fun post hp => br_t h (br_t h2 hp), fun A hA => br_t h (br_t h2 hA)⟩
    · exact ⟨n, Nat.le_refl n, fun post hp => br_t h (br_f h2 hp), fun A hA => br_t h (br_f h2 hA)⟩
  · exact ⟨1, h1, fun post hp => br_f h hp, fun A hA => br_f h hA⟩
theorem i_vc0 (k0 : Int32) (k1 : Int32) (k2 : Int32) : wpX_init (fun u => wpY_init (fun v => i_Rel 3 u v) k0 k1 k2) k0 k1 k2 := by
  obtain ⟨c, hc, cX, cY⟩ := ed_clamp k0 32 (by decide) (by decide)
  obtain ⟨l, hl, lX, lY⟩ := ed_clamp k1 36 (by decide) (by decide)
  obtain ⟨h, hh, hX, hY⟩ := ed_clamp k2 30000 (by decide) (by decide)
  unfold wpX_init
  refine cX _ (lX _ (hX _ ?_))
  have R : i_Rel 3 (nI c, nI l, nI h, 0, 0, (fun _ => 0), (fun _ => 0), (fun _ => 0), (fun _ => 0), (fun _ => 0)) (nI c, nI l, nI h, 0, (fun _ => 0), (fun _ => 0), (fun _ => 0), (fun _ => 0), (fun _ => 0)) := by
    have e : ∀ n, ed_sum (fun _ => 0) n = 0 := fun n => by
      induction n with
      | zero => rfl
      | succ n ih =>
        show ed_sum (fun _ => 0) n + 0 = 0
        rw [ih]; rfl
    exact ed_R (q := 0) (e c).symm (ed_K_0 hc hh)
  exact cY (fun x => wY_init_67 _ k1 k2 x 0 0 0 0 _ _ _ _ _) (lY (fun x => wY_init_92 _ k2 x (nI c) 0 0 0 _ _ _ _ _) (hY (fun x => (fun v => i_Rel 3 _ v) (nI c, nI l, x, 0, (fun _ => 0), (fun _ => 0), (fun _ => 0), (fun _ => 0), (fun _ => 0))) R))
section
variable {k : Nat} {u : SX} {v : SY}
theorem i_vc_join {k : Nat} {u : SX} {v : SY} (I : i_Rel k u v) (hk : k + 3 ≤ 1539) (v1 : Int32) (v2 : Int32) : wpX_join (fun r u' => wpY_join (fun r' v' => r' = r ∧ i_Rel (k + 3) u' v') v v1 v2) u v1 v2 := by
  have I0 := I
  obtain ⟨c, h, q, l, w, ax, sx, mx, lg, ay, sy, my, hs, rfl, rfl, K⟩ := I
  have hc := K.1
  unfold wpX_join wpY_join
  rcases ed_ix v1 hc with hb | ⟨j, hj, rfl⟩
  · exact ed_xbad1 hb (br_f (by decide) (ed_ybad1 hb (br_f (by decide) ⟨rfl, I0⟩)))
  · have hi : vp_in (nI j) 32 := vp_in_nI (by omega) (by omega)
    have ec : (nI j).toNatClampNeg = j := nI_clamp (by omega)
    refine ed_xbad0 hc hj (br_t rfl ?_)
    by_cases hw : 0 < w j
    · refine ed_xpr1 hc hj hw (br_f (by decide) (ed_ybad0 hc hj (br_t rfl ⟨hi, br_f (by rw [ec]; exact Int32.not_le.mpr hw) ⟨rfl, I0⟩⟩)))
    · have hw' : w (nI j).toNatClampNeg ≤ 0 := by rw [ec]; exact Int32.not_lt.mp hw
      refine ed_xpr0 hc hj hw (br_t rfl (ed_xbw (fun z => br_f (by decide) ?_) (fun z1 z2 => br_t rfl (br_c (fun z3 => ?_) (fun z3 => ?_)))))
      · refine ed_ybad0 hc hj (br_t rfl ⟨hi, br_t hw' ?_⟩)
        exact br_c (fun _ => ⟨rfl, I0⟩) (fun y => br_f (fun y2 => z.elim y (fun y3 => y3 y2)) ⟨rfl, I0⟩)
      · refine ⟨hi, nm_e ⟨hi, nm_e ⟨hi, nm_e ⟨hi, nm_e (nm_e ?_)⟩⟩⟩⟩
        refine ed_ybad0 hc hj (br_t rfl ⟨hi, br_t hw' (br_f z1 (br_t z2 (ed_ytw hc (br_t z3 ⟨hi, nm_e ⟨hi, nm_e ⟨hi, nm_e ⟨hi, nm_e ⟨rfl, ?_⟩⟩⟩⟩⟩))))⟩)
        rw [ec, ed_nar0]
        refine ed_R ?_ (ed_K_w K (x := v2) (p := j) (fun y => z1 (Int32.lt_trans y (by decide))) (fun i => ?_) (fun i hi => ?_) (fun _ => ?_))
        · rw [ed_sum_in hj, ed_z (K.2.2.2.1 j) hw, Int32.sub_zero]
        · by_cases e : i = j
          · rw [e, pk_us]; exact Or.inl rfl
          · rw [pk_un e]; exact K.2.2.2.2.1 i
        · rw [pk_un hi, pk_un hi, pk_un hi, pk_un hi, pk_uLn hi, pk_uLn hi]
          exact ⟨rfl, rfl, rfl, rfl, rfl, rfl⟩
        · rw [pk_us, pk_us, pk_us, pk_us, pk_uLs, pk_uLs]
          exact ⟨rfl, rfl, rfl⟩
      · exact ed_ybad0 hc hj (br_t rfl ⟨hi, br_t hw' (br_f z1 (br_t z2 (ed_ytw hc (br_f z3 ⟨rfl, I0⟩))))⟩)
theorem i_vc_leave {k : Nat} {u : SX} {v : SY} (I : i_Rel k u v) (hk : k + 3 ≤ 1539) (v1 : Int32) : wpX_leave (fun r u' => wpY_leave (fun r' v' => r' = r ∧ i_Rel (k + 3) u' v') v v1) u v1 := by
  have I0 := I
  obtain ⟨c, h, q, l, w, ax, sx, mx, lg, ay, sy, my, hs, rfl, rfl, K⟩ := I
  have hc := K.1
  unfold wpX_leave wpY_leave
  rcases ed_ix v1 hc with hb | ⟨j, hj, rfl⟩
  · exact ed_xbad1 hb (br_f (by decide) (ed_ybad1 hb (br_f (by decide) ⟨rfl, I0⟩)))
  · have hi : vp_in (nI j) 32 := vp_in_nI (by omega) (by omega)
    have ec : (nI j).toNatClampNeg = j := nI_clamp (by omega)
    refine ed_xbad0 hc hj (br_t rfl ?_)
    by_cases hw : 0 < w j
    · obtain ⟨e1, e2, e3⟩ := K.2.2.2.2.2.1 j hw
      have hn : ¬ w (nI j).toNatClampNeg = 0 := by rw [ec]; exact ed_nz hw
      refine ed_xpr1 hc hj hw (br_f (by decide) ⟨hi, ?_⟩)
      refine br_c (fun z1 => ⟨hi, br_c (fun z2 => ?_) (fun z2 => ⟨hi, nm_e ?_⟩)⟩) (fun z1 => ?_)
      · have y1 : my (nI j).toNatClampNeg = 0 := by rw [ec] at z1 ⊢; rw [← e3]; exact z1
        have y2 : ay (nI j).toNatClampNeg = 0 := by rw [ec] at z2 ⊢; rw [← e1]; exact z2
        refine ed_xab hc hj (ed_ybad0 hc hj (br_t rfl ⟨hi, br_f hn ⟨hi, br_t y1 ⟨hi, br_t y2 (ed_yrm hc hj ⟨rfl, ?_⟩)⟩⟩⟩))
        refine ed_R ?_ (ed_K_w K (x := 0) (p := j) (by decide) K.2.2.2.2.1 (fun i hi => ?_) (fun z => absurd z (by decide)))
        · rw [ed_sum_in hj, Int32.add_zero]
        · rw [pk_un hi, pk_un hi, pk_uLn hi]
          exact ⟨rfl, rfl, rfl, rfl, rfl, rfl⟩
      · have y1 : my (nI j).toNatClampNeg = 0 := by rw [ec] at z1 ⊢; rw [← e3]; exact z1
        have y2 : ¬ ay (nI j).toNatClampNeg = 0 := by rw [ec] at z2 ⊢; rw [← e1]; exact z2
        refine ed_ybad0 hc hj (br_t rfl ⟨hi, br_f hn ⟨hi, br_t y1 ⟨hi, br_f y2 ⟨hi, nm_e ⟨rfl, ?_⟩⟩⟩⟩⟩)
        rw [ed_nar1]
        exact ed_R rfl (ed_K_m K (Or.inr rfl))
      · have y1 : ¬ my (nI j).toNatClampNeg = 0 := by rw [ec] at z1 ⊢; rw [← e3]; exact z1
        exact ed_ybad0 hc hj (br_t rfl ⟨hi, br_f hn ⟨hi, br_f y1 ⟨rfl, I0⟩⟩⟩)
    · have hn : w (nI j).toNatClampNeg = 0 := by rw [ec]; exact ed_z (K.2.2.2.1 j) hw
      exact ed_xpr0 hc hj hw (br_t rfl (ed_ybad0 hc hj (br_t rfl ⟨hi, br_t hn ⟨rfl, I0⟩⟩)))
theorem i_vc_stay {k : Nat} {u : SX} {v : SY} (I : i_Rel k u v) (hk : k + 3 ≤ 1539) (v1 : Int32) : wpX_stay (fun r u' => wpY_stay (fun r' v' => r' = r ∧ i_Rel (k + 3) u' v') v v1) u v1 := by
  have I0 := I
  obtain ⟨c, h, q, l, w, ax, sx, mx, lg, ay, sy, my, hs, rfl, rfl, K⟩ := I
  have hc := K.1
  unfold wpX_stay wpY_stay
  rcases ed_ix v1 hc with hb | ⟨j, hj, rfl⟩
  · exact ed_xbad1 hb (br_f (by decide) (ed_ybad1 hb (br_f (by decide) ⟨rfl, I0⟩)))
  · have hi : vp_in (nI j) 32 := vp_in_nI (by omega) (by omega)
    have ec : (nI j).toNatClampNeg = j := nI_clamp (by omega)
    refine ed_xbad0 hc hj (br_t rfl ?_)
    by_cases hw : 0 < w j
    · obtain ⟨e1, e2, e3⟩ := K.2.2.2.2.2.1 j hw
      have hn : ¬ w (nI j).toNatClampNeg = 0 := by rw [ec]; exact ed_nz hw
      refine ed_xpr1 hc hj hw (br_f (by decide) ⟨hi, ?_⟩)
      refine br_c (fun z1 => ?_) (fun z1 => ⟨hi, nm_e ?_⟩)
      · have y1 : my (nI j).toNatClampNeg = 0 := by rw [ec] at z1 ⊢; rw [← e3]; exact z1
        exact ed_ybad0 hc hj (br_t rfl ⟨hi, br_f hn ⟨hi, br_t y1 ⟨rfl, I0⟩⟩⟩)
      · have y1 : ¬ my (nI j).toNatClampNeg = 0 := by rw [ec] at z1 ⊢; rw [← e3]; exact z1
        refine ed_ybad0 hc hj (br_t rfl ⟨hi, br_f hn ⟨hi, br_f y1 ⟨hi, nm_e ⟨rfl, ?_⟩⟩⟩⟩)
        rw [ed_nar0]
        exact ed_R rfl (ed_K_m K (Or.inl rfl))
    · have hn : w (nI j).toNatClampNeg = 0 := by rw [ec]; exact ed_z (K.2.2.2.1 j) hw
      exact ed_xpr0 hc hj hw (br_t rfl (ed_ybad0 hc hj (br_t rfl ⟨hi, br_t hn ⟨rfl, I0⟩⟩)))
theorem i_vc_reweigh {k : Nat} {u : SX} {v : SY} (I : i_Rel k u v) (hk : k + 3 ≤ 1539) (v1 : Int32) (v2 : Int32) : wpX_reweigh (fun r u' => wpY_reweigh (fun r' v' => r' = r ∧ i_Rel (k + 3) u' v') v v1 v2) u v1 v2 := by
  have I0 := I
  obtain ⟨c, h, q, l, w, ax, sx, mx, lg, ay, sy, my, hs, rfl, rfl, K⟩ := I
  have hc := K.1
  unfold wpX_reweigh wpY_reweigh
  rcases ed_ix v1 hc with hb | ⟨j, hj, rfl⟩
  · exact ed_xbad1 hb (br_f (by decide) (ed_ybad1 hb (br_f (by decide) ⟨rfl, I0⟩)))
  · have hi : vp_in (nI j) 32 := vp_in_nI (by omega) (by omega)
    have ec : (nI j).toNatClampNeg = j := nI_clamp (by omega)
    refine ed_xbad0 hc hj (br_t rfl ?_)
    by_cases hw : 0 < w j
    · obtain ⟨e1, e2, e3⟩ := K.2.2.2.2.2.1 j hw
      have hn : ¬ w (nI j).toNatClampNeg = 0 := by rw [ec]; exact ed_nz hw
      refine ed_xpr1 hc hj hw (br_f (by decide) (ed_xbw (fun z => br_f (by decide) ?_) (fun z1 z2 => br_t rfl ⟨hi, br_c (fun z3 => ⟨hi, nm_e (br_c (fun z4 => ⟨hi, nm_e ?_⟩) (fun z4 => ?_))⟩) (fun z3 => ?_)⟩)))
      · refine ed_ybad0 hc hj (br_t rfl ⟨hi, br_f hn ?_⟩)
        exact br_c (fun _ => ⟨rfl, I0⟩) (fun y => br_f (fun y2 => z.elim y (fun y3 => y3 y2)) ⟨rfl, I0⟩)
      · have y3 : ay (nI j).toNatClampNeg = 0 := by rw [ec] at z3 ⊢; rw [← e1]; exact z3
        refine ed_ybad0 hc hj (br_t rfl ⟨hi, br_f hn (br_f z1 (br_t z2 ⟨hi, br_t y3 (ed_ytw hc ⟨hi, br_t z4 ⟨hi, nm_e ⟨rfl, ?_⟩⟩⟩)⟩))⟩)
        rw [ec]
        refine ed_R ?_ (ed_K_w K (x := v2) (p := j) (fun y => z1 (Int32.lt_trans y (by decide))) K.2.2.2.2.1 (fun i hi => ⟨rfl, rfl, rfl, rfl, rfl, rfl⟩) (fun _ => ⟨e1, e2, e3⟩))
        rw [ed_sum_in hj]
      · have y3 : ay (nI j).toNatClampNeg = 0 := by rw [ec] at z3 ⊢; rw [← e1]; exact z3
        exact ed_ybad0 hc hj (br_t rfl ⟨hi, br_f hn (br_f z1 (br_t z2 ⟨hi, br_t y3 (ed_ytw hc ⟨hi, br_f z4 ⟨rfl, I0⟩⟩)⟩))⟩)
      · have y3 : ¬ ay (nI j).toNatClampNeg = 0 := by rw [ec] at z3 ⊢; rw [← e1]; exact z3
        exact ed_ybad0 hc hj (br_t rfl ⟨hi, br_f hn (br_f z1 (br_t z2 ⟨hi, br_f y3 ⟨rfl, I0⟩⟩))⟩)
    · have hn : w (nI j).toNatClampNeg = 0 := by rw [ec]; exact ed_z (K.2.2.2.1 j) hw
      exact ed_xpr0 hc hj hw (br_t rfl (ed_ybad0 hc hj (br_t rfl ⟨hi, br_t hn ⟨rfl, I0⟩⟩)))
end
end
section
/-! run in lockstep: one answer and two related states, whatever is asked behind -/
theorem ed_run {c h N : Nat} {l : Int32} (hN : N ≤ 64) : ∀ (d i q : Nat) (w : Nat → Int32) (ax : Nat → Int64) (sx mx lg : Nat → Int32) (ay : Nat → Int64) (sy my hs : Nat → Int32), i + d = N → ed_K c h q w ax sx mx lg ay sy my hs →
    ∃ (r : Int32) (u' : SX) (v' : SY), i_Rel 0 u' v' ∧ (∀ post : Int32 → SX → Prop, post r u' → wX_run_16 post (nI N) (d + 1) (nI i) (nI c) l (nI h) (ed_sum w c) (nI q) w ax sx mx lg)
      ∧ (∀ post : Int32 → SY → Prop, post r v' → wY_run_18 post (nI N) (d + 1) (nI i) (nI i) (nI c) l (nI h) (nI q) w ay sy my hs) := by
  intro d
  induction d with
  | zero =>
    intro i q w ax sx mx lg ay sy my hs hi K
    have e : i = N := by omega
    rw [e]
    exact ⟨nI N, _, _, ed_R rfl K, fun post hp => br_t (nI_le (Nat.le_refl N) (by omega)) hp, fun post hp => br_t (nI_le (Nat.le_refl N) (by omega)) hp⟩
  | succ d ih =>
    intro i q w ax sx mx lg ay sy my hs hi K
    obtain ⟨hc, hh, hq, hN0, hM, hP, hL⟩ := K
    have K : ed_K c h q w ax sx mx lg ay sy my hs := ⟨hc, hh, hq, hN0, hM, hP, hL⟩
    have hg : ¬ nI N ≤ nI i := nI_ge (by omega) (by omega)
    have eb : ed_bs w ay 0 c = ed_bs w ax 0 c := ed_bs_congr (fun j hj => ((hP j hj).1).symm)
    have stop : (∀ post : Int32 → SX → Prop, post (nI i) (nI c, l, nI h, ed_sum w c, nI q, w, ax, sx, mx, lg) → wX_run_16 post (nI N) (d + 1 + 1) (nI i) (nI c) l (nI h) (ed_sum w c) (nI q) w ax sx mx lg) →
        (∀ post : Int32 → SY → Prop, post (nI i) (nI c, l, nI h, nI q, w, ay, sy, my, hs) → wY_run_18 post (nI N) (d + 1 + 1) (nI i) (nI i) (nI c) l (nI h) (nI q) w ay sy my hs) →
        ∃ (r : Int32) (u' : SX) (v' : SY), i_Rel 0 u' v' ∧ (∀ post : Int32 → SX → Prop, post r u' → wX_run_16 post (nI N) (d + 1 + 1) (nI i) (nI c) l (nI h) (ed_sum w c) (nI q) w ax sx mx lg)
          ∧ (∀ post : Int32 → SY → Prop, post r v' → wY_run_18 post (nI N) (d + 1 + 1) (nI i) (nI i) (nI c) l (nI h) (nI q) w ay sy my hs) := fun hX hY => ⟨nI i, _, _, ed_R rfl K, hX, hY⟩
    rcases ed_bs_in w ax 0 c with en | ⟨p, hp, ep, hwp, hap⟩
    · refine stop (fun post hp => br_f hg (ed_xbest hc ?_)) (fun post hp => br_f hg (ed_ytw hc (br_c (fun _ => hp) (fun _ => br_c (fun _ => ed_ybest hc ?_) (fun _ => hp)))))
      · exact br_t (by rw [en]; decide) hp
      · exact br_t (by rw [eb, en]; decide) hp
    · have hpos : ¬ nI p < 0 := nI_pos (by omega)
      have hv : vp_in (nI p) 32 := vp_in_nI (by omega) (by omega)
      have ec : (nI p).toNatClampNeg = p := nI_clamp (by omega)
      by_cases hW : ed_sum w c < 1
      · refine stop (fun post hp => br_f hg (ed_xbest hc ?_)) (fun post hp => br_f hg (ed_ytw hc (br_t hW hp)))
        rw [ep]
        exact br_f hpos (br_t hW hp)
      · by_cases hqh : q < h
        · have hqh' : nI q < nI h := nI_lt hqh (by omega)
          have hWz : ¬ (ed_sum w c).toInt64 = 0 := ed_nz64 (Int32.lt_of_lt_of_le (by decide : (0 : Int32) < 1) (Int32.not_lt.mp hW))
          have h1w : 1 ≤ w p := by
            have z := Int32.lt_iff_toInt_lt.mp hwp
            rw [Int32.le_iff_toInt_le]
            rw [show (0 : Int32).toInt = 0 from by decide] at z
            rw [show (1 : Int32).toInt = 1 from by decide]
            omega
          have ha1 : ∀ j, 0 < w j → vp_updL ax p (ax p + 144403552893600 / (w p).toInt64) j = vp_updL ay p (ay p + 144403552893600 / (w p).toInt64) j := fun j hj => by
            by_cases e : j = p
            · rw [e, pk_uLs, pk_uLs, (hP p hwp).1]
            · rw [pk_uLn e, pk_uLn e, (hP j hj).1]
          have ha2 : ∀ j, 0 < w j → ed_mv w (vp_updL ax p (ax p + 144403552893600 / (w p).toInt64)) (144403552893600 / (ed_sum w c).toInt64) c j = ed_mv w (vp_updL ay p (ay p + 144403552893600 / (w p).toInt64)) (144403552893600 / (ed_sum w c).toInt64) c j := fun j hj => by
            unfold ed_mv
            rw [ha1 j hj]
          have hs1 : ∀ j, 0 < w j → upd sx p (sx p + 1) j = upd sy p (sy p + 1) j := fun j hj => by
            by_cases e : j = p
            · rw [e, pk_us, pk_us, (hP p hwp).2.1]
            · rw [pk_un e, pk_un e, (hP j hj).2.1]
          have K2 := ed_K_q K hqh ha2 hs1 (nI p)
          have ew : ∀ f : Nat → Int32, ed_cl w (ed_mv w (vp_updL ay p (ay p + 144403552893600 / (w p).toInt64)) (144403552893600 / (ed_sum w c).toInt64) c) my f c = ed_cl w (ed_mv w (vp_updL ax p (ax p + 144403552893600 / (w p).toInt64)) (144403552893600 / (ed_sum w c).toInt64) c) mx f c := fun f => ed_cl_congr (fun j hj => ⟨(ha2 j hj).symm, ((hP j hj).2.2).symm⟩)
          obtain ⟨r, u', v', hR, hX, hY⟩ := ih (i + 1) (q + 1) _ _ _ _ _ _ _ _ _ (by omega) K2
          refine ⟨r, u', v', hR, fun post hp => br_f hg (ed_xbest hc ?_), fun post hp => br_f hg (ed_ytw hc (br_f hW (br_t hqh' (ed_ybest hc ?_))))⟩
          · rw [ep]
            refine br_f hpos (br_f hW (br_t hqh' (ed_xgq hc (by omega) (by omega) hwp hWz rfl ?_)))
            exact nm_r (nI_1 i) (hX post hp)
          · rw [eb, ep]
            refine br_f hpos ⟨hv, ?_⟩
            rw [ec]
            refine br_t h1w ⟨hv, hv, ed_nz64 hwp, hv, nm_e ⟨hv, hv, nm_e ⟨c + 1, ?_⟩⟩⟩
            have t := hY post hp
            rw [← ew w] at t
            have t2 := ed_y109_l (post := post) (J := wY_run_18 post (nI N) (d + 1)) (l := l) (hz := nI h) (x1 := nI N) (x2 := nI i) (x3 := nI i) (g := hs) (j := p) (n := q) (s := upd sy p (sy p + 1)) (m := my) hc (by omega) hWz rfl (by rw [nI_1]; exact t) c 0 (by omega)
            rw [ed_mv_0] at t2
            exact t2
        · have hqh' : ¬ nI q < nI h := nI_nlt (by omega) (by omega)
          refine stop (fun post hp => br_f hg (ed_xbest hc ?_)) (fun post hp => br_f hg (ed_ytw hc (br_f hW (br_f hqh' hp))))
          rw [ep]
          exact br_f hpos (br_f hW (br_f hqh' hp))
theorem i_vc_run {k : Nat} {u : SX} {v : SY} (I : i_Rel k u v) (hk : k + 3 ≤ 1539) (v1 : Int32) : wpX_run (fun r u' => wpY_run (fun r' v' => r' = r ∧ i_Rel (k + 3) u' v') v v1) u v1 := by
  have I0 := I
  obtain ⟨c, h, q, l, w, ax, sx, mx, lg, ay, sy, my, hs, rfl, rfl, K⟩ := I
  unfold wpX_run wpY_run
  refine br_c (fun z => br_t z ⟨rfl, I0⟩) (fun z => br_c (fun z2 => ?_) (fun z2 => br_f z (br_f z2 ⟨rfl, I0⟩)))
  obtain ⟨N, hN, rfl⟩ := nI_of2 (M := 64) (n := 64) (by decide) (fun y => z (Int32.lt_trans y (by decide))) z2
  obtain ⟨r, u', v', hR, hX, hY⟩ := ed_run (l := l) hN N 0 q w ax sx mx lg ay sy my hs (by omega) K
  exact ⟨N + 1, hX _ (br_f z (br_t z2 ⟨N + 1, hY _ ⟨rfl, hR⟩⟩))⟩
theorem i_vc_next {k : Nat} {u : SX} {v : SY} (I : i_Rel k u v) (hk : k + 3 ≤ 1539) : wpX_next (fun r => wpY_next (fun r' => r' = r ∧ i_Rel (k + 3) u v) v) u := by
  have I0 := I
  obtain ⟨c, h, q, l, w, ax, sx, mx, lg, ay, sy, my, hs, rfl, rfl, K⟩ := I
  unfold wpX_next wpY_next
  exact ed_xbest K.1 (ed_ybest K.1 ⟨by rw [ed_bs_congr (fun j hj => (K.2.2.2.2.2.1 j hj).1)], I0⟩)
theorem i_vc_bestWithin {k : Nat} {u : SX} {v : SY} (I : i_Rel k u v) (hk : k + 3 ≤ 1539) (a0 : Int64) : wpX_bestWithin (fun r => wpY_bestWithin (fun r' => r' = r ∧ i_Rel (k + 3) u v) v a0) u a0 := by
  have I0 := I
  obtain ⟨c, h, q, l, w, ax, sx, mx, lg, ay, sy, my, hs, rfl, rfl, K⟩ := I
  unfold wpX_bestWithin
  exact ed_xbest K.1 (ed_ybest K.1 ⟨by rw [ed_bs_congr (fun j hj => (K.2.2.2.2.2.1 j hj).1)], I0⟩)
theorem i_vc_eligible {k : Nat} {u : SX} {v : SY} (I : i_Rel k u v) (hk : k + 3 ≤ 1539) : wpX_eligible (fun r => wpY_eligible (fun r' => r' = r ∧ i_Rel (k + 3) u v) v) u := by
  have I0 := I
  obtain ⟨c, h, q, l, w, ax, sx, mx, lg, ay, sy, my, hs, rfl, rfl, K⟩ := I
  exact ed_xel K.1 (ed_yel K.1 ⟨by rw [ed_ct_congr (fun j hj => (K.2.2.2.2.2.1 j hj).1)], I0⟩)
theorem i_vc_lag {k : Nat} {u : SX} {v : SY} (I : i_Rel k u v) (hk : k + 3 ≤ 1539) (v1 : Int32) : wpX_lag (fun r => wpY_lag (fun r' => r' = r ∧ i_Rel (k + 3) u v) v v1) u v1 := by
  have I0 := I
  obtain ⟨c, h, q, l, w, ax, sx, mx, lg, ay, sy, my, hs, rfl, rfl, K⟩ := I
  have hc := K.1
  unfold wpX_lag wpY_lag
  rcases ed_ix v1 hc with hb | ⟨j, hj, rfl⟩
  · exact ed_xprb hb (br_t rfl (ed_ybad1 hb (br_f (by decide) ⟨rfl, I0⟩)))
  · have hi : vp_in (nI j) 32 := vp_in_nI (by omega) (by omega)
    have ec : (nI j).toNatClampNeg = j := nI_clamp (by omega)
    by_cases hw : 0 < w j
    · obtain ⟨e1, e2, e3⟩ := K.2.2.2.2.2.1 j hw
      refine ed_xpr1 hc hj hw (br_f (by decide) ⟨hi, hi, ed_ybad0 hc hj (br_t rfl ⟨hi, br_f ?_ ⟨hi, hi, ?_, I0⟩⟩)⟩)
      · rw [ec]; exact ed_nz hw
      · rw [ec, e1]
    · have hn : w (nI j).toNatClampNeg = 0 := by rw [ec]; exact ed_z (K.2.2.2.1 j) hw
      exact ed_xpr0 hc hj hw (br_t rfl (ed_ybad0 hc hj (br_t rfl ⟨hi, br_t hn ⟨rfl, I0⟩⟩)))
theorem i_vc_deadline {k : Nat} {u : SX} {v : SY} (I : i_Rel k u v) (hk : k + 3 ≤ 1539) (v1 : Int32) : wpX_deadline (fun r => wpY_deadline (fun r' => r' = r ∧ i_Rel (k + 3) u v) v v1) u v1 := by
  have I0 := I
  obtain ⟨c, h, q, l, w, ax, sx, mx, lg, ay, sy, my, hs, rfl, rfl, K⟩ := I
  have hc := K.1
  unfold wpX_deadline wpY_deadline
  rcases ed_ix v1 hc with hb | ⟨j, hj, rfl⟩
  · exact ed_xprb hb (br_t rfl (ed_ybad1 hb (br_f (by decide) ⟨rfl, I0⟩)))
  · have hi : vp_in (nI j) 32 := vp_in_nI (by omega) (by omega)
    have ec : (nI j).toNatClampNeg = j := nI_clamp (by omega)
    by_cases hw : 0 < w j
    · obtain ⟨e1, e2, e3⟩ := K.2.2.2.2.2.1 j hw
      refine ed_xpr1 hc hj hw (br_f (by decide) (ed_xdl hc hj hw (ed_ybad0 hc hj (br_t rfl ⟨hi, br_t ?_ ⟨hi, hi, ?_, ?_, I0⟩⟩))))
      · rw [ec]
        have z := Int32.lt_iff_toInt_lt.mp hw
        rw [Int32.le_iff_toInt_le]
        rw [show (0 : Int32).toInt = 0 from by decide] at z
        rw [show (1 : Int32).toInt = 1 from by decide]
        omega
      · rw [ec]; exact ed_nz64 hw
      · rw [ec, e1]
    · refine ed_xpr0 hc hj hw (br_t rfl (ed_ybad0 hc hj (br_t rfl ⟨hi, br_f ?_ ⟨rfl, I0⟩⟩)))
      rw [ec]
      exact fun z => hw (Int32.lt_of_lt_of_le (by decide : (0 : Int32) < 1) z)
theorem i_vc_weight {k : Nat} {u : SX} {v : SY} (I : i_Rel k u v) (hk : k + 3 ≤ 1539) (v1 : Int32) : wpX_weight (fun r => wpY_weight (fun r' => r' = r ∧ i_Rel (k + 3) u v) v v1) u v1 := by
  have I0 := I
  obtain ⟨c, h, q, l, w, ax, sx, mx, lg, ay, sy, my, hs, rfl, rfl, K⟩ := I
  have hc := K.1
  unfold wpX_weight wpY_weight
  rcases ed_ix v1 hc with hb | ⟨j, hj, rfl⟩
  · exact ed_xprb hb (br_t rfl (ed_ybad1 hb (br_f (by decide) ⟨rfl, I0⟩)))
  · have hi : vp_in (nI j) 32 := vp_in_nI (by omega) (by omega)
    have ec : (nI j).toNatClampNeg = j := nI_clamp (by omega)
    by_cases hw : 0 < w j
    · exact ed_xpr1 hc hj hw (br_f (by decide) ⟨hi, ed_ybad0 hc hj (br_t rfl ⟨hi, rfl, I0⟩)⟩)
    · have hn : w (nI j).toNatClampNeg = 0 := by rw [ec]; exact ed_z (K.2.2.2.1 j) hw
      exact ed_xpr0 hc hj hw (br_t rfl (ed_ybad0 hc hj (br_t rfl ⟨hi, hn, I0⟩)))
theorem i_vc_served {k : Nat} {u : SX} {v : SY} (I : i_Rel k u v) (hk : k + 3 ≤ 1539) (v1 : Int32) : wpX_served (fun r => wpY_served (fun r' => r' = r ∧ i_Rel (k + 3) u v) v v1) u v1 := by
  have I0 := I
  obtain ⟨c, h, q, l, w, ax, sx, mx, lg, ay, sy, my, hs, rfl, rfl, K⟩ := I
  have hc := K.1
  unfold wpX_served wpY_served
  rcases ed_ix v1 hc with hb | ⟨j, hj, rfl⟩
  · exact ed_xprb hb (br_t rfl (ed_ybad1 hb (br_f (by decide) ⟨rfl, I0⟩)))
  · have hi : vp_in (nI j) 32 := vp_in_nI (by omega) (by omega)
    have ec : (nI j).toNatClampNeg = j := nI_clamp (by omega)
    by_cases hw : 0 < w j
    · obtain ⟨e1, e2, e3⟩ := K.2.2.2.2.2.1 j hw
      refine ed_xpr1 hc hj hw (br_f (by decide) ⟨hi, ed_ybad0 hc hj (br_t rfl ⟨hi, br_f ?_ ⟨hi, ?_, I0⟩⟩)⟩)
      · rw [ec]; exact ed_nz hw
      · rw [ec, e2]
    · have hn : w (nI j).toNatClampNeg = 0 := by rw [ec]; exact ed_z (K.2.2.2.1 j) hw
      exact ed_xpr0 hc hj hw (br_t rfl (ed_ybad0 hc hj (br_t rfl ⟨hi, br_t hn ⟨rfl, I0⟩⟩)))
theorem i_vc_leaving {k : Nat} {u : SX} {v : SY} (I : i_Rel k u v) (hk : k + 3 ≤ 1539) (v1 : Int32) : wpX_leaving (fun r => wpY_leaving (fun r' => r' = r ∧ i_Rel (k + 3) u v) v v1) u v1 := by
  have I0 := I
  obtain ⟨c, h, q, l, w, ax, sx, mx, lg, ay, sy, my, hs, rfl, rfl, K⟩ := I
  have hc := K.1
  unfold wpX_leaving wpY_leaving
  rcases ed_ix v1 hc with hb | ⟨j, hj, rfl⟩
  · exact ed_xprb hb (br_t rfl (ed_ybad1 hb (br_f (by decide) ⟨rfl, I0⟩)))
  · have hi : vp_in (nI j) 32 := vp_in_nI (by omega) (by omega)
    have ec : (nI j).toNatClampNeg = j := nI_clamp (by omega)
    by_cases hw : 0 < w j
    · obtain ⟨e1, e2, e3⟩ := K.2.2.2.2.2.1 j hw
      have hn : ¬ w (nI j).toNatClampNeg = 0 := by rw [ec]; exact ed_nz hw
      refine ed_xpr1 hc hj hw (br_f (by decide) ⟨hi, ?_⟩)
      rcases K.2.2.2.2.1 j with hm | hm
      · have y : my (nI j).toNatClampNeg = 0 := by rw [ec, ← e3]; exact hm
        refine br_t (by rw [ec]; exact hm) (ed_ybad0 hc hj (br_t rfl ⟨hi, br_f hn ⟨hi, ?_⟩⟩))
        rw [y]
        exact ⟨rfl, rfl, I0⟩
      · have y : my (nI j).toNatClampNeg = 1 := by rw [ec, ← e3]; exact hm
        refine br_f (by rw [ec, hm]; decide) (ed_ybad0 hc hj (br_t rfl ⟨hi, br_f hn ⟨hi, ?_⟩⟩))
        rw [y]
        exact ⟨rfl, rfl, I0⟩
    · have hn : w (nI j).toNatClampNeg = 0 := by rw [ec]; exact ed_z (K.2.2.2.1 j) hw
      exact ed_xpr0 hc hj hw (br_t rfl (ed_ybad0 hc hj (br_t rfl ⟨hi, br_t hn ⟨rfl, I0⟩⟩)))
theorem i_vc_totalWeight {k : Nat} {u : SX} {v : SY} (I : i_Rel k u v) (hk : k + 3 ≤ 1539) : wpX_totalWeight (fun r => wpY_totalWeight (fun r' => r' = r ∧ i_Rel (k + 3) u v) v) u := by
  have I0 := I
  obtain ⟨c, h, q, l, w, ax, sx, mx, lg, ay, sy, my, hs, rfl, rfl, K⟩ := I
  exact ed_ytw K.1 ⟨rfl, I0⟩
theorem i_vc_clock {k : Nat} {u : SX} {v : SY} (I : i_Rel k u v) (hk : k + 3 ≤ 1539) : wpX_clock (fun r => wpY_clock (fun r' => r' = r ∧ i_Rel (k + 3) u v) v) u := by
  have I0 := I
  obtain ⟨c, h, q, l, w, ax, sx, mx, lg, ay, sy, my, hs, rfl, rfl, K⟩ := I
  exact ⟨rfl, I0⟩
theorem i_vc_ranAt {k : Nat} {u : SX} {v : SY} (I : i_Rel k u v) (hk : k + 3 ≤ 1539) (v1 : Int32) : wpX_ranAt (fun r => wpY_ranAt (fun r' => r' = r ∧ i_Rel (k + 3) u v) v v1) u v1 := by
  have I0 := I
  obtain ⟨c, h, q, l, w, ax, sx, mx, lg, ay, sy, my, hs, rfl, rfl, K⟩ := I
  obtain ⟨hc, hh, hq, _, _, _, hL⟩ := K
  unfold wpX_ranAt wpY_ranAt
  refine br_c (fun z => br_t z ⟨rfl, I0⟩) (fun z => ?_)
  obtain ⟨b, hb, rfl⟩ := nI_of z
  by_cases h64 : 64 ≤ b
  · exact br_t (nI_le (a := 64) h64 hb) (br_f z (br_t (nI_lt (a := 63) (by omega) hb) ⟨rfl, I0⟩))
  · refine br_f (nI_ge (b := 64) (by omega) (by decide)) ?_
    have h63 : ¬ (63 : Int32) < nI b := nI_nlt (a := 63) (by omega) (by decide)
    by_cases hbq : b < q
    · have e1 : nI q - 1 - nI b = nI (q - 1 - b) := by
        have e := pk_sub (a := q) (b := 1) (by omega)
        have e0 : nI q - 1 = nI (q - 1) := e
        rw [e0, pk_sub (by omega)]
      have er : nI (q - 1 - b) - nI (q - 1 - b) / 64 * 64 = nI ((q - 1 - b) % 64) := pk_rem (d := 64) (by omega) (by omega) (by omega)
      have hlt : nI b < nI q := nI_lt hbq (by omega)
      refine br_t hlt ⟨by decide, ?_⟩
      dsimp only
      rw [e1, er, nI_clamp (by omega)]
      refine ⟨vp_in_nI (by omega) (by omega), br_f z (br_f h63 (br_t hlt ⟨vp_in_nI (by omega) (by omega), ?_, I0⟩))⟩
      rw [nI_clamp (by omega)]
      exact (hL (q - 1 - b) (by omega) (by omega)).symm
    · have hlt : ¬ nI b < nI q := nI_nlt (by omega) (by omega)
      exact br_f hlt (br_f z (br_f h63 (br_f hlt ⟨rfl, I0⟩)))
end
