/-- what the two states share: weights the same; advances, services and marks of the present ones; the last 64 of the history -/
def ed_K (c h q : Nat) (w : Nat → Int32) (ax : Nat → Int64) (sx mx lg : Nat → Int32) (ay : Nat → Int64) (sy my hs : Nat → Int32) : Prop :=
  c ≤ 32 ∧ h ≤ 30000 ∧ q ≤ h ∧ (∀ j, ¬ w j < 0) ∧ (∀ j, mx j = 0 ∨ mx j = 1) ∧ (∀ j, 0 < w j → ax j = ay j ∧ sx j = sy j ∧ mx j = my j) ∧ (∀ t, t < q → q ≤ t + 64 → lg (t % 64) = hs t)
section
variable {c h q : Nat} {w : Nat → Int32} {ax : Nat → Int64} {sx mx lg : Nat → Int32} {ay : Nat → Int64} {sy my hs : Nat → Int32}
theorem ed_K_0 (hc : c ≤ 32) (hh : h ≤ 30000) : ed_K c h 0 (fun _ => 0) (fun _ => 0) (fun _ => 0) (fun _ => 0) (fun _ => 0) (fun _ => 0) (fun _ => 0) (fun _ => 0) (fun _ => 0) :=
  ⟨hc, hh, Nat.zero_le h, fun _ => by show ¬ (0 : Int32) < 0; decide, fun _ => Or.inl rfl, fun _ _ => ⟨rfl, rfl, rfl⟩, fun t ht => absurd ht (by omega)⟩
/-- one quantum -/
theorem ed_K_q {a2x a2y : Nat → Int64} {s1x s1y : Nat → Int32} (K : ed_K c h q w ax sx mx lg ay sy my hs) (hq : q < h) (ha : ∀ j, 0 < w j → a2x j = a2y j) (hs1 : ∀ j, 0 < w j → s1x j = s1y j) (p : Int32) :
    ed_K c h (q + 1) (ed_cl w a2x mx w c) a2x s1x mx (upd lg (q % 64) p) a2y (ed_cl w a2y my s1y c) (ed_cl w a2y my my c) (upd hs q p) := by
  obtain ⟨k1, k2, k3, k4, k5, k6, k7⟩ := K
  have e : ∀ f : Nat → Int32, ed_cl w a2y my f c = ed_cl w a2x mx f c := fun f => ed_cl_congr (fun j hj => ⟨(ha j hj).symm, ((k6 j hj).2.2).symm⟩)
  refine ⟨k1, k2, by omega, ed_cl_nn k4, k5, fun j hj => ?_, fun t ht h64 => ?_⟩
  · obtain ⟨hw, hf⟩ := ed_cl_p hj
    rw [e, e, hf, hf]
    exact ⟨ha j hw, hs1 j hw, (k6 j hw).2.2⟩
  · by_cases et : t = q
    · rw [et, pk_us, pk_us]
    · rw [pk_un et, pk_un (by omega)]
      exact k7 t (by omega) (by omega)
/-- a present client's place is written on both sides alike, or an absent one's -/
theorem ed_K_w {p : Nat} {x : Int32} {ax' ay' : Nat → Int64} {sx' sy' mx' my' : Nat → Int32} (K : ed_K c h q w ax sx mx lg ay sy my hs) (hx : ¬ x < 0) (hm : ∀ j, mx' j = 0 ∨ mx' j = 1)
    (hn : ∀ j, j ≠ p → ax' j = ax j ∧ sx' j = sx j ∧ mx' j = mx j ∧ ay' j = ay j ∧ sy' j = sy j ∧ my' j = my j) (hp : 0 < x → ax' p = ay' p ∧ sx' p = sy' p ∧ mx' p = my' p) :
    ed_K c h q (upd w p x) ax' sx' mx' lg ay' sy' my' hs := by
  obtain ⟨k1, k2, k3, k4, k5, k6, k7⟩ := K
  refine ⟨k1, k2, k3, fun j => ?_, hm, fun j hj => ?_, k7⟩
  · by_cases e : j = p
    · rw [e, pk_us]; exact hx
    · rw [pk_un e]; exact k4 j
  · by_cases e : j = p
    · rw [e, pk_us] at hj
      rw [e]
      exact hp hj
    · rw [pk_un e] at hj
      obtain ⟨e1, e2, e3, e4, e5, e6⟩ := hn j e
      rw [e1, e2, e3, e4, e5, e6]
      exact k6 j hj
/-- the marks alone change, on both sides alike -/
theorem ed_K_m {p : Nat} {x : Int32} (K : ed_K c h q w ax sx mx lg ay sy my hs) (hx : x = 0 ∨ x = 1) : ed_K c h q w ax sx (upd mx p x) lg ay sy (upd my p x) hs := by
  obtain ⟨k1, k2, k3, k4, k5, k6, k7⟩ := K
  refine ⟨k1, k2, k3, k4, fun j => ?_, fun j hj => ?_, k7⟩
  · by_cases e : j = p
    · rw [e, pk_us]; exact hx
    · rw [pk_un e]; exact k5 j
  · obtain ⟨e1, e2, e3⟩ := k6 j hj
    refine ⟨e1, e2, ?_⟩
    by_cases e : j = p
    · rw [e, pk_us, pk_us]
    · rw [pk_un e, pk_un e]; exact e3
end
