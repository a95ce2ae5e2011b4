/-- the relation: the same sizes, clock and weights; the class's weight sum is the sum of the weights -/
def i_Rel (_ : Nat) (u : SX) (v : SY) : Prop := ∃ (c h q : Nat) (l : Int32) (w : Nat → Int32) (ax : Nat → Int64) (sx mx lg : Nat → Int32) (ay : Nat → Int64) (sy my hs : Nat → Int32),
  u = (nI c, l, nI h, ed_sum w c, nI q, w, ax, sx, mx, lg) ∧ v = (nI c, l, nI h, nI q, w, ay, sy, my, hs) ∧ ed_K c h q w ax sx mx lg ay sy my hs
theorem ed_R {k c h q : Nat} {l W : Int32} {w : Nat → Int32} {ax : Nat → Int64} {sx mx lg : Nat → Int32} {ay : Nat → Int64} {sy my hs : Nat → Int32} (hW : W = ed_sum w c) (K : ed_K c h q w ax sx mx lg ay sy my hs) : i_Rel k (nI c, l, nI h, W, nI q, w, ax, sx, mx, lg) (nI c, l, nI h, nI q, w, ay, sy, my, hs) :=
  ⟨c, h, q, l, w, ax, sx, mx, lg, ay, sy, my, hs, by rw [hW], rfl, K⟩
theorem i_up {k : Nat} {u : SX} {v : SY} (h : i_Rel k u v) : i_Rel (k + 3) u v := h
theorem ed_clamp (x : Int32) (n : Nat) (hn : n < 2 ^ 31) (h1 : 1 ≤ n) : ∃ k, k ≤ n ∧ (∀ post : Int32 → Prop, post (nI k) → wpX_clamp post x (nI n)) ∧ (∀ A : Int32 → Prop, A (nI k) → (1 ≤ x → ((x ≤ nI n → A x) ∧ (¬ x ≤ nI n → A (nI n)))) ∧ (¬ 1 ≤ x → A 1)) := by
  have e1 : nI 1 = 1 := rfl
  by_cases h : 1 ≤ x
  · by_cases h2 : x ≤ nI n
    · obtain ⟨k, hk, rfl⟩ := nI_of2 (M := nI n) (n := n) (nI_toInt hn) (fun z => absurd (Int32.lt_of_lt_of_le z (by decide : (0 : Int32) ≤ 1)) (Int32.not_lt.mpr h)) h2
      exact ⟨k, hk, fun post hp => br_t h (br_t h2 hp), fun A hA => br_t h (br_t h2 hA)⟩
    · exact ⟨n, Nat.le_refl n, fun post hp => br_t h (br_f h2 hp), fun A hA => br_t h (br_f h2 hA)⟩
  · exact ⟨1, h1, fun post hp => br_f h hp, fun A hA => br_f h hA⟩
theorem i_vc0 (k0 : Int32) (k1 : Int32) (k2 : Int32) : wpX_init (fun u => wpY_init (fun v => i_Rel 3 u v) k0 k1 k2) k0 k1 k2 := by
  obtain ⟨c, hc, cX, cY⟩ := ed_clamp k0 32 (by decide) (by decide)
  obtain ⟨l, hl, lX, lY⟩ := ed_clamp k1 36 (by decide) (by decide)
  obtain ⟨h, hh, hX, hY⟩ := ed_clamp k2 30000 (by decide) (by decide)
  unfold wpX_init
  refine cX _ (lX _ (hX _ ?_))
  have R : i_Rel 3 (nI c, nI l, nI h, 0, 0, (fun _ => 0), (fun _ => 0), (fun _ => 0), (fun _ => 0), (fun _ => 0)) (nI c, nI l, nI h, 0, (fun _ => 0), (fun _ => 0), (fun _ => 0), (fun _ => 0), (fun _ => 0)) := by
    have e : ∀ n, ed_sum (fun _ => 0) n = 0 := fun n => by
      induction n with
      | zero => rfl
      | succ n ih =>
        show ed_sum (fun _ => 0) n + 0 = 0
        rw [ih]; rfl
    exact ed_R (q := 0) (e c).symm (ed_K_0 hc hh)
  exact cY (fun x => wY_init_67 _ k1 k2 x 0 0 0 0 _ _ _ _ _) (lY (fun x => wY_init_92 _ k2 x (nI c) 0 0 0 _ _ _ _ _) (hY (fun x => (fun v => i_Rel 3 _ v) (nI c, nI l, x, 0, (fun _ => 0), (fun _ => 0), (fun _ => 0), (fun _ => 0), (fun _ => 0))) R))
section
variable {k : Nat} {u : SX} {v : SY}
theorem i_vc_join {k : Nat} {u : SX} {v : SY} (I : i_Rel k u v) (hk : k + 3 ≤ 1539) (v1 : Int32) (v2 : Int32) : wpX_join (fun r u' => wpY_join (fun r' v' => r' = r ∧ i_Rel (k + 3) u' v') v v1 v2) u v1 v2 := by
  have I0 := I
  obtain ⟨c, h, q, l, w, ax, sx, mx, lg, ay, sy, my, hs, rfl, rfl, K⟩ := I
  have hc := K.1
  unfold wpX_join wpY_join
  rcases ed_ix v1 hc with hb | ⟨j, hj, rfl⟩
  · exact ed_xbad1 hb (br_f (by decide) (ed_ybad1 hb (br_f (by decide) ⟨rfl, I0⟩)))
  · have hi : vp_in (nI j) 32 := vp_in_nI (by omega) (by omega)
    have ec : (nI j).toNatClampNeg = j := nI_clamp (by omega)
    refine ed_xbad0 hc hj (br_t rfl ?_)
    by_cases hw : 0 < w j
    · refine ed_xpr1 hc hj hw (br_f (by decide) (ed_ybad0 hc hj (br_t rfl ⟨hi, br_f (by rw [ec]; exact Int32.not_le.mpr hw) ⟨rfl, I0⟩⟩)))
    · have hw' : w (nI j).toNatClampNeg ≤ 0 := by rw [ec]; exact Int32.not_lt.mp hw
      refine ed_xpr0 hc hj hw (br_t rfl (ed_xbw (fun z => br_f (by decide) ?_) (fun z1 z2 => br_t rfl (br_c (fun z3 => ?_) (fun z3 => ?_)))))
      · refine ed_ybad0 hc hj (br_t rfl ⟨hi, br_t hw' ?_⟩)
        exact br_c (fun _ => ⟨rfl, I0⟩) (fun y => br_f (fun y2 => z.elim y (fun y3 => y3 y2)) ⟨rfl, I0⟩)
      · refine ⟨hi, nm_e ⟨hi, nm_e ⟨hi, nm_e ⟨hi, nm_e (nm_e ?_)⟩⟩⟩⟩
        refine ed_ybad0 hc hj (br_t rfl ⟨hi, br_t hw' (br_f z1 (br_t z2 (ed_ytw hc (br_t z3 ⟨hi, nm_e ⟨hi, nm_e ⟨hi, nm_e ⟨hi, nm_e ⟨rfl, ?_⟩⟩⟩⟩⟩))))⟩)
        rw [ec, ed_nar0]
        refine ed_R ?_ (ed_K_w K (x := v2) (p := j) (fun y => z1 (Int32.lt_trans y (by decide))) (fun i => ?_) (fun i hi => ?_) (fun _ => ?_))
        · rw [ed_sum_in hj, ed_z (K.2.2.2.1 j) hw, Int32.sub_zero]
        · by_cases e : i = j
          · rw [e, pk_us]; exact Or.inl rfl
          · rw [pk_un e]; exact K.2.2.2.2.1 i
        · rw [pk_un hi, pk_un hi, pk_un hi, pk_un hi, pk_uLn hi, pk_uLn hi]
          exact ⟨rfl, rfl, rfl, rfl, rfl, rfl⟩
        · rw [pk_us, pk_us, pk_us, pk_us, pk_uLs, pk_uLs]
          exact ⟨rfl, rfl, rfl⟩
      · exact ed_ybad0 hc hj (br_t rfl ⟨hi, br_t hw' (br_f z1 (br_t z2 (ed_ytw hc (br_f z3 ⟨rfl, I0⟩))))⟩)
theorem i_vc_leave {k : Nat} {u : SX} {v : SY} (I : i_Rel k u v) (hk : k + 3 ≤ 1539) (v1 : Int32) : wpX_leave (fun r u' => wpY_leave (fun r' v' => r' = r ∧ i_Rel (k + 3) u' v') v v1) u v1 := by
  have I0 := I
  obtain ⟨c, h, q, l, w, ax, sx, mx, lg, ay, sy, my, hs, rfl, rfl, K⟩ := I
  have hc := K.1
  unfold wpX_leave wpY_leave
  rcases ed_ix v1 hc with hb | ⟨j, hj, rfl⟩
  · exact ed_xbad1 hb (br_f (by decide) (ed_ybad1 hb (br_f (by decide) ⟨rfl, I0⟩)))
  · have hi : vp_in (nI j) 32 := vp_in_nI (by omega) (by omega)
    have ec : (nI j).toNatClampNeg = j := nI_clamp (by omega)
    refine ed_xbad0 hc hj (br_t rfl ?_)
    by_cases hw : 0 < w j
    · obtain ⟨e1, e2, e3⟩ := K.2.2.2.2.2.1 j hw
      have hn : ¬ w (nI j).toNatClampNeg = 0 := by rw [ec]; exact ed_nz hw
      refine ed_xpr1 hc hj hw (br_f (by decide) ⟨hi, ?_⟩)
      refine br_c (fun z1 => ⟨hi, br_c (fun z2 => ?_) (fun z2 => ⟨hi, nm_e ?_⟩)⟩) (fun z1 => ?_)
      · have y1 : my (nI j).toNatClampNeg = 0 := by rw [ec] at z1 ⊢; rw [← e3]; exact z1
        have y2 : ay (nI j).toNatClampNeg = 0 := by rw [ec] at z2 ⊢; rw [← e1]; exact z2
        refine ed_xab hc hj (ed_ybad0 hc hj (br_t rfl ⟨hi, br_f hn ⟨hi, br_t y1 ⟨hi, br_t y2 (ed_yrm hc hj ⟨rfl, ?_⟩)⟩⟩⟩))
        refine ed_R ?_ (ed_K_w K (x := 0) (p := j) (by decide) K.2.2.2.2.1 (fun i hi => ?_) (fun z => absurd z (by decide)))
        · rw [ed_sum_in hj, Int32.add_zero]
        · rw [pk_un hi, pk_un hi, pk_uLn hi]
          exact ⟨rfl, rfl, rfl, rfl, rfl, rfl⟩
      · have y1 : my (nI j).toNatClampNeg = 0 := by rw [ec] at z1 ⊢; rw [← e3]; exact z1
        have y2 : ¬ ay (nI j).toNatClampNeg = 0 := by rw [ec] at z2 ⊢; rw [← e1]; exact z2
        refine ed_ybad0 hc hj (br_t rfl ⟨hi, br_f hn ⟨hi, br_t y1 ⟨hi, br_f y2 ⟨hi, nm_e ⟨rfl, ?_⟩⟩⟩⟩⟩)
        rw [ed_nar1]
        exact ed_R rfl (ed_K_m K (Or.inr rfl))
      · have y1 : ¬ my (nI j).toNatClampNeg = 0 := by rw [ec] at z1 ⊢; rw [← e3]; exact z1
        exact ed_ybad0 hc hj (br_t rfl ⟨hi, br_f hn ⟨hi, br_f y1 ⟨rfl, I0⟩⟩⟩)
    · have hn : w (nI j).toNatClampNeg = 0 := by rw [ec]; exact ed_z (K.2.2.2.1 j) hw
      exact ed_xpr0 hc hj hw (br_t rfl (ed_ybad0 hc hj (br_t rfl ⟨hi, br_t hn ⟨rfl, I0⟩⟩)))
theorem i_vc_stay {k : Nat} {u : SX} {v : SY} (I : i_Rel k u v) (hk : k + 3 ≤ 1539) (v1 : Int32) : wpX_stay (fun r u' => wpY_stay (fun r' v' => r' = r ∧ i_Rel (k + 3) u' v') v v1) u v1 := by
  have I0 := I
  obtain ⟨c, h, q, l, w, ax, sx, mx, lg, ay, sy, my, hs, rfl, rfl, K⟩ := I
  have hc := K.1
  unfold wpX_stay wpY_stay
  rcases ed_ix v1 hc with hb | ⟨j, hj, rfl⟩
  · exact ed_xbad1 hb (br_f (by decide) (ed_ybad1 hb (br_f (by decide) ⟨rfl, I0⟩)))
  · have hi : vp_in (nI j) 32 := vp_in_nI (by omega) (by omega)
    have ec : (nI j).toNatClampNeg = j := nI_clamp (by omega)
    refine ed_xbad0 hc hj (br_t rfl ?_)
    by_cases hw : 0 < w j
    · obtain ⟨e1, e2, e3⟩ := K.2.2.2.2.2.1 j hw
      have hn : ¬ w (nI j).toNatClampNeg = 0 := by rw [ec]; exact ed_nz hw
      refine ed_xpr1 hc hj hw (br_f (by decide) ⟨hi, ?_⟩)
      refine br_c (fun z1 => ?_) (fun z1 => ⟨hi, nm_e ?_⟩)
      · have y1 : my (nI j).toNatClampNeg = 0 := by rw [ec] at z1 ⊢; rw [← e3]; exact z1
        exact ed_ybad0 hc hj (br_t rfl ⟨hi, br_f hn ⟨hi, br_t y1 ⟨rfl, I0⟩⟩⟩)
      · have y1 : ¬ my (nI j).toNatClampNeg = 0 := by rw [ec] at z1 ⊢; rw [← e3]; exact z1
        refine ed_ybad0 hc hj (br_t rfl ⟨hi, br_f hn ⟨hi, br_f y1 ⟨hi, nm_e ⟨rfl, ?_⟩⟩⟩⟩)
        rw [ed_nar0]
        exact ed_R rfl (ed_K_m K (Or.inl rfl))
    · have hn : w (nI j).toNatClampNeg = 0 := by rw [ec]; exact ed_z (K.2.2.2.1 j) hw
      exact ed_xpr0 hc hj hw (br_t rfl (ed_ybad0 hc hj (br_t rfl ⟨hi, br_t hn ⟨rfl, I0⟩⟩)))
theorem i_vc_reweigh {k : Nat} {u : SX} {v : SY} (I : i_Rel k u v) (hk : k + 3 ≤ 1539) (v1 : Int32) (v2 : Int32) : wpX_reweigh (fun r u' => wpY_reweigh (fun r' v' => r' = r ∧ i_Rel (k + 3) u' v') v v1 v2) u v1 v2 := by
  have I0 := I
  obtain ⟨c, h, q, l, w, ax, sx, mx, lg, ay, sy, my, hs, rfl, rfl, K⟩ := I
  have hc := K.1
  unfold wpX_reweigh wpY_reweigh
  rcases ed_ix v1 hc with hb | ⟨j, hj, rfl⟩
  · exact ed_xbad1 hb (br_f (by decide) (ed_ybad1 hb (br_f (by decide) ⟨rfl, I0⟩)))
  · have hi : vp_in (nI j) 32 := vp_in_nI (by omega) (by omega)
    have ec : (nI j).toNatClampNeg = j := nI_clamp (by omega)
    refine ed_xbad0 hc hj (br_t rfl ?_)
    by_cases hw : 0 < w j
    · obtain ⟨e1, e2, e3⟩ := K.2.2.2.2.2.1 j hw
      have hn : ¬ w (nI j).toNatClampNeg = 0 := by rw [ec]; exact ed_nz hw
      refine ed_xpr1 hc hj hw (br_f (by decide) (ed_xbw (fun z => br_f (by decide) ?_) (fun z1 z2 => br_t rfl ⟨hi, br_c (fun z3 => ⟨hi, nm_e (br_c (fun z4 => ⟨hi, nm_e ?_⟩) (fun z4 => ?_))⟩) (fun z3 => ?_)⟩)))
      · refine ed_ybad0 hc hj (br_t rfl ⟨hi, br_f hn ?_⟩)
        exact br_c (fun _ => ⟨rfl, I0⟩) (fun y => br_f (fun y2 => z.elim y (fun y3 => y3 y2)) ⟨rfl, I0⟩)
      · have y3 : ay (nI j).toNatClampNeg = 0 := by rw [ec] at z3 ⊢; rw [← e1]; exact z3
        refine ed_ybad0 hc hj (br_t rfl ⟨hi, br_f hn (br_f z1 (br_t z2 ⟨hi, br_t y3 (ed_ytw hc ⟨hi, br_t z4 ⟨hi, nm_e ⟨rfl, ?_⟩⟩⟩)⟩))⟩)
        rw [ec]
        refine ed_R ?_ (ed_K_w K (x := v2) (p := j) (fun y => z1 (Int32.lt_trans y (by decide))) K.2.2.2.2.1 (fun i hi => ⟨rfl, rfl, rfl, rfl, rfl, rfl⟩) (fun _ => ⟨e1, e2, e3⟩))
        rw [ed_sum_in hj]
      · have y3 : ay (nI j).toNatClampNeg = 0 := by rw [ec] at z3 ⊢; rw [← e1]; exact z3
        exact ed_ybad0 hc hj (br_t rfl ⟨hi, br_f hn (br_f z1 (br_t z2 ⟨hi, br_t y3 (ed_ytw hc ⟨hi, br_f z4 ⟨rfl, I0⟩⟩)⟩))⟩)
      · have y3 : ¬ ay (nI j).toNatClampNeg = 0 := by rw [ec] at z3 ⊢; rw [← e1]; exact z3
        exact ed_ybad0 hc hj (br_t rfl ⟨hi, br_f hn (br_f z1 (br_t z2 ⟨hi, br_f y3 ⟨rfl, I0⟩⟩))⟩)
    · have hn : w (nI j).toNatClampNeg = 0 := by rw [ec]; exact ed_z (K.2.2.2.1 j) hw
      exact ed_xpr0 hc hj hw (br_t rfl (ed_ybad0 hc hj (br_t rfl ⟨hi, br_t hn ⟨rfl, I0⟩⟩)))
end
