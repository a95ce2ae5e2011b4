/-! run in lockstep: one answer and two related states, whatever is asked behind -/
theorem ed_run {c h N : Nat} {l : Int32} (hN : N ≤ 64) : ∀ (d i q : Nat) (w : Nat → Int32) (ax : Nat → Int64) (sx mx lg : Nat → Int32) (ay : Nat → Int64) (sy my hs : Nat → Int32), i + d = N → ed_K c h q w ax sx mx lg ay sy my hs →
    ∃ (r : Int32) (u' : SX) (v' : SY), i_Rel 0 u' v' ∧ (∀ post : Int32 → SX → Prop, post r u' → wX_run_16 post (nI N) (d + 1) (nI i) (nI c) l (nI h) (ed_sum w c) (nI q) w ax sx mx lg)
      ∧ (∀ post : Int32 → SY → Prop, post r v' → wY_run_18 post (nI N) (d + 1) (nI i) (nI i) (nI c) l (nI h) (nI q) w ay sy my hs) := by
  intro d
  induction d with
  | zero =>
    intro i q w ax sx mx lg ay sy my hs hi K
    have e : i = N := by omega
    rw [e]
    exact ⟨nI N, _, _, ed_R rfl K, fun post hp => br_t (nI_le (Nat.le_refl N) (by omega)) hp, fun post hp => br_t (nI_le (Nat.le_refl N) (by omega)) hp⟩
  | succ d ih =>
    intro i q w ax sx mx lg ay sy my hs hi K
    obtain ⟨hc, hh, hq, hN0, hM, hP, hL⟩ := K
    have K : ed_K c h q w ax sx mx lg ay sy my hs := ⟨hc, hh, hq, hN0, hM, hP, hL⟩
    have hg : ¬ nI N ≤ nI i := nI_ge (by omega) (by omega)
    have eb : ed_bs w ay 0 c = ed_bs w ax 0 c := ed_bs_congr (fun j hj => ((hP j hj).1).symm)
    have stop : (∀ post : Int32 → SX → Prop, post (nI i) (nI c, l, nI h, ed_sum w c, nI q, w, ax, sx, mx, lg) → wX_run_16 post (nI N) (d + 1 + 1) (nI i) (nI c) l (nI h) (ed_sum w c) (nI q) w ax sx mx lg) →
        (∀ post : Int32 → SY → Prop, post (nI i) (nI c, l, nI h, nI q, w, ay, sy, my, hs) → wY_run_18 post (nI N) (d + 1 + 1) (nI i) (nI i) (nI c) l (nI h) (nI q) w ay sy my hs) →
        ∃ (r : Int32) (u' : SX) (v' : SY), i_Rel 0 u' v' ∧ (∀ post : Int32 → SX → Prop, post r u' → wX_run_16 post (nI N) (d + 1 + 1) (nI i) (nI c) l (nI h) (ed_sum w c) (nI q) w ax sx mx lg)
          ∧ (∀ post : Int32 → SY → Prop, post r v' → wY_run_18 post (nI N) (d + 1 + 1) (nI i) (nI i) (nI c) l (nI h) (nI q) w ay sy my hs) := fun hX hY => ⟨nI i, _, _, ed_R rfl K, hX, hY⟩
    rcases ed_bs_in w ax 0 c with en | ⟨p, hp, ep, hwp, hap⟩
    · refine stop (fun post hp => br_f hg (ed_xbest hc ?_)) (fun post hp => br_f hg (ed_ytw hc (br_c (fun _ => hp) (fun _ => br_c (fun _ => ed_ybest hc ?_) (fun _ => hp)))))
      · exact br_t (by rw [en]; decide) hp
      · exact br_t (by rw [eb, en]; decide) hp
    · have hpos : ¬ nI p < 0 := nI_pos (by omega)
      have hv : vp_in (nI p) 32 := vp_in_nI (by omega) (by omega)
      have ec : (nI p).toNatClampNeg = p := nI_clamp (by omega)
      by_cases hW : ed_sum w c < 1
      · refine stop (fun post hp => br_f hg (ed_xbest hc ?_)) (fun post hp => br_f hg (ed_ytw hc (br_t hW hp)))
        rw [ep]
        exact br_f hpos (br_t hW hp)
      · by_cases hqh : q < h
        · have hqh' : nI q < nI h := nI_lt hqh (by omega)
          have hWz : ¬ (ed_sum w c).toInt64 = 0 := ed_nz64 (Int32.lt_of_lt_of_le (by decide : (0 : Int32) < 1) (Int32.not_lt.mp hW))
          have h1w : 1 ≤ w p := by
            have z := Int32.lt_iff_toInt_lt.mp hwp
            rw [Int32.le_iff_toInt_le]
            rw [show (0 : Int32).toInt = 0 from by decide] at z
            rw [show (1 : Int32).toInt = 1 from by decide]
            omega
          have ha1 : ∀ j, 0 < w j → vp_updL ax p (ax p + 144403552893600 / (w p).toInt64) j = vp_updL ay p (ay p + 144403552893600 / (w p).toInt64) j := fun j hj => by
            by_cases e : j = p
            · rw [e, pk_uLs, pk_uLs, (hP p hwp).1]
            · rw [pk_uLn e, pk_uLn e, (hP j hj).1]
          have ha2 : ∀ j, 0 < w j → ed_mv w (vp_updL ax p (ax p + 144403552893600 / (w p).toInt64)) (144403552893600 / (ed_sum w c).toInt64) c j = ed_mv w (vp_updL ay p (ay p + 144403552893600 / (w p).toInt64)) (144403552893600 / (ed_sum w c).toInt64) c j := fun j hj => by
            unfold ed_mv
            rw [ha1 j hj]
          have hs1 : ∀ j, 0 < w j → upd sx p (sx p + 1) j = upd sy p (sy p + 1) j := fun j hj => by
            by_cases e : j = p
            · rw [e, pk_us, pk_us, (hP p hwp).2.1]
            · rw [pk_un e, pk_un e, (hP j hj).2.1]
          have K2 := ed_K_q K hqh ha2 hs1 (nI p)
          have ew : ∀ f : Nat → Int32, ed_cl w (ed_mv w (vp_updL ay p (ay p + 144403552893600 / (w p).toInt64)) (144403552893600 / (ed_sum w c).toInt64) c) my f c = ed_cl w (ed_mv w (vp_updL ax p (ax p + 144403552893600 / (w p).toInt64)) (144403552893600 / (ed_sum w c).toInt64) c) mx f c := fun f => ed_cl_congr (fun j hj => ⟨(ha2 j hj).symm, ((hP j hj).2.2).symm⟩)
          obtain ⟨r, u', v', hR, hX, hY⟩ := ih (i + 1) (q + 1) _ _ _ _ _ _ _ _ _ (by omega) K2
          refine ⟨r, u', v', hR, fun post hp => br_f hg (ed_xbest hc ?_), fun post hp => br_f hg (ed_ytw hc (br_f hW (br_t hqh' (ed_ybest hc ?_))))⟩
          · rw [ep]
            refine br_f hpos (br_f hW (br_t hqh' (ed_xgq hc (by omega) (by omega) hwp hWz rfl ?_)))
            exact nm_r (nI_1 i) (hX post hp)
          · rw [eb, ep]
            refine br_f hpos ⟨hv, ?_⟩
            rw [ec]
            refine br_t h1w ⟨hv, hv, ed_nz64 hwp, hv, nm_e ⟨hv, hv, nm_e ⟨c + 1, ?_⟩⟩⟩
            have t := hY post hp
            rw [← ew w] at t
            have t2 := ed_y109_l (post := post) (J := wY_run_18 post (nI N) (d + 1)) (l := l) (hz := nI h) (x1 := nI N) (x2 := nI i) (x3 := nI i) (g := hs) (j := p) (n := q) (s := upd sy p (sy p + 1)) (m := my) hc (by omega) hWz rfl (by rw [nI_1]; exact t) c 0 (by omega)
            rw [ed_mv_0] at t2
            exact t2
        · have hqh' : ¬ nI q < nI h := nI_nlt (by omega) (by omega)
          refine stop (fun post hp => br_f hg (ed_xbest hc ?_)) (fun post hp => br_f hg (ed_ytw hc (br_f hW (br_f hqh' hp))))
          rw [ep]
          exact br_f hpos (br_f hW (br_f hqh' hp))
theorem i_vc_run {k : Nat} {u : SX} {v : SY} (I : i_Rel k u v) (hk : k + 3 ≤ 1539) (v1 : Int32) : wpX_run (fun r u' => wpY_run (fun r' v' => r' = r ∧ i_Rel (k + 3) u' v') v v1) u v1 := by
  have I0 := I
  obtain ⟨c, h, q, l, w, ax, sx, mx, lg, ay, sy, my, hs, rfl, rfl, K⟩ := I
  unfold wpX_run wpY_run
  refine br_c (fun z => br_t z ⟨rfl, I0⟩) (fun z => br_c (fun z2 => ?_) (fun z2 => br_f z (br_f z2 ⟨rfl, I0⟩)))
  obtain ⟨N, hN, rfl⟩ := nI_of2 (M := 64) (n := 64) (by decide) (fun y => z (Int32.lt_trans y (by decide))) z2
  obtain ⟨r, u', v', hR, hX, hY⟩ := ed_run (l := l) hN N 0 q w ax sx mx lg ay sy my hs (by omega) K
  exact ⟨N + 1, hX _ (br_f z (br_t z2 ⟨N + 1, hY _ ⟨rfl, hR⟩⟩))⟩
theorem i_vc_next {k : Nat} {u : SX} {v : SY} (I : i_Rel k u v) (hk : k + 3 ≤ 1539) : wpX_next (fun r => wpY_next (fun r' => r' = r ∧ i_Rel (k + 3) u v) v) u := by
  have I0 := I
  obtain ⟨c, h, q, l, w, ax, sx, mx, lg, ay, sy, my, hs, rfl, rfl, K⟩ := I
  unfold wpX_next wpY_next
  exact ed_xbest K.1 (ed_ybest K.1 ⟨by rw [ed_bs_congr (fun j hj => (K.2.2.2.2.2.1 j hj).1)], I0⟩)
theorem i_vc_bestWithin {k : Nat} {u : SX} {v : SY} (I : i_Rel k u v) (hk : k + 3 ≤ 1539) (a0 : Int64) : wpX_bestWithin (fun r => wpY_bestWithin (fun r' => r' = r ∧ i_Rel (k + 3) u v) v a0) u a0 := by
  have I0 := I
  obtain ⟨c, h, q, l, w, ax, sx, mx, lg, ay, sy, my, hs, rfl, rfl, K⟩ := I
  unfold wpX_bestWithin
  exact ed_xbest K.1 (ed_ybest K.1 ⟨by rw [ed_bs_congr (fun j hj => (K.2.2.2.2.2.1 j hj).1)], I0⟩)
theorem i_vc_eligible {k : Nat} {u : SX} {v : SY} (I : i_Rel k u v) (hk : k + 3 ≤ 1539) : wpX_eligible (fun r => wpY_eligible (fun r' => r' = r ∧ i_Rel (k + 3) u v) v) u := by
  have I0 := I
  obtain ⟨c, h, q, l, w, ax, sx, mx, lg, ay, sy, my, hs, rfl, rfl, K⟩ := I
  exact ed_xel K.1 (ed_yel K.1 ⟨by rw [ed_ct_congr (fun j hj => (K.2.2.2.2.2.1 j hj).1)], I0⟩)
theorem i_vc_lag {k : Nat} {u : SX} {v : SY} (I : i_Rel k u v) (hk : k + 3 ≤ 1539) (v1 : Int32) : wpX_lag (fun r => wpY_lag (fun r' => r' = r ∧ i_Rel (k + 3) u v) v v1) u v1 := by
  have I0 := I
  obtain ⟨c, h, q, l, w, ax, sx, mx, lg, ay, sy, my, hs, rfl, rfl, K⟩ := I
  have hc := K.1
  unfold wpX_lag wpY_lag
  rcases ed_ix v1 hc with hb | ⟨j, hj, rfl⟩
  · exact ed_xprb hb (br_t rfl (ed_ybad1 hb (br_f (by decide) ⟨rfl, I0⟩)))
  · have hi : vp_in (nI j) 32 := vp_in_nI (by omega) (by omega)
    have ec : (nI j).toNatClampNeg = j := nI_clamp (by omega)
    by_cases hw : 0 < w j
    · obtain ⟨e1, e2, e3⟩ := K.2.2.2.2.2.1 j hw
      refine ed_xpr1 hc hj hw (br_f (by decide) ⟨hi, hi, ed_ybad0 hc hj (br_t rfl ⟨hi, br_f ?_ ⟨hi, hi, ?_, I0⟩⟩)⟩)
      · rw [ec]; exact ed_nz hw
      · rw [ec, e1]
    · have hn : w (nI j).toNatClampNeg = 0 := by rw [ec]; exact ed_z (K.2.2.2.1 j) hw
      exact ed_xpr0 hc hj hw (br_t rfl (ed_ybad0 hc hj (br_t rfl ⟨hi, br_t hn ⟨rfl, I0⟩⟩)))
theorem i_vc_deadline {k : Nat} {u : SX} {v : SY} (I : i_Rel k u v) (hk : k + 3 ≤ 1539) (v1 : Int32) : wpX_deadline (fun r => wpY_deadline (fun r' => r' = r ∧ i_Rel (k + 3) u v) v v1) u v1 := by
  have I0 := I
  obtain ⟨c, h, q, l, w, ax, sx, mx, lg, ay, sy, my, hs, rfl, rfl, K⟩ := I
  have hc := K.1
  unfold wpX_deadline wpY_deadline
  rcases ed_ix v1 hc with hb | ⟨j, hj, rfl⟩
  · exact ed_xprb hb (br_t rfl (ed_ybad1 hb (br_f (by decide) ⟨rfl, I0⟩)))
  · have hi : vp_in (nI j) 32 := vp_in_nI (by omega) (by omega)
    have ec : (nI j).toNatClampNeg = j := nI_clamp (by omega)
    by_cases hw : 0 < w j
    · obtain ⟨e1, e2, e3⟩ := K.2.2.2.2.2.1 j hw
      refine ed_xpr1 hc hj hw (br_f (by decide) (ed_xdl hc hj hw (ed_ybad0 hc hj (br_t rfl ⟨hi, br_t ?_ ⟨hi, hi, ?_, ?_, I0⟩⟩))))
      · rw [ec]
        have z := Int32.lt_iff_toInt_lt.mp hw
        rw [Int32.le_iff_toInt_le]
        rw [show (0 : Int32).toInt = 0 from by decide] at z
        rw [show (1 : Int32).toInt = 1 from by decide]
        omega
      · rw [ec]; exact ed_nz64 hw
      · rw [ec, e1]
    · refine ed_xpr0 hc hj hw (br_t rfl (ed_ybad0 hc hj (br_t rfl ⟨hi, br_f ?_ ⟨rfl, I0⟩⟩)))
      rw [ec]
      exact fun z => hw (Int32.lt_of_lt_of_le (by decide : (0 : Int32) < 1) z)
theorem i_vc_weight {k : Nat} {u : SX} {v : SY} (I : i_Rel k u v) (hk : k + 3 ≤ 1539) (v1 : Int32) : wpX_weight (fun r => wpY_weight (fun r' => r' = r ∧ i_Rel (k + 3) u v) v v1) u v1 := by
  have I0 := I
  obtain ⟨c, h, q, l, w, ax, sx, mx, lg, ay, sy, my, hs, rfl, rfl, K⟩ := I
  have hc := K.1
  unfold wpX_weight wpY_weight
  rcases ed_ix v1 hc with hb | ⟨j, hj, rfl⟩
  · exact ed_xprb hb (br_t rfl (ed_ybad1 hb (br_f (by decide) ⟨rfl, I0⟩)))
  · have hi : vp_in (nI j) 32 := vp_in_nI (by omega) (by omega)
    have ec : (nI j).toNatClampNeg = j := nI_clamp (by omega)
    by_cases hw : 0 < w j
    · exact ed_xpr1 hc hj hw (br_f (by decide) ⟨hi, ed_ybad0 hc hj (br_t rfl ⟨hi, rfl, I0⟩)⟩)
    · have hn : w (nI j).toNatClampNeg = 0 := by rw [ec]; exact ed_z (K.2.2.2.1 j) hw
      exact ed_xpr0 hc hj hw (br_t rfl (ed_ybad0 hc hj (br_t rfl ⟨hi, hn, I0⟩)))
theorem i_vc_served {k : Nat} {u : SX} {v : SY} (I : i_Rel k u v) (hk : k + 3 ≤ 1539) (v1 : Int32) : wpX_served (fun r => wpY_served (fun r' => r' = r ∧ i_Rel (k + 3) u v) v v1) u v1 := by
  have I0 := I
  obtain ⟨c, h, q, l, w, ax, sx, mx, lg, ay, sy, my, hs, rfl, rfl, K⟩ := I
  have hc := K.1
  unfold wpX_served wpY_served
  rcases ed_ix v1 hc with hb | ⟨j, hj, rfl⟩
  · exact ed_xprb hb (br_t rfl (ed_ybad1 hb (br_f (by decide) ⟨rfl, I0⟩)))
  · have hi : vp_in (nI j) 32 := vp_in_nI (by omega) (by omega)
    have ec : (nI j).toNatClampNeg = j := nI_clamp (by omega)
    by_cases hw : 0 < w j
    · obtain ⟨e1, e2, e3⟩ := K.2.2.2.2.2.1 j hw
      refine ed_xpr1 hc hj hw (br_f (by decide) ⟨hi, ed_ybad0 hc hj (br_t rfl ⟨hi, br_f ?_ ⟨hi, ?_, I0⟩⟩)⟩)
      · rw [ec]; exact ed_nz hw
      · rw [ec, e2]
    · have hn : w (nI j).toNatClampNeg = 0 := by rw [ec]; exact ed_z (K.2.2.2.1 j) hw
      exact ed_xpr0 hc hj hw (br_t rfl (ed_ybad0 hc hj (br_t rfl ⟨hi, br_t hn ⟨rfl, I0⟩⟩)))
theorem i_vc_leaving {k : Nat} {u : SX} {v : SY} (I : i_Rel k u v) (hk : k + 3 ≤ 1539) (v1 : Int32) : wpX_leaving (fun r => wpY_leaving (fun r' => r' = r ∧ i_Rel (k + 3) u v) v v1) u v1 := by
  have I0 := I
  obtain ⟨c, h, q, l, w, ax, sx, mx, lg, ay, sy, my, hs, rfl, rfl, K⟩ := I
  have hc := K.1
  unfold wpX_leaving wpY_leaving
  rcases ed_ix v1 hc with hb | ⟨j, hj, rfl⟩
  · exact ed_xprb hb (br_t rfl (ed_ybad1 hb (br_f (by decide) ⟨rfl, I0⟩)))
  · have hi : vp_in (nI j) 32 := vp_in_nI (by omega) (by omega)
    have ec : (nI j).toNatClampNeg = j := nI_clamp (by omega)
    by_cases hw : 0 < w j
    · obtain ⟨e1, e2, e3⟩ := K.2.2.2.2.2.1 j hw
      have hn : ¬ w (nI j).toNatClampNeg = 0 := by rw [ec]; exact ed_nz hw
      refine ed_xpr1 hc hj hw (br_f (by decide) ⟨hi, ?_⟩)
      rcases K.2.2.2.2.1 j with hm | hm
      · have y : my (nI j).toNatClampNeg = 0 := by rw [ec, ← e3]; exact hm
        refine br_t (by rw [ec]; exact hm) (ed_ybad0 hc hj (br_t rfl ⟨hi, br_f hn ⟨hi, ?_⟩⟩))
        rw [y]
        exact ⟨rfl, rfl, I0⟩
      · have y : my (nI j).toNatClampNeg = 1 := by rw [ec, ← e3]; exact hm
        refine br_f (by rw [ec, hm]; decide) (ed_ybad0 hc hj (br_t rfl ⟨hi, br_f hn ⟨hi, ?_⟩⟩))
        rw [y]
        exact ⟨rfl, rfl, I0⟩
    · have hn : w (nI j).toNatClampNeg = 0 := by rw [ec]; exact ed_z (K.2.2.2.1 j) hw
      exact ed_xpr0 hc hj hw (br_t rfl (ed_ybad0 hc hj (br_t rfl ⟨hi, br_t hn ⟨rfl, I0⟩⟩)))
theorem i_vc_totalWeight {k : Nat} {u : SX} {v : SY} (I : i_Rel k u v) (hk : k + 3 ≤ 1539) : wpX_totalWeight (fun r => wpY_totalWeight (fun r' => r' = r ∧ i_Rel (k + 3) u v) v) u := by
  have I0 := I
  obtain ⟨c, h, q, l, w, ax, sx, mx, lg, ay, sy, my, hs, rfl, rfl, K⟩ := I
  exact ed_ytw K.1 ⟨rfl, I0⟩
theorem i_vc_clock {k : Nat} {u : SX} {v : SY} (I : i_Rel k u v) (hk : k + 3 ≤ 1539) : wpX_clock (fun r => wpY_clock (fun r' => r' = r ∧ i_Rel (k + 3) u v) v) u := by
  have I0 := I
  obtain ⟨c, h, q, l, w, ax, sx, mx, lg, ay, sy, my, hs, rfl, rfl, K⟩ := I
  exact ⟨rfl, I0⟩
theorem i_vc_ranAt {k : Nat} {u : SX} {v : SY} (I : i_Rel k u v) (hk : k + 3 ≤ 1539) (v1 : Int32) : wpX_ranAt (fun r => wpY_ranAt (fun r' => r' = r ∧ i_Rel (k + 3) u v) v v1) u v1 := by
  have I0 := I
  obtain ⟨c, h, q, l, w, ax, sx, mx, lg, ay, sy, my, hs, rfl, rfl, K⟩ := I
  obtain ⟨hc, hh, hq, _, _, _, hL⟩ := K
  unfold wpX_ranAt wpY_ranAt
  refine br_c (fun z => br_t z ⟨rfl, I0⟩) (fun z => ?_)
  obtain ⟨b, hb, rfl⟩ := nI_of z
  by_cases h64 : 64 ≤ b
  · exact br_t (nI_le (a := 64) h64 hb) (br_f z (br_t (nI_lt (a := 63) (by omega) hb) ⟨rfl, I0⟩))
  · refine br_f (nI_ge (b := 64) (by omega) (by decide)) ?_
    have h63 : ¬ (63 : Int32) < nI b := nI_nlt (a := 63) (by omega) (by decide)
    by_cases hbq : b < q
    · have e1 : nI q - 1 - nI b = nI (q - 1 - b) := by
        have e := pk_sub (a := q) (b := 1) (by omega)
        have e0 : nI q - 1 = nI (q - 1) := e
        rw [e0, pk_sub (by omega)]
      have er : nI (q - 1 - b) - nI (q - 1 - b) / 64 * 64 = nI ((q - 1 - b) % 64) := pk_rem (d := 64) (by omega) (by omega) (by omega)
      have hlt : nI b < nI q := nI_lt hbq (by omega)
      refine br_t hlt ⟨by decide, ?_⟩
      dsimp only
      rw [e1, er, nI_clamp (by omega)]
      refine ⟨vp_in_nI (by omega) (by omega), br_f z (br_f h63 (br_t hlt ⟨vp_in_nI (by omega) (by omega), ?_, I0⟩))⟩
      rw [nI_clamp (by omega)]
      exact (hL (q - 1 - b) (by omega) (by omega)).symm
    · have hlt : ¬ nI b < nI q := nI_nlt (by omega) (by omega)
      exact br_f hlt (br_f z (br_f h63 (br_f hlt ⟨rfl, I0⟩)))
