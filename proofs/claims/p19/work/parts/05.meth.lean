/-! the class's methods keep the invariant, whatever they are called with -/
section
variable {c l h q : Nat} {w : Nat → Int32} {a : Nat → Int64} {s m g : Nat → Int32}
theorem dl_Vm (V : dl_V c l h q w a m) {m' : Nat → Int32} (hm : ∀ j, m' j = 0 ∨ m' j = 1) : dl_V c l h q w a m' :=
  ⟨V.1, V.2.1, V.2.2.1, V.2.2.2.1, V.2.2.2.2.1, hm, V.2.2.2.2.2.2⟩
theorem dl_mk {p : Nat} {x : Int32} (hm : ∀ j, m j = 0 ∨ m j = 1) (hx : x = 0 ∨ x = 1) : ∀ j, upd m p x j = 0 ∨ upd m p x j = 1 := fun j => by
  by_cases e : j = p
  · rw [e, pk_us]; exact hx
  · rw [pk_un e]; exact hm j
theorem dl_mjoin {post : Int32 → St2 → Prop} (V : dl_V c l h q w a m) (H : ∀ r q w a s m g, dl_V c l h q w a m → post r (nI c, nI l, nI h, ed_sum w c, nI q, w, a, s, m, g)) (x y : Int32) : wpX_join post (nI c, nI l, nI h, ed_sum w c, nI q, w, a, s, m, g) x y := by
  have hc := V.1
  have hl := V.2.1
  have H0 := fun r => H r q w a s m g V
  unfold wpX_join
  rcases ed_ix x hc with hb | ⟨j, hj, rfl⟩
  · exact ed_xbad1 hb (br_f (by decide) (H0 _))
  · have hi : vp_in (nI j) 32 := vp_in_nI (by omega) (by omega)
    have ec : (nI j).toNatClampNeg = j := nI_clamp (by omega)
    refine ed_xbad0 hc hj (br_t rfl ?_)
    by_cases hw : 0 < w j
    · exact ed_xpr1 hc hj hw (br_f (by decide) (H0 _))
    · refine ed_xpr0 hc hj hw (br_t rfl (ed_xbw (fun z => br_f (by decide) (H0 _)) (fun z1 z2 => br_t rfl (br_c (fun z3 => ?_) (fun z3 => H0 _)))))
      have hy : ¬ y < 0 := fun z => z1 (Int32.lt_trans z (by decide))
      refine ⟨hi, nm_e ⟨hi, nm_e ⟨hi, nm_e ⟨hi, nm_e (nm_e ?_)⟩⟩⟩⟩
      rw [ec]
      have es : ed_sum w c + y = ed_sum (upd w j y) c := by rw [ed_sum_in hj, ed_z (V.2.2.2.2.1 j) hw, Int32.sub_zero]
      rw [es]
      refine H _ _ _ _ _ _ _ (dl_Vw V hj hy (Or.inl hw) (fun i hi => pk_uLn hi) pk_uLs (dl_mk V.2.2.2.2.2.1 (Or.inl rfl)) ?_)
      obtain ⟨k, hk, rfl⟩ := nI_of2 (M := nI l) (n := l) (nI_toInt (by omega)) hy z2
      have h36 := V.2.2.2.2.2.2.1
      rw [dl_sumN V.2.2.2.2.1, nI_add, nI_leI (by omega) (by omega)] at z3
      rw [nI_clamp (by omega)]
      omega
theorem dl_mleave {post : Int32 → St2 → Prop} (V : dl_V c l h q w a m) (H : ∀ r q w a s m g, dl_V c l h q w a m → post r (nI c, nI l, nI h, ed_sum w c, nI q, w, a, s, m, g)) (x : Int32) : wpX_leave post (nI c, nI l, nI h, ed_sum w c, nI q, w, a, s, m, g) x := by
  have hc := V.1
  have H0 := fun r => H r q w a s m g V
  unfold wpX_leave
  rcases ed_ix x hc with hb | ⟨j, hj, rfl⟩
  · exact ed_xbad1 hb (br_f (by decide) (H0 _))
  · have hi : vp_in (nI j) 32 := vp_in_nI (by omega) (by omega)
    have ec : (nI j).toNatClampNeg = j := nI_clamp (by omega)
    refine ed_xbad0 hc hj (br_t rfl ?_)
    by_cases hw : 0 < w j
    · refine ed_xpr1 hc hj hw (br_f (by decide) ⟨hi, br_c (fun z1 => ⟨hi, br_c (fun z2 => ?_) (fun z2 => ⟨hi, nm_e ?_⟩)⟩) (fun z1 => H0 _)⟩)
      · rw [ec] at z2
        refine ed_xab hc hj ?_
        have es : ed_sum w c - w j = ed_sum (upd w j 0) c := by rw [ed_sum_in hj, Int32.add_zero]
        rw [es]
        refine H _ _ _ _ _ _ _ (dl_Vw V hj (by decide) (Or.inr z2) (fun i hi => rfl) z2 V.2.2.2.2.2.1 ?_)
        have h36 := V.2.2.2.2.2.2.1
        have e0 : (0 : Int32).toNatClampNeg = 0 := rfl
        omega
      · exact H _ _ _ _ _ _ _ (dl_Vm V (dl_mk V.2.2.2.2.2.1 (Or.inr rfl)))
    · exact ed_xpr0 hc hj hw (br_t rfl (H0 _))
theorem dl_mstay {post : Int32 → St2 → Prop} (V : dl_V c l h q w a m) (H : ∀ r q w a s m g, dl_V c l h q w a m → post r (nI c, nI l, nI h, ed_sum w c, nI q, w, a, s, m, g)) (x : Int32) : wpX_stay post (nI c, nI l, nI h, ed_sum w c, nI q, w, a, s, m, g) x := by
  have hc := V.1
  have H0 := fun r => H r q w a s m g V
  unfold wpX_stay
  rcases ed_ix x hc with hb | ⟨j, hj, rfl⟩
  · exact ed_xbad1 hb (br_f (by decide) (H0 _))
  · have hi : vp_in (nI j) 32 := vp_in_nI (by omega) (by omega)
    refine ed_xbad0 hc hj (br_t rfl ?_)
    by_cases hw : 0 < w j
    · exact ed_xpr1 hc hj hw (br_f (by decide) ⟨hi, br_c (fun z1 => H0 _) (fun z1 => ⟨hi, nm_e (H _ _ _ _ _ _ _ (dl_Vm V (dl_mk V.2.2.2.2.2.1 (Or.inl rfl))))⟩)⟩)
    · exact ed_xpr0 hc hj hw (br_t rfl (H0 _))
theorem dl_mrew {post : Int32 → St2 → Prop} (V : dl_V c l h q w a m) (H : ∀ r q w a s m g, dl_V c l h q w a m → post r (nI c, nI l, nI h, ed_sum w c, nI q, w, a, s, m, g)) (x y : Int32) : wpX_reweigh post (nI c, nI l, nI h, ed_sum w c, nI q, w, a, s, m, g) x y := by
  have hc := V.1
  have hl := V.2.1
  have H0 := fun r => H r q w a s m g V
  unfold wpX_reweigh
  rcases ed_ix x hc with hb | ⟨j, hj, rfl⟩
  · exact ed_xbad1 hb (br_f (by decide) (H0 _))
  · have hi : vp_in (nI j) 32 := vp_in_nI (by omega) (by omega)
    have ec : (nI j).toNatClampNeg = j := nI_clamp (by omega)
    refine ed_xbad0 hc hj (br_t rfl ?_)
    by_cases hw : 0 < w j
    · refine ed_xpr1 hc hj hw (br_f (by decide) (ed_xbw (fun z => br_f (by decide) (H0 _)) (fun z1 z2 => br_t rfl ⟨hi, br_c (fun z3 => ⟨hi, nm_e (br_c (fun z4 => ⟨hi, nm_e ?_⟩) (fun z4 => H0 _))⟩) (fun z3 => H0 _)⟩)))
      rw [ec] at z3 z4 ⊢
      have hy : ¬ y < 0 := fun z => z1 (Int32.lt_trans z (by decide))
      have es : ed_sum w c - w j + y = ed_sum (upd w j y) c := (ed_sum_in hj).symm
      rw [es]
      refine H _ _ _ _ _ _ _ (dl_Vw V hj hy (Or.inr z3) (fun i hi => rfl) z3 V.2.2.2.2.2.1 ?_)
      obtain ⟨k, hk, rfl⟩ := nI_of2 (M := nI l) (n := l) (nI_toInt (by omega)) hy z2
      have h36 := V.2.2.2.2.2.2.1
      have hge := dl_sn_ge (f := dl_w w) hj
      rw [dl_sumN V.2.2.2.2.1, (dl_wn (V.2.2.2.2.1 j)).1, pk_sub hge, nI_add, nI_leI (by omega) (by omega)] at z4
      rw [nI_clamp (by omega)]
      omega
    · exact ed_xpr0 hc hj hw (br_t rfl (H0 _))
end
theorem dl_mrun_l {c l h N : Nat} {post : Int32 → St2 → Prop} (hN : N ≤ 64) (H : ∀ r q w a s m g, dl_V c l h q w a m → post r (nI c, nI l, nI h, ed_sum w c, nI q, w, a, s, m, g)) :
    ∀ (d i q : Nat) (w : Nat → Int32) (a : Nat → Int64) (s m g : Nat → Int32), i + d = N → dl_V c l h q w a m → wX_run_16 post (nI N) (d + 1) (nI i) (nI c) (nI l) (nI h) (ed_sum w c) (nI q) w a s m g := by
  intro d
  induction d with
  | zero =>
    intro i q w a s m g hi V
    have e : i = N := by omega
    rw [e]
    exact br_t (nI_le (Nat.le_refl N) (by omega)) (H _ _ _ _ _ _ _ V)
  | succ d ih =>
    intro i q w a s m g hi V
    have hc := V.1
    have hh := V.2.2.1
    refine br_f (nI_ge (by omega) (by omega)) (ed_xbest hc ?_)
    rcases dl_bs_min w a 0 c hc with ⟨e, _⟩ | ⟨p, hp, e, hw, ha, hmin⟩
    · exact br_t (by rw [e]; decide) (H _ _ _ _ _ _ _ V)
    · rw [e]
      refine br_f (nI_pos (by omega)) (br_c (fun _ => H _ _ _ _ _ _ _ V) (fun hW => br_c (fun hq => ?_) (fun _ => H _ _ _ _ _ _ _ V)))
      have hqh := V.2.2.2.1
      rw [nI_ltI (by omega) (by omega)] at hq
      have hWz : ¬ (ed_sum w c).toInt64 = 0 := ed_nz64 (Int32.lt_of_lt_of_le (by decide : (0 : Int32) < 1) (Int32.not_lt.mp hW))
      exact ed_xgq hc (by omega) hp hw hWz rfl (nm_r (nI_1 i) (ih (i + 1) (q + 1) _ _ _ _ _ (by omega) (dl_Vq V hq hp hw ha hmin)))
section
variable {c l h q : Nat} {w : Nat → Int32} {a : Nat → Int64} {s m g : Nat → Int32}
theorem dl_mrun {post : Int32 → St2 → Prop} (V : dl_V c l h q w a m) (H : ∀ r q w a s m g, dl_V c l h q w a m → post r (nI c, nI l, nI h, ed_sum w c, nI q, w, a, s, m, g)) (x : Int32) : wpX_run post (nI c, nI l, nI h, ed_sum w c, nI q, w, a, s, m, g) x := by
  unfold wpX_run
  refine br_c (fun _ => H _ _ _ _ _ _ _ V) (fun z => br_c (fun z2 => ?_) (fun _ => H _ _ _ _ _ _ _ V))
  obtain ⟨N, hN, rfl⟩ := nI_of2 (M := 64) (n := 64) (by decide) (fun y => z (Int32.lt_trans y (by decide))) z2
  exact ⟨N + 1, dl_mrun_l hN H N 0 q w a s m g (by omega) V⟩
theorem dl_qw {post : Int32 → Prop} {W hz q' l' : Int32} (hc : c ≤ 32) (H : ∀ r, post r) (x : Int32) : wpX_weight post (nI c, l', hz, W, q', w, a, s, m, g) x := by
  unfold wpX_weight
  rcases ed_ix x hc with hb | ⟨j, hj, rfl⟩
  · exact ed_xprb hb (br_t rfl (H _))
  · have hi : vp_in (nI j) 32 := vp_in_nI (by omega) (by omega)
    by_cases hw : 0 < w j
    · exact ed_xpr1 hc hj hw (br_f (by decide) ⟨hi, H _⟩)
    · exact ed_xpr0 hc hj hw (br_t rfl (H _))
theorem dl_qle {post : Int32 → Prop} {W hz q' l' : Int32} (hc : c ≤ 32) (H : ∀ r, post r) (x : Int32) : wpX_leaving post (nI c, l', hz, W, q', w, a, s, m, g) x := by
  unfold wpX_leaving
  rcases ed_ix x hc with hb | ⟨j, hj, rfl⟩
  · exact ed_xprb hb (br_t rfl (H _))
  · have hi : vp_in (nI j) 32 := vp_in_nI (by omega) (by omega)
    by_cases hw : 0 < w j
    · exact ed_xpr1 hc hj hw (br_f (by decide) ⟨hi, br_c (fun _ => H _) (fun _ => H _)⟩)
    · exact ed_xpr0 hc hj hw (br_t rfl (H _))
theorem dl_qlag {post : Int64 → Prop} {W hz q' l' : Int32} (hc : c ≤ 32) (H : ∀ r, post r) (x : Int32) : wpX_lag post (nI c, l', hz, W, q', w, a, s, m, g) x := by
  unfold wpX_lag
  rcases ed_ix x hc with hb | ⟨j, hj, rfl⟩
  · exact ed_xprb hb (br_t rfl (H _))
  · have hi : vp_in (nI j) 32 := vp_in_nI (by omega) (by omega)
    by_cases hw : 0 < w j
    · exact ed_xpr1 hc hj hw (br_f (by decide) ⟨hi, hi, H _⟩)
    · exact ed_xpr0 hc hj hw (br_t rfl (H _))
theorem dl_qw1 {post : Int32 → Prop} {W hz q' l' : Int32} {j : Nat} (hc : c ≤ 32) (hj : j < c) (h1 : 0 < w j → post (w j)) (h0 : ¬ 0 < w j → post 0) : wpX_weight post (nI c, l', hz, W, q', w, a, s, m, g) (nI j) := by
  have hi : vp_in (nI j) 32 := vp_in_nI (by omega) (by omega)
  unfold wpX_weight
  by_cases hw : 0 < w j
  · refine ed_xpr1 hc hj hw (br_f (by decide) ⟨hi, ?_⟩)
    rw [nI_clamp (by omega)]
    exact h1 hw
  · exact ed_xpr0 hc hj hw (br_t rfl (h0 hw))
theorem dl_qlag1 {post : Int64 → Prop} {W hz q' l' : Int32} {j : Nat} (hc : c ≤ 32) (hj : j < c) (hw : 0 < w j) (hp : post (-((w j).toInt64 * a j))) : wpX_lag post (nI c, l', hz, W, q', w, a, s, m, g) (nI j) := by
  have hi : vp_in (nI j) 32 := vp_in_nI (by omega) (by omega)
  unfold wpX_lag
  refine ed_xpr1 hc hj hw (br_f (by decide) ⟨hi, hi, ?_⟩)
  rw [nI_clamp (by omega)]
  exact hp
end
