/-! the law's walk -/
theorem dl_cell {post : Int32 → Prop} {L : Nat} {xs : Nat → Int32} {x : Int32} (k : Nat) (hL : L ≤ 260) (H : ∀ r, post r) (hx : x = nI k) (hk : k < 2 ^ 31) : wpL_cell post L xs () x := by
  subst hx
  exact pk_le L k (fun _ => H _) (fun z => ⟨vp_in_nI z (by omega), H _⟩)
theorem dl_mod {post : Int32 → Prop} {x y : Int32} (hy : ¬ y = 0) (H : ∀ r, post r) : wpL_mod post () x y := ⟨hy, H _⟩
theorem dl_modv {post : Int32 → Prop} {x : Int32} (M : Nat) (h0 : 0 < M) (hM : M < 2 ^ 31) (H : ∀ j, j < M → post (nI j)) : wpL_mod post () x (nI M) := by
  refine ⟨nI_ne0 h0 hM, ?_⟩
  rw [pk_and x 31 (by decide), pk_rem (Nat.mod_lt _ (by decide)) h0 hM]
  exact H _ (Nat.mod_lt _ h0)
section
variable {c l h q : Nat} {w : Nat → Int32} {a : Nat → Int64} {s m g : Nat → Int32} {post : Int32 → Prop} {L : Nat} {xs : Nat → Int32} {kc ks : Nat} {x1 x6 x7 x8 x13 x14 x15 x16 x17 x18 x19 x20 x21 z0 : Int32}
variable {J : Int32 → Int32 → Int32 → Int32 → Int32 → Int32 → (Nat → Int32) → (Nat → Int64) → (Nat → Int32) → (Nat → Int32) → (Nat → Int32) → Prop} {K : Int32 → Int32 → Int32 → Prop}
theorem dl_556 (H : ∀ y z, K y z (x19 + 1)) : wL_law_556 post L xs J K x1 x6 x7 x8 x13 x14 x15 x16 x17 x18 x19 x20 kc ks (nI c) (nI l) (nI h) (ed_sum w c) (nI q) w a s m g := by
  unfold wL_law_556
  exact br_c (fun _ => nm_e (H _ _)) (fun _ => nm_e (H _ _))
theorem dl_457 (H : ∀ y z, K y z (x19 + 1)) : wL_law_457 post L xs J K x1 x6 x7 x8 x13 x14 x15 x16 x17 x19 x20 z0 kc ks (nI c) (nI l) (nI h) (ed_sum w c) (nI q) w a s m g := by
  unfold wL_law_457
  exact dl_556 H
theorem dl_495 (H : ∀ y z, K y z (x19 + 1)) : wL_law_495 post L xs J K x1 x6 x7 x8 x13 x14 x15 x16 x17 x19 x20 z0 kc ks (nI c) (nI l) (nI h) (ed_sum w c) (nI q) w a s m g := by
  unfold wL_law_495
  exact dl_556 H
theorem dl_535 (H : ∀ y z, K y z (x19 + 1)) : wL_law_535 post L xs J K x1 x6 x7 x8 x13 x14 x15 x16 x17 x19 x20 z0 kc ks (nI c) (nI l) (nI h) (ed_sum w c) (nI q) w a s m g := by
  unfold wL_law_535
  exact dl_556 H
theorem dl_447 (H : ∀ y z, K y z (x19 + 1)) : wL_law_447 post L xs J K x1 x6 x7 x8 x13 x14 x15 x16 x17 x19 x20 x21 kc ks (nI c) (nI l) (nI h) (ed_sum w c) (nI q) w a s m g := by
  unfold wL_law_447
  exact br_c (fun _ => dl_457 H) (fun _ => dl_457 H)
theorem dl_494 (H : ∀ y z, K y z (x19 + 1)) : wL_law_494 post L xs J K x1 x6 x7 x8 x13 x14 x15 x16 x17 x19 x20 kc ks (nI c) (nI l) (nI h) (ed_sum w c) (nI q) w a s m g := by
  unfold wL_law_494
  exact dl_495 H
theorem dl_534 (H : ∀ y z, K y z (x19 + 1)) : wL_law_534 post L xs J K x1 x6 x7 x8 x13 x14 x15 x16 x17 x19 x20 kc ks (nI c) (nI l) (nI h) (ed_sum w c) (nI q) w a s m g := by
  unfold wL_law_534
  exact dl_535 H
theorem dl_475 (hc : c ≤ 32) (H : ∀ y z, K y z (x19 + 1)) : wL_law_475 post L xs J K x1 x6 x7 x8 x13 x14 x15 x16 x17 x19 x20 x21 kc ks (nI c) (nI l) (nI h) (ed_sum w c) (nI q) w a s m g := by
  unfold wL_law_475
  exact br_c (fun _ => dl_494 H) (fun _ => dl_qle hc (fun r => br_c (fun _ => dl_495 H) (fun _ => dl_494 H)) _)
theorem dl_513 (hc : c ≤ 32) (H : ∀ y z, K y z (x19 + 1)) : wL_law_513 post L xs J K x1 x6 x7 x8 x13 x14 x15 x16 x17 x19 x20 x21 kc ks (nI c) (nI l) (nI h) (ed_sum w c) (nI q) w a s m g := by
  unfold wL_law_513
  exact br_c (fun _ => dl_534 H) (fun _ => dl_qlag hc (fun r => br_c (fun _ => dl_535 H) (fun _ => dl_534 H)) _)
theorem dl_432 (hc : c ≤ 32) (H : ∀ y z, K y z (x19 + 1)) : wL_law_432 post L xs J K x1 x6 x7 x8 x13 x14 x15 x16 x17 x18 x19 x20 z0 kc ks (nI c) (nI l) (nI h) (ed_sum w c) (nI q) w a s m g := by
  unfold wL_law_432
  exact br_c (fun _ => dl_447 H) (fun _ => br_c (fun _ => dl_447 H) (fun _ => br_c (fun _ => dl_475 hc H) (fun _ => br_c (fun _ => dl_475 hc H) (fun _ => br_c (fun _ => dl_513 hc H) (fun _ => br_c (fun _ => dl_513 hc H) (fun _ => br_c (fun _ => dl_qle hc (fun r => dl_556 H) _) (fun _ => dl_556 H)))))))
theorem dl_632 (V : dl_V c l h q w a m) (HJ : ∀ q w a s m g, dl_V c l h q w a m → J (x8 + 1) (nI c) (nI l) (nI h) (ed_sum w c) (nI q) w a s m g) : wL_law_632 post L xs J x1 x6 x7 x8 x17 kc ks (nI c) (nI l) (nI h) (ed_sum w c) (nI q) w a s m g := by
  unfold wL_law_632
  exact dl_mleave V (fun r q w a s m g V x ex => by subst ex; exact HJ q w a s m g V) _
theorem dl_656 (V : dl_V c l h q w a m) (HJ : ∀ q w a s m g, dl_V c l h q w a m → J (x8 + 1) (nI c) (nI l) (nI h) (ed_sum w c) (nI q) w a s m g) : wL_law_656 post L xs J x1 x6 x7 x8 x16 x17 kc ks (nI c) (nI l) (nI h) (ed_sum w c) (nI q) w a s m g := by
  unfold wL_law_656
  exact ⟨by decide, dl_mrew V (fun r q w a s m g V x ex => by subst ex; exact HJ q w a s m g V) _ _⟩
theorem dl_705 (V : dl_V c l h q w a m) (HJ : ∀ q w a s m g, dl_V c l h q w a m → J (x8 + 1) (nI c) (nI l) (nI h) (ed_sum w c) (nI q) w a s m g) : wL_law_705 post L xs J x1 x6 x7 x8 x16 kc ks (nI c) (nI l) (nI h) (ed_sum w c) (nI q) w a s m g := by
  unfold wL_law_705
  exact ⟨by decide, dl_mrun V (fun r q w a s m g V x ex => by subst ex; exact HJ q w a s m g V) _⟩
theorem dl_571 (V : dl_V c l h q w a m) (HJ : ∀ q w a s m g, dl_V c l h q w a m → J (x8 + 1) (nI c) (nI l) (nI h) (ed_sum w c) (nI q) w a s m g) : wL_law_571 post L xs J x1 x6 x7 x8 x13 x15 x16 x17 kc ks (nI c) (nI l) (nI h) (ed_sum w c) (nI q) w a s m g := by
  unfold wL_law_571
  refine br_c (fun _ => ⟨by decide, dl_mjoin V (fun r q w a s m g V x ex => by subst ex; exact HJ q w a s m g V) _ _⟩) (fun _ => br_c (fun _ => ⟨by decide, dl_mjoin V (fun r q w a s m g V x ex => by subst ex; exact HJ q w a s m g V) _ _⟩) (fun _ => ?_))
  refine br_c (fun _ => dl_632 V HJ) (fun _ => br_c (fun _ => dl_632 V HJ) (fun _ => br_c (fun _ => dl_656 V HJ) (fun _ => br_c (fun _ => dl_656 V HJ) (fun _ => ?_))))
  refine br_c (fun _ => dl_mstay V (fun r q w a s m g V x ex => by subst ex; exact HJ q w a s m g V) _) (fun _ => br_c (fun _ => dl_705 V HJ) (fun _ => br_c (fun _ => dl_705 V HJ) (fun _ => br_c (fun _ => ⟨by decide, dl_mrun V (fun r q w a s m g V x ex => by subst ex; exact HJ q w a s m g V) _⟩) (fun _ => ?_))))
  refine br_c (fun _ => ⟨by decide, by decide, nm_e ⟨by decide, ?_⟩⟩) (fun _ => br_c (fun _ => ⟨by decide, ?_⟩) (fun _ => dl_mrun V (fun r q w a s m g V x ex => by subst ex; exact HJ q w a s m g V) _))
  · exact br_c (fun _ => dl_mjoin V (fun r q w a s m g V x ex => by subst ex; exact HJ q w a s m g V) _ _) (fun _ => ⟨by decide, br_c (fun _ => dl_mrew V (fun r q w a s m g V x ex => by subst ex; exact HJ q w a s m g V) _ _) (fun _ => ⟨by decide, br_c (fun _ => dl_mleave V (fun r q w a s m g V x ex => by subst ex; exact HJ q w a s m g V) _) (fun _ => dl_mstay V (fun r q w a s m g V x ex => by subst ex; exact HJ q w a s m g V) _)⟩)⟩)
  · unfold wpX_bestWithin
    exact ed_xbest V.1 (nm_e (HJ q w a s m g V))
theorem dl_397 (V : dl_V c l h q w a m) (HJ : ∀ q w a s m g, dl_V c l h q w a m → J (x8 + 1) (nI c) (nI l) (nI h) (ed_sum w c) (nI q) w a s m g) (h0 : 0 < c) : ∀ (d i : Nat) (y z : Int32), i + d = c → wL_law_397 post L xs J (nI c) x6 x7 x8 x13 x14 x15 x16 kc ks (nI c) (nI l) (nI h) (ed_sum w c) (nI q) w a s m g (d + 1) y z (nI i) := by
  have hc := V.1
  intro d
  induction d with
  | zero =>
    intro i y z hi
    have e : i = c := by omega
    rw [e]
    exact br_t (nI_le (Nat.le_refl c) (by omega)) (dl_571 V HJ)
  | succ d ih =>
    intro i y z hi
    have H : ∀ y z, wL_law_397 post L xs J (nI c) x6 x7 x8 x13 x14 x15 x16 kc ks (nI c) (nI l) (nI h) (ed_sum w c) (nI q) w a s m g (d + 1) y z (nI i + 1) := fun y z => by
      rw [nI_1]
      exact ih (i + 1) y z (by omega)
    exact br_f (nI_ge (by omega) (by omega)) (br_c (fun _ => ⟨nI_ne0 h0 (by omega), nm_e (dl_qw hc (fun r => br_c (fun _ => dl_432 hc H) (fun _ => dl_432 hc H)) _)⟩) (fun _ => dl_571 V HJ))
theorem dl_256 {k : Nat} (hk : k ≤ 200) (hL : L ≤ 260) (h0 : 0 < c) (V : dl_V c l h q w a m) (HJ : ∀ q w a s m g, dl_V c l h q w a m → J (nI k + 1) (nI c) (nI l) (nI h) (ed_sum w c) (nI q) w a s m g) : wL_law_256 post L xs J (nI c) x6 x7 (nI k) kc ks (nI c) (nI l) (nI h) (ed_sum w c) (nI q) w a s m g := by
  have hc := V.1
  unfold wL_law_256
  refine br_c (fun z6 => br_c (fun _ => ?_) (fun _ => br_c (fun _ => nm_e (HJ q w a s m g V)) (fun _ => dl_mrun V (fun r q w a s m g V x ex => by subst ex; exact HJ q w a s m g V) _))) (fun _ => ?_)
  · have h6 : 6 ≤ k := (nI_leI (a := 6) (by decide) (by omega)).mp z6
    have e : (9 : Int32) + 3 * (nI k - 6) = nI (9 + 3 * (k - 6)) := by
      have e1 : nI k - 6 = nI (k - 6) := pk_sub (b := 6) h6
      have e2 : (3 : Int32) * nI (k - 6) = nI (3 * (k - 6)) := pk_mul 3 (k - 6)
      have e3 : (9 : Int32) + nI (3 * (k - 6)) = nI (9 + 3 * (k - 6)) := nI_add 9 _
      rw [e1, e2, e3]
    have ea : ∀ t : Nat, nI (9 + 3 * (k - 6)) + nI t = nI (9 + 3 * (k - 6) + t) := fun t => nI_add _ t
    have ec : nI c + 2 = nI (c + 2) := nI_add c 2
    refine nm_r e (dl_cell _ hL (fun r1 => dl_mod (by decide) (fun r2 => dl_cell _ hL (fun r3 => dl_mod (nI_ne0 h0 (by omega)) (fun r4 => dl_cell _ hL (fun r5 => dl_mod ?_ (fun r6 => nm_e (dl_cell _ hL (fun r7 => dl_mod (by decide) (fun r8 => ⟨c + 1, dl_397 V HJ h0 c 0 _ _ (by omega)⟩)) (ea 2) (by omega)))) (ea 1) (by omega))) (ea 1) (by omega))) rfl (by omega))
    rw [ec]
    exact nI_ne0 (by omega) (by omega)
  · exact dl_cell (3 + k) hL (fun r1 => dl_mod (by decide) (fun r2 => dl_mjoin V (fun r q w a s m g V x ex => by subst ex; exact HJ q w a s m g V) _ _)) (nI_add 3 k) (by omega)
theorem dl_125 (V : dl_V c l h q w a m) (HG : wL_law_256 post L xs J (nI c) x6 x7 x8 kc ks (nI c) (nI l) (nI h) (ed_sum w c) (nI q) w a s m g) : ∀ (d i : Nat) (x9 : Int64), i + d = c → x9.toInt = -dl_sm (fun j => (dl_w w j : Int) * dl_a a j) i → (-(144403552893600 * (i : Int)) ≤ x9.toInt ∧ x9.toInt ≤ 144403552893600 * (i : Int)) → wL_law_125 post L xs J (nI c) x6 x7 x8 kc ks (nI c) (nI l) (nI h) (ed_sum w c) (nI q) w a s m g (d + 1) x9 (nI i) := by
  have hc := V.1
  have hN := V.2.2.2.2.1
  have hU : (144403552893600 : Int64).toInt = 144403552893600 := by decide
  have hU' : (-144403552893600 : Int64).toInt = -144403552893600 := by decide
  have hz : (0 : Int64).toInt = 0 := by decide
  intro d
  induction d with
  | zero =>
    intro i x9 hi hs _
    have e : i = c := by omega
    rw [e] at hs ⊢
    have h9 : x9 = 0 := by
      apply Int64.toInt_inj.mp
      rw [hs, V.2.2.2.2.2.2.2.1]
      rfl
    refine br_t (nI_le (Nat.le_refl c) (by omega)) (br_t h9 ?_)
    have hW := dl_sumN hN c
    have hW36 := V.2.2.2.2.2.2.1
    unfold wpX_next
    refine ed_xbest hc ?_
    show (ed_sum w c ≤ 0 → _) ∧ (¬ ed_sum w c ≤ 0 → _)
    by_cases h0 : dl_sn (dl_w w) c = 0
    · have hno := dl_Vno V h0
      have e1 : (ed_bs w a 0 c).1 = -1 := by
        rcases dl_bs_min w a 0 c hc with ⟨e, _⟩ | ⟨p, hp, _, hw, _⟩
        · exact e
        · exact absurd hw (hno p hp)
      have e2 : ed_ct w a c = 0 := by
        obtain ⟨k, _, e, hk⟩ := dl_ct w a c
        rw [e, hk.mpr (fun i hi z => hno i hi z.1)]
        exact nI_0
      exact br_t (by rw [hW, h0]; decide) (br_t e1 (ed_xel hc (br_t e2 HG)))
    · have hpos : ¬ ed_sum w c ≤ 0 := by
        rw [hW]
        exact nI_nle (by omega) (by omega)
      obtain ⟨j, hj, hwj, haj⟩ := dl_Vel V (by omega)
      rcases dl_bs_min w a 0 c hc with ⟨_, hn⟩ | ⟨p, hp, e, hw, ha, _⟩
      · exact absurd ⟨hwj, haj⟩ (hn j hj)
      · have e3 : 1 ≤ ed_ct w a c := by
          obtain ⟨k, hk1, e, hk⟩ := dl_ct w a c
          have hk0 : k ≠ 0 := fun z => hk.mp z p hp ⟨hw, ha⟩
          rw [e]
          exact nI_le (a := 1) (by omega) (by omega)
        rw [e]
        refine br_f hpos (dl_qw1 hc hp (fun _ => br_f (Int32.not_le.mpr hw) (dl_qlag1 hc hp hw (br_f ?_ (ed_xel hc (br_t e3 HG))))) (fun z => absurd hw z))
        rw [Int64.lt_iff_toInt_lt, (dl_Vlag V hp).1, hz]
        have h1 : (dl_w w p : Int) * dl_a a p ≤ (dl_w w p : Int) * 0 := dl_mm (by
          have := Int64.le_iff_toInt_le.mp ha
          rw [hz] at this
          exact this)
        rw [Int.mul_zero] at h1
        omega
  | succ d ih =>
    intro i x9 hi hs hb
    have hic : i < c := by omega
    obtain ⟨hl1, hl2, hl3⟩ := dl_Vlag V hic
    have es : dl_sm (fun j => (dl_w w j : Int) * dl_a a j) (i + 1) = dl_sm (fun j => (dl_w w j : Int) * dl_a a j) i + (dl_w w i : Int) * dl_a a i := rfl
    refine br_f (nI_ge (by omega) (by omega)) (dl_qw1 hc hic (fun hw => br_f (Int32.not_le.mpr hw) (dl_qlag1 hc hic hw (br_f ?_ (br_t ?_ (nm_e (nm_r (nI_1 i) (ih (i + 1) _ (by omega) ?_ ?_))))))) (fun hw => br_t (by decide) (nm_r (nI_1 i) (ih (i + 1) x9 (by omega) ?_ ?_))))
    · rw [Int64.le_iff_toInt_le, hl1, hU']; omega
    · rw [Int64.lt_iff_toInt_lt, hl1, hU]; omega
    · rw [dl_lA (by rw [hl1]; omega) (by rw [hl1]; omega), hl1, hs, es]; omega
    · rw [dl_lA (by rw [hl1]; omega) (by rw [hl1]; omega), hl1]; omega
    · have hz0 : dl_w w i = 0 := by
        by_cases e : dl_w w i = 0
        · exact e
        · exact absurd ((dl_wp (hN i)).mpr (by omega)) hw
      rw [es, hs, hz0, show ((0 : Nat) : Int) * dl_a a i = 0 from Int.zero_mul _]; omega
    · omega
end

theorem dl_112 {c l h T : Nat} {L : Nat} {xs : Nat → Int32} {kc ks : Nat} {x6 : Int32} (hL : L ≤ 260) (hT : T ≤ 190) (h0 : 0 < c) : ∀ (d k q : Nat) (w : Nat → Int32) (a : Nat → Int64) (s m g : Nat → Int32), k + d = T + 1 → dl_V c l h q w a m → wL_law_112 (fun r => r = 1) L xs (nI c) x6 (nI T) kc ks (d + 1) (nI k) (nI c) (nI l) (nI h) (ed_sum w c) (nI q) w a s m g := by
  intro d
  induction d with
  | zero =>
    intro k q w a s m g hk V
    exact br_t (nI_lt (by omega) (by omega)) rfl
  | succ d ih =>
    intro k q w a s m g hk V
    refine br_f (nI_nlt (by omega) (by omega)) ⟨c + 1, dl_125 V (dl_256 (by omega) hL h0 V (fun q w a s m g V' => ?_)) c 0 0 (by omega) rfl (by decide)⟩
    rw [nI_1]
    exact ih (k + 1) q w a s m g (by omega) V'
theorem dl_97 {c l h S : Nat} {L : Nat} {xs : Nat → Int32} {kc ks : Nat} {z0 : Int32} (hL : L ≤ 260) (hS : S ≤ 100) (hz : z0 = nI S) (h0 : 0 < c) (hc : c ≤ 32) (hl : l ≤ 36) (hh : h ≤ 30000) : wL_law_97 (fun r => r = 1) L xs (nI c) z0 kc ks (nI c) (nI l) (nI h) 0 0 (fun _ => 0) (fun _ => 0) (fun _ => 0) (fun _ => 0) (fun _ => 0) := by
  have V : dl_V c l h 0 (fun _ => 0) (fun _ => 0) (fun _ => 0) := by
    have ez : ∀ n, dl_sn (dl_w (fun _ => 0)) n = 0 := fun n => by
      induction n with
      | zero => rfl
      | succ n ih =>
        show dl_sn (dl_w (fun _ => 0)) n + 0 = 0
        rw [ih]
    refine ⟨hc, hl, hh, Nat.zero_le h, fun _ => by show ¬ (0 : Int32) < 0; decide, fun _ => Or.inl rfl, ?_, dl_I_0 (fun _ _ => rfl)⟩
    rw [ez]
    exact Nat.zero_le _
  have es : ∀ n, ed_sum (fun _ => 0) n = 0 := fun n => by
    induction n with
    | zero => rfl
    | succ n ih =>
      show ed_sum (fun _ => 0) n + 0 = 0
      rw [ih]; rfl
  have e : (6 : Int32) + z0 + 48 = nI (6 + S + 48) := by
    have e1 : (6 : Int32) + nI S = nI (6 + S) := nI_add 6 S
    have e2 : nI (6 + S) + (48 : Int32) = nI (6 + S + 48) := nI_add (6 + S) 48
    rw [hz, e1, e2]
  unfold wL_law_97
  refine nm_r e ⟨6 + S + 48 + 1 + 1, ?_⟩
  have t := dl_112 (xs := xs) (kc := kc) (ks := ks) (x6 := z0) (T := 6 + S + 48) hL (by omega) h0 (6 + S + 48 + 1) 0 0 (fun _ => 0) (fun _ => 0) (fun _ => 0) (fun _ => 0) (fun _ => 0) (by omega) V
  rw [es] at t
  exact t
theorem dl_clamp {post : Int32 → Prop} {k n : Nat} (h1 : 1 ≤ k) (h2 : k ≤ n) (hn : n < 2 ^ 31) (hp : post (nI k)) : wpX_clamp post () (nI k) (nI n) :=
  br_t (nI_le (a := 1) h1 (by omega)) (br_t (nI_le h2 hn) hp)
theorem dl_64 {c l h : Nat} {L : Nat} {xs : Nat → Int32} (hL : L ≤ 260) (h0 : 0 < c) (hc : c ≤ 32) (hl0 : 0 < l) (hl : l ≤ 36) (hh0 : 0 < h) (hh : h ≤ 30000) : wL_law_64 (fun r => r = 1) L xs (nI c) (nI l) (nI h) 0 0 := by
  unfold wL_law_64
  refine ⟨by decide, by decide, 5, 192, by decide, by decide, ?_⟩
  unfold wpX_init
  refine ⟨by decide, by decide, by decide, by decide, by decide, by decide, by decide, by decide, by decide, by decide, dl_clamp h0 hc (by decide) (dl_clamp hl0 hl (by decide) (dl_clamp hh0 hh (by decide) ?_))⟩
  refine pk_le L 9 (fun _ => dl_97 (S := 0) hL (by omega) rfl h0 hc hl hh) (fun z => ⟨by decide, dl_97 (S := (L - 7) / 3) hL (by omega) ?_ h0 hc hl hh⟩)
  have e1 : nI L - 7 = nI (L - 7) := pk_sub (b := 7) (by omega)
  have e2 : nI (L - 7) / 3 = nI ((L - 7) / 3) := pk_div (d := 3) (by omega) (by omega) (by omega)
  show (nI L - 7) / 3 = _
  rw [e1, e2]
theorem i_vc (xs : Nat → Int32) (L : Nat) (hL : L ≤ 260) : wpL_law (fun r => r = 1) L xs := by
  unfold wpL_law
  refine dl_cell 0 hL (fun r1 => dl_modv 29 (by decide) (by decide) (fun j1 h1 => nm_r (nI_add 4 j1) ?_)) rfl (by decide)
  refine dl_cell 1 hL (fun r4 => dl_modv 25 (by decide) (by decide) (fun j2 h2 => nm_r (pk_sub (a := 36) (b := j2) (by omega)) ?_)) rfl (by decide)
  refine dl_cell 2 hL (fun r7 => dl_modv 1000 (by decide) (by decide) (fun j3 h3 => ⟨by decide, br_c (fun _ => ⟨by decide, ?_⟩) (fun _ => ?_)⟩)) rfl (by decide)
  · have e1 : nI j3 - nI j3 / 300 * 300 = nI (j3 % 300) := pk_rem (d := 300) (by omega) (by omega) (by omega)
    have e2 : (20 : Int32) + nI (j3 % 300) = nI (20 + j3 % 300) := nI_add 20 _
    rw [e1, e2]
    exact dl_64 hL (by omega) (by omega) (by omega) (by omega) (by omega) (by omega)
  · have e1 : (30000 : Int32) - nI j3 = nI (30000 - j3) := pk_sub (a := 30000) (by omega)
    rw [e1]
    exact dl_64 hL (by omega) (by omega) (by omega) (by omega) (by omega) (by omega)
