/-! the class's arrays as numbers -/
def dl_w (w : Nat → Int32) : Nat → Nat := fun j => (w j).toNatClampNeg
def dl_a (a : Nat → Int64) : Nat → Int := fun j => (a j).toInt
/-- the sum of the weights as a natural number -/
def dl_sn (f : Nat → Nat) : Nat → Nat
  | 0 => 0
  | n + 1 => dl_sn f n + f n
theorem dl_sn_sm (f : Nat → Nat) (n : Nat) : dl_sm (fun i => (f i : Int)) n = (dl_sn f n : Nat) := by
  induction n with
  | zero => rfl
  | succ n ih =>
    show dl_sm (fun i => (f i : Int)) n + (f n : Int) = ((dl_sn f n + f n : Nat) : Int)
    rw [ih]; omega
theorem dl_sn_ge {f : Nat → Nat} {n j : Nat} (hj : j < n) : f j ≤ dl_sn f n := by
  induction n with
  | zero => omega
  | succ n ih =>
    show f j ≤ dl_sn f n + f n
    by_cases e : j = n
    · rw [e]; omega
    · have := ih (by omega)
      omega
theorem dl_sn_zero {f : Nat → Nat} {n : Nat} (h : dl_sn f n = 0) : ∀ i, i < n → f i = 0 := fun i hi => by
  have := dl_sn_ge (f := f) hi
  omega
theorem dl_sn_congr {f g : Nat → Nat} {n : Nat} (h : ∀ i, i < n → f i = g i) : dl_sn f n = dl_sn g n := by
  induction n with
  | zero => rfl
  | succ n ih =>
    show dl_sn f n + f n = dl_sn g n + g n
    rw [ih (fun i hi => h i (by omega)), h n (by omega)]
theorem dl_sn_le {f g : Nat → Nat} {n : Nat} (h : ∀ i, i < n → f i ≤ g i) : dl_sn f n ≤ dl_sn g n := by
  induction n with
  | zero => exact Nat.le_refl 0
  | succ n ih =>
    show dl_sn f n + f n ≤ dl_sn g n + g n
    have h1 := ih (fun i hi => h i (by omega))
    have h2 := h n (by omega)
    omega
theorem dl_sn_upd {f g : Nat → Nat} {n k : Nat} (hk : k < n) (h : ∀ i, i ≠ k → g i = f i) : dl_sn g n + f k = dl_sn f n + g k := by
  induction n with
  | zero => omega
  | succ n ih =>
    show dl_sn g n + g n + f k = dl_sn f n + f n + g k
    by_cases e : k = n
    · rw [dl_sn_congr (f := g) (g := f) (fun i hi => h i (by omega)), e]; omega
    · have h1 := ih (by omega)
      have h2 := h n (by omega)
      omega
theorem dl_wn {w : Nat → Int32} {j : Nat} (h : ¬ w j < 0) : w j = nI (dl_w w j) ∧ dl_w w j < 2 ^ 31 := by
  obtain ⟨k, hk, e⟩ := nI_of h
  have e2 : dl_w w j = k := by
    show (w j).toNatClampNeg = k
    rw [e, nI_clamp hk]
  rw [e2]
  exact ⟨e, hk⟩
theorem dl_wp {w : Nat → Int32} {j : Nat} (h : ¬ w j < 0) : 0 < w j ↔ 0 < dl_w w j := by
  obtain ⟨e, hk⟩ := dl_wn h
  rw [e, ← nI_0, nI_ltI (by omega) hk]
theorem dl_sumN {w : Nat → Int32} (h : ∀ j, ¬ w j < 0) (n : Nat) : ed_sum w n = nI (dl_sn (dl_w w) n) := by
  induction n with
  | zero => exact nI_0.symm
  | succ n ih =>
    show ed_sum w n + w n = nI (dl_sn (dl_w w) n + dl_w w n)
    rw [ih, ← nI_add, ← (dl_wn (h n)).1]
theorem dl_bm {x : Int} (h1 : -9223372036854775808 ≤ x) (h2 : x < 9223372036854775808) : x.bmod (2 ^ 64) = x := Int.bmod_eq_of_le (by omega) (by omega)
theorem dl_lA {x y : Int64} (h1 : -9223372036854775808 ≤ x.toInt + y.toInt) (h2 : x.toInt + y.toInt < 9223372036854775808) : (x + y).toInt = x.toInt + y.toInt := by rw [Int64.toInt_add, dl_bm h1 h2]
theorem dl_lS {x y : Int64} (h1 : -9223372036854775808 ≤ x.toInt - y.toInt) (h2 : x.toInt - y.toInt < 9223372036854775808) : (x - y).toInt = x.toInt - y.toInt := by rw [Int64.toInt_sub, dl_bm h1 h2]
theorem dl_lM {x y : Int64} (h1 : -9223372036854775808 ≤ x.toInt * y.toInt) (h2 : x.toInt * y.toInt < 9223372036854775808) : (x * y).toInt = x.toInt * y.toInt := by rw [Int64.toInt_mul, dl_bm h1 h2]
theorem dl_lN {x : Int64} (h1 : -9223372036854775808 ≤ -x.toInt) (h2 : -x.toInt < 9223372036854775808) : (-x).toInt = -x.toInt := by rw [Int64.toInt_neg, dl_bm h1 h2]
theorem dl_U64 : (144403552893600 : Int64) = lN 144403552893600 := by decide +kernel
theorem dl_lD {w : Nat} (h0 : 0 < w) (h : w ≤ 36) : ((144403552893600 : Int64) / (nI w).toInt64).toInt = dl_D w := by
  rw [nI_l (by omega), dl_U64, pk_lDiv (by decide) h0 (by omega), pk_lT (Nat.lt_of_le_of_lt (Nat.div_le_self _ _) (by decide))]
  rfl
/-- the invariant of the class's state: weights, advances, marks -/
def dl_V (c l h q : Nat) (w : Nat → Int32) (a : Nat → Int64) (m : Nat → Int32) : Prop :=
  c ≤ 32 ∧ l ≤ 36 ∧ h ≤ 30000 ∧ q ≤ h ∧ (∀ j, ¬ w j < 0) ∧ (∀ j, m j = 0 ∨ m j = 1) ∧ dl_sn (dl_w w) c ≤ 36 ∧ dl_I c (dl_w w) (dl_a a)
section
variable {c l h q : Nat} {w : Nat → Int32} {a : Nat → Int64} {m : Nat → Int32}
theorem dl_V36 (V : dl_V c l h q w a m) : ∀ i, i < c → dl_w w i ≤ 36 := fun i hi => by
  have h1 := V.2.2.2.2.2.2.1
  have h2 := dl_sn_ge (f := dl_w w) hi
  omega
/-- the deadline of a present client, as a number -/
theorem dl_Vd (V : dl_V c l h q w a m) {i : Nat} (hi : i < c) (hw : 0 < w i) : (a i + 144403552893600 / (w i).toInt64).toInt = dl_a a i + dl_D (dl_w w i) ∧ (144403552893600 / (w i).toInt64).toInt = dl_D (dl_w w i) := by
  have hn := V.2.2.2.2.1 i
  have h0 := (dl_wp hn).mp hw
  have h36 := dl_V36 V i hi
  have hb := dl_I_adv V.2.2.2.2.2.2.2 (dl_V36 V) hi h0
  have hD : (144403552893600 / (w i).toInt64).toInt = dl_D (dl_w w i) := by
    rw [(dl_wn hn).1]
    exact dl_lD h0 h36
  have h1 := dl_D0 (dl_w w i)
  have h2 := dl_Dle (dl_w w i)
  have ea : dl_a a i = (a i).toInt := rfl
  rw [ea] at hb
  refine ⟨?_, hD⟩
  rw [dl_lA (by rw [hD]; omega) (by rw [hD]; omega), hD]
  rfl
/-- the choice: none that may be chosen, or the least deadline of those that may -/
theorem dl_bs_min (w : Nat → Int32) (a : Nat → Int64) (al : Int64) (n : Nat) (hn32 : n ≤ 32) : ((ed_bs w a al n).1 = -1 ∧ ∀ i, i < n → ¬ (0 < w i ∧ a i ≤ al)) ∨
    ∃ p, p < n ∧ ed_bs w a al n = (nI p, a p + 144403552893600 / (w p).toInt64) ∧ 0 < w p ∧ a p ≤ al ∧ ∀ i, i < n → 0 < w i → a i ≤ al → a p + 144403552893600 / (w p).toInt64 ≤ a i + 144403552893600 / (w i).toInt64 := by
  induction n with
  | zero => exact Or.inl ⟨rfl, fun i hi => absurd hi (by omega)⟩
  | succ n ih =>
    replace ih := ih (by omega)
    unfold ed_bs
    by_cases h1 : 0 < w n ∧ a n ≤ al
    · rw [if_pos h1]
      rcases ih with ⟨e, hn⟩ | ⟨p, hp, e, h2, h3, h4⟩
      · rw [if_pos (Or.inl (by rw [e]; decide))]
        refine Or.inr ⟨n, by omega, rfl, h1.1, h1.2, fun i hi hw ha => ?_⟩
        by_cases en : i = n
        · rw [en]; exact Int64.le_refl _
        · exact absurd ⟨hw, ha⟩ (hn i (by omega))
      · by_cases h5 : (ed_bs w a al n).1 < 0 ∨ a n + 144403552893600 / (w n).toInt64 < (ed_bs w a al n).2
        · rw [if_pos h5]
          have h6 : a n + 144403552893600 / (w n).toInt64 < a p + 144403552893600 / (w p).toInt64 ∨ nI p < 0 := by
            rw [e] at h5
            exact h5.symm
          refine Or.inr ⟨n, by omega, rfl, h1.1, h1.2, fun i hi hw ha => ?_⟩
          by_cases en : i = n
          · rw [en]; exact Int64.le_refl _
          · rcases h6 with h6 | h6
            · exact Int64.le_trans (Int64.le_of_lt h6) (h4 i (by omega) hw ha)
            · exact absurd h6 (nI_pos (by omega))
        · rw [if_neg h5]
          refine Or.inr ⟨p, by omega, e, h2, h3, fun i hi hw ha => ?_⟩
          by_cases en : i = n
          · rw [en]
            have h7 : ¬ a n + 144403552893600 / (w n).toInt64 < a p + 144403552893600 / (w p).toInt64 := by
              intro z
              refine h5 (Or.inr ?_)
              rw [e]
              exact z
            exact Int64.not_lt.mp h7
          · exact h4 i (by omega) hw ha
    · rw [if_neg h1]
      rcases ih with ⟨e, hn⟩ | ⟨p, hp, e, h2, h3, h4⟩
      · refine Or.inl ⟨e, fun i hi z => ?_⟩
        by_cases en : i = n
        · rw [en] at z; exact h1 z
        · exact hn i (by omega) z
      · refine Or.inr ⟨p, by omega, e, h2, h3, fun i hi hw ha => ?_⟩
        by_cases en : i = n
        · rw [en] at hw ha; exact absurd ⟨hw, ha⟩ h1
        · exact h4 i (by omega) hw ha
theorem dl_ct (w : Nat → Int32) (a : Nat → Int64) (n : Nat) : ∃ k, k ≤ n ∧ ed_ct w a n = nI k ∧ (k = 0 ↔ ∀ i, i < n → ¬ (0 < w i ∧ a i ≤ 0)) := by
  induction n with
  | zero => exact ⟨0, Nat.le_refl 0, nI_0.symm, ⟨fun _ i hi => absurd hi (by omega), fun _ => rfl⟩⟩
  | succ n ih =>
    obtain ⟨k, h1, h2, h3⟩ := ih
    unfold ed_ct
    by_cases h4 : 0 < w n ∧ a n ≤ 0
    · rw [if_pos h4, h2, nI_1]
      exact ⟨k + 1, by omega, rfl, ⟨fun z => absurd z (by omega), fun z => absurd h4 (z n (by omega))⟩⟩
    · rw [if_neg h4]
      refine ⟨k, by omega, h2, ⟨fun z i hi => ?_, fun z => h3.mpr (fun i hi => z i (by omega))⟩⟩
      by_cases en : i = n
      · rw [en]; exact h4
      · exact h3.mp z i (by omega)
/-- with a weight there is one that may be chosen; without one there is none -/
theorem dl_Vel (V : dl_V c l h q w a m) (hW : 0 < dl_sn (dl_w w) c) : ∃ j, j < c ∧ 0 < w j ∧ a j ≤ 0 := by
  obtain ⟨j, h1, h2, h3⟩ := dl_I_el V.2.2.2.2.2.2.2 (by rw [dl_sn_sm]; omega)
  refine ⟨j, h1, (dl_wp (V.2.2.2.2.1 j)).mpr h2, ?_⟩
  rw [Int64.le_iff_toInt_le]
  exact h3
theorem dl_Vno (V : dl_V c l h q w a m) (hW : dl_sn (dl_w w) c = 0) : ∀ i, i < c → ¬ 0 < w i := fun i hi z => by
  have h1 := dl_sn_zero hW i hi
  have h2 := (dl_wp (V.2.2.2.2.1 i)).mp z
  omega
/-- the lag of a present client, as a number -/
theorem dl_Vlag (V : dl_V c l h q w a m) {i : Nat} (hi : i < c) : (-((w i).toInt64 * a i)).toInt = -((dl_w w i : Int) * dl_a a i) ∧ -144403552893600 < (dl_w w i : Int) * dl_a a i ∧ (dl_w w i : Int) * dl_a a i < 144403552893600 := by
  have hn := V.2.2.2.2.1 i
  have hb := dl_I_lag V.2.2.2.2.2.2.2 (dl_V36 V) hi
  have h36 := dl_V36 V i hi
  have ew : (w i).toInt64.toInt = (dl_w w i : Int) := by
    rw [Int32.toInt_toInt64, (dl_wn hn).1]
    exact nI_toInt (by omega)
  have ea : (a i).toInt = dl_a a i := rfl
  have em : ((w i).toInt64 * a i).toInt = (dl_w w i : Int) * dl_a a i := by
    rw [dl_lM (by rw [ew, ea]; omega) (by rw [ew, ea]; omega), ew, ea]
  refine ⟨?_, hb⟩
  rw [dl_lN (by rw [em]; omega) (by rw [em]; omega), em]
/-- the choice's step on the numbers -/
theorem dl_Vq (V : dl_V c l h q w a m) (hq : q < h) {p : Nat} (hp : p < c) (hw : 0 < w p) (ha : a p ≤ 0)
    (hmin : ∀ i, i < c → 0 < w i → a i ≤ 0 → a p + 144403552893600 / (w p).toInt64 ≤ a i + 144403552893600 / (w i).toInt64) :
    dl_V c l h (q + 1) (ed_cl w (ed_mv w (vp_updL a p (a p + 144403552893600 / (w p).toInt64)) (144403552893600 / (ed_sum w c).toInt64) c) m w c) (ed_mv w (vp_updL a p (a p + 144403552893600 / (w p).toInt64)) (144403552893600 / (ed_sum w c).toInt64) c) m := by
  have hN := V.2.2.2.2.1
  have h36 := dl_V36 V
  have hI := V.2.2.2.2.2.2.2
  have hp0 := (dl_wp (hN p)).mp hw
  have hW0 : 0 < dl_sn (dl_w w) c := by
    have := dl_sn_ge (f := dl_w w) hp
    omega
  have hW36 := V.2.2.2.2.2.2.1
  have hS : (144403552893600 / (ed_sum w c).toInt64).toInt = dl_D (dl_sn (dl_w w) c) := by
    rw [dl_sumN hN]
    exact dl_lD hW0 hW36
  have hS0 := dl_D0 (dl_sn (dl_w w) c)
  have hSle := dl_Dle (dl_sn (dl_w w) c)
  have hle : ∀ {x y : Int64}, x ≤ y → x.toInt ≤ y.toInt := fun z => Int64.le_iff_toInt_le.mp z
  have hst := dl_I_step (c := p) (W := dl_sn (dl_w w) c) hI h36 hp hp0 (hle ha) (fun i hi h0 hai => by
    have h1 := hle (hmin i hi ((dl_wp (hN i)).mpr h0) (Int64.le_iff_toInt_le.mpr hai))
    rw [(dl_Vd V hp hw).1, (dl_Vd V hi ((dl_wp (hN i)).mpr h0)).1] at h1
    exact h1) (dl_sn_sm _ _) hW0 hW36
  have hnew : ∀ i, i < c → 0 < w i → dl_a (ed_mv w (vp_updL a p (a p + 144403552893600 / (w p).toInt64)) (144403552893600 / (ed_sum w c).toInt64) c) i = dl_a a i + (if i = p then dl_D (dl_w w p) else 0) - dl_D (dl_sn (dl_w w) c) := by
    intro i hi hwi
    have hb := dl_I_adv hI h36 hi ((dl_wp (hN i)).mp hwi)
    have e1 : ed_mv w (vp_updL a p (a p + 144403552893600 / (w p).toInt64)) (144403552893600 / (ed_sum w c).toInt64) c i = vp_updL a p (a p + 144403552893600 / (w p).toInt64) i - 144403552893600 / (ed_sum w c).toInt64 := if_pos ⟨hi, hwi⟩
    have e2 : (vp_updL a p (a p + 144403552893600 / (w p).toInt64) i).toInt = dl_a a i + (if i = p then dl_D (dl_w w p) else 0) := by
      by_cases e : i = p
      · rw [e, pk_uLs, if_pos rfl]; exact (dl_Vd V hp hw).1
      · rw [pk_uLn e, if_neg e, Int.add_zero]; rfl
    have h1 := dl_D0 (dl_w w p)
    have h2 := dl_Dle (dl_w w p)
    have h3 : 0 ≤ (if i = p then dl_D (dl_w w p) else 0) ∧ (if i = p then dl_D (dl_w w p) else 0) ≤ 144403552893600 := by
      by_cases e : i = p
      · rw [if_pos e]; exact ⟨h1, h2⟩
      · rw [if_neg e]; decide
    show (ed_mv w (vp_updL a p (a p + 144403552893600 / (w p).toInt64)) (144403552893600 / (ed_sum w c).toInt64) c i).toInt = _
    rw [e1, dl_lS (by rw [e2, hS]; omega) (by rw [e2, hS]; omega), e2, hS]
  generalize ed_mv w (vp_updL a p (a p + 144403552893600 / (w p).toInt64)) (144403552893600 / (ed_sum w c).toInt64) c = b at hnew ⊢
  have hwz : ∀ i, ¬ 0 < w i → dl_w w i = 0 := fun i z => by
    have := (dl_wp (hN i)).mpr
    by_cases e : dl_w w i = 0
    · exact e
    · exact absurd (this (by omega)) z
  have hI2 : dl_I c (dl_w w) (dl_a b) := by
    refine dl_I_upd hst (fun i hi => ?_)
    by_cases hwi : 0 < w i
    · exact Or.inl ⟨rfl, hnew i hi hwi⟩
    · exact Or.inr ⟨Or.inl (hwz i hwi), Or.inl (hwz i hwi)⟩
  have hcl : ∀ i, dl_w (ed_cl w b m w c) i = dl_w w i ∨ (dl_w (ed_cl w b m w c) i = 0 ∧ dl_a b i = 0) := by
    intro i
    by_cases hc : i < c ∧ 0 < w i ∧ ¬ m i = 0 ∧ b i = 0
    · have e : ed_cl w b m w c i = 0 := if_pos hc
      refine Or.inr ⟨?_, ?_⟩
      · show (ed_cl w b m w c i).toNatClampNeg = 0
        rw [e]; rfl
      · show (b i).toInt = 0
        rw [hc.2.2.2]; rfl
    · have e : ed_cl w b m w c i = w i := if_neg hc
      refine Or.inl ?_
      show (ed_cl w b m w c i).toNatClampNeg = (w i).toNatClampNeg
      rw [e]
  refine ⟨V.1, V.2.1, V.2.2.1, by omega, ed_cl_nn hN, V.2.2.2.2.2.1, ?_, ?_⟩
  · refine Nat.le_trans (dl_sn_le (fun i hi => ?_)) hW36
    rcases hcl i with e | ⟨e, _⟩
    · rw [e]; exact Nat.le_refl _
    · rw [e]; exact Nat.zero_le _
  · refine dl_I_upd hI2 (fun i hi => ?_)
    rcases hcl i with e | ⟨e, e2⟩
    · exact Or.inl ⟨e, rfl⟩
    · exact Or.inr ⟨Or.inr e2, Or.inl e⟩
/-- a weight that changes where the client is absent or stands at 0, the advance then 0 -/
theorem dl_Vw (V : dl_V c l h q w a m) {p : Nat} {x : Int32} {b : Nat → Int64} {m' : Nat → Int32} (hp : p < c) (hx : ¬ x < 0) (hz : ¬ 0 < w p ∨ a p = 0) (hb : ∀ i, i ≠ p → b i = a i) (hbp : b p = 0) (hm : ∀ j, m' j = 0 ∨ m' j = 1)
    (hs : dl_sn (dl_w w) c + x.toNatClampNeg ≤ 36 + dl_w w p) : dl_V c l h q (upd w p x) b m' := by
  have hN := V.2.2.2.2.1
  have ep : dl_w (upd w p x) p = x.toNatClampNeg := by
    show (upd w p x p).toNatClampNeg = _
    rw [pk_us]
  have en : ∀ i, i ≠ p → dl_w (upd w p x) i = dl_w w i := fun i hi => by
    show (upd w p x i).toNatClampNeg = _
    rw [pk_un hi]; rfl
  refine ⟨V.1, V.2.1, V.2.2.1, V.2.2.2.1, fun j => ?_, hm, ?_, ?_⟩
  · by_cases e : j = p
    · rw [e, pk_us]; exact hx
    · rw [pk_un e]; exact hN j
  · have h1 := dl_sn_upd (f := dl_w w) (g := dl_w (upd w p x)) hp en
    rw [ep] at h1
    omega
  · refine dl_I_upd V.2.2.2.2.2.2.2 (fun i hi => ?_)
    by_cases e : i = p
    · refine Or.inr ⟨?_, Or.inr ?_⟩
      · rw [e]
        rcases hz with hz | hz
        · by_cases e2 : dl_w w p = 0
          · exact Or.inl e2
          · exact absurd ((dl_wp (hN p)).mpr (by omega)) hz
        · refine Or.inr ?_
          show (a p).toInt = 0
          rw [hz]; rfl
      · show (b i).toInt = 0
        rw [e, hbp]; rfl
    · refine Or.inl ⟨en i e, ?_⟩
      show (b i).toInt = (a i).toInt
      rw [hb i e]
end
