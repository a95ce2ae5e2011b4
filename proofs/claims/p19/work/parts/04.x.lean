/-! the class's methods, each over a general post -/
theorem ed_ix (x : Int32) {c : Nat} (hc : c ≤ 32) : (x < 0 ∨ nI c ≤ x) ∨ ∃ j : Nat, j < c ∧ x = nI j := by
  rcases pk_ix x (n := c) (by omega) with h | h | h
  · exact Or.inl (Or.inl h)
  · exact Or.inl (Or.inr h)
  · exact Or.inr h
section
variable {c : Nat} {l hz W q : Int32} {w : Nat → Int32} {a : Nat → Int64} {s m g : Nat → Int32}
theorem ed_xbad1 {post : Int32 → Prop} {x : Int32} (hx : x < 0 ∨ nI c ≤ x) (hp : post 1) : wpX_isBad post (nI c, l, hz, W, q, w, a, s, m, g) x := by
  by_cases h : x < 0
  · exact br_t h hp
  · rcases hx with hx | hx
    · exact absurd hx h
    · exact br_f h (br_f (Int32.not_lt.mpr hx) hp)
theorem ed_xbad0 {post : Int32 → Prop} {j : Nat} (hc : c ≤ 32) (hj : j < c) (hp : post 0) : wpX_isBad post (nI c, l, hz, W, q, w, a, s, m, g) (nI j) :=
  br_f (nI_pos (by omega)) (br_t (nI_lt hj (by omega)) hp)
theorem ed_xprb {post : Int32 → Prop} {x : Int32} (hx : x < 0 ∨ nI c ≤ x) (hp : post 0) : wpX_isPresent post (nI c, l, hz, W, q, w, a, s, m, g) x := by
  unfold wpX_isPresent
  exact ed_xbad1 hx (br_f (by decide) hp)
theorem ed_xpr1 {post : Int32 → Prop} {j : Nat} (hc : c ≤ 32) (hj : j < c) (hw : 0 < w j) (hp : post 1) : wpX_isPresent post (nI c, l, hz, W, q, w, a, s, m, g) (nI j) := by
  unfold wpX_isPresent
  refine ed_xbad0 hc hj (br_t rfl ⟨vp_in_nI (by omega) (by omega), ?_⟩)
  rw [nI_clamp (by omega)]
  exact br_f (Int32.not_le.mpr hw) hp
theorem ed_xpr0 {post : Int32 → Prop} {j : Nat} (hc : c ≤ 32) (hj : j < c) (hw : ¬ 0 < w j) (hp : post 0) : wpX_isPresent post (nI c, l, hz, W, q, w, a, s, m, g) (nI j) := by
  unfold wpX_isPresent
  refine ed_xbad0 hc hj (br_t rfl ⟨vp_in_nI (by omega) (by omega), ?_⟩)
  rw [nI_clamp (by omega)]
  exact br_t (Int32.not_lt.mp hw) hp
theorem ed_xbw {post : Int32 → Prop} {x : Int32} (h1 : (x < 1 ∨ ¬ x ≤ l) → post 1) (h0 : ¬ x < 1 → x ≤ l → post 0) : wpX_isBadWeight post (nI c, l, hz, W, q, w, a, s, m, g) x :=
  br_c (fun z => h1 (Or.inl z)) (fun z => br_c (fun y => h0 z y) (fun y => h1 (Or.inr y)))
theorem ed_xdl {post : Int64 → Prop} {j : Nat} (hc : c ≤ 32) (hj : j < c) (hw : 0 < w j) (hp : post (a j + 144403552893600 / (w j).toInt64)) : wpX_deadlineOf post (nI c, l, hz, W, q, w, a, s, m, g) (nI j) := by
  unfold wpX_deadlineOf
  dsimp only
  rw [nI_clamp (by omega)]
  exact ⟨vp_in_nI (by omega) (by omega), vp_in_nI (by omega) (by omega), ed_nz64 hw, hp⟩
theorem ed_xbest_l {post : Int32 → Prop} {al : Int64} (hc : c ≤ 32) (hp : post (ed_bs w a al c).1) : ∀ d i, i + d = c → wX_best_8 post al (nI c) l hz W q w a s m g (d + 1) (ed_bs w a al i).1 (ed_bs w a al i).2 (nI i) := by
  intro d
  induction d with
  | zero =>
    intro i hi
    have e : i = c := by omega
    rw [e]
    exact br_t (nI_le (Nat.le_refl c) (by omega)) hp
  | succ d ih =>
    intro i hi
    have h := ih (i + 1) (by omega)
    refine br_f (nI_ge (by omega) (by omega)) ?_
    by_cases hw : 0 < w i
    · refine ed_xpr1 hc (by omega) hw (br_f (by decide) ⟨vp_in_nI (by omega) (by omega), ?_⟩)
      rw [nI_clamp (by omega)]
      by_cases ha : a i ≤ al
      · refine br_f (Int64.not_lt.mpr ha) (ed_xdl hc (by omega) hw ?_)
        by_cases h3 : (ed_bs w a al i).1 < 0
        · have e : ed_bs w a al (i + 1) = (nI i, a i + 144403552893600 / (w i).toInt64) := (if_pos ⟨hw, ha⟩).trans (if_pos (Or.inl h3))
          rw [e] at h
          exact br_t h3 (nm_r (nI_1 i) h)
        · by_cases h4 : a i + 144403552893600 / (w i).toInt64 < (ed_bs w a al i).2
          · have e : ed_bs w a al (i + 1) = (nI i, a i + 144403552893600 / (w i).toInt64) := (if_pos ⟨hw, ha⟩).trans (if_pos (Or.inr h4))
            rw [e] at h
            exact br_f h3 (br_f (Int64.not_le.mpr h4) (nm_r (nI_1 i) h))
          · have e : ed_bs w a al (i + 1) = ed_bs w a al i := (if_pos ⟨hw, ha⟩).trans (if_neg (not_or.mpr ⟨h3, h4⟩))
            rw [e] at h
            exact br_f h3 (br_t (Int64.not_lt.mp h4) (nm_r (nI_1 i) h))
      · have e : ed_bs w a al (i + 1) = ed_bs w a al i := if_neg (fun z => ha z.2)
        rw [e] at h
        exact br_t (Int64.not_le.mp ha) (nm_r (nI_1 i) h)
    · have e : ed_bs w a al (i + 1) = ed_bs w a al i := if_neg (fun z => hw z.1)
      rw [e] at h
      exact ed_xpr0 hc (by omega) hw (br_t rfl (nm_r (nI_1 i) h))
theorem ed_xbest {post : Int32 → Prop} {al : Int64} (hc : c ≤ 32) (hp : post (ed_bs w a al c).1) : wpX_best post (nI c, l, hz, W, q, w, a, s, m, g) al := by
  unfold wpX_best
  exact ⟨c + 1, ed_xbest_l hc hp c 0 (by omega)⟩
theorem ed_xel_l {post : Int32 → Prop} (hc : c ≤ 32) (hp : post (ed_ct w a c)) : ∀ d i, i + d = c → wX_eligible_4 post (nI c) l hz W q w a s m g (d + 1) (ed_ct w a i) (nI i) := by
  intro d
  induction d with
  | zero =>
    intro i hi
    have e : i = c := by omega
    rw [e]
    exact br_t (nI_le (Nat.le_refl c) (by omega)) hp
  | succ d ih =>
    intro i hi
    have h := ih (i + 1) (by omega)
    refine br_f (nI_ge (by omega) (by omega)) ?_
    by_cases hw : 0 < w i
    · refine ed_xpr1 hc (by omega) hw (br_f (by decide) ⟨vp_in_nI (by omega) (by omega), ?_⟩)
      rw [nI_clamp (by omega)]
      by_cases ha : a i ≤ 0
      · have e : ed_ct w a (i + 1) = ed_ct w a i + 1 := if_pos ⟨hw, ha⟩
        rw [e] at h
        exact br_f (Int64.not_lt.mpr ha) (nm_e (nm_r (nI_1 i) h))
      · have e : ed_ct w a (i + 1) = ed_ct w a i := if_neg (fun z => ha z.2)
        rw [e] at h
        exact br_t (Int64.not_le.mp ha) (nm_r (nI_1 i) h)
    · have e : ed_ct w a (i + 1) = ed_ct w a i := if_neg (fun z => hw z.1)
      rw [e] at h
      exact ed_xpr0 hc (by omega) hw (br_t rfl (nm_r (nI_1 i) h))
theorem ed_xel {post : Int32 → Prop} (hc : c ≤ 32) (hp : post (ed_ct w a c)) : wpX_eligible post (nI c, l, hz, W, q, w, a, s, m, g) := by
  unfold wpX_eligible
  exact ⟨c + 1, ed_xel_l hc hp c 0 (by omega)⟩
theorem ed_xmv_l {post : St2 → Prop} {x : Int64} (hc : c ≤ 32) (hp : post (nI c, l, hz, W, q, w, ed_mv w a x c, s, m, g)) : ∀ d i, i + d = c → wX_moveMean_12 post x (nI c) l hz W q (d + 1) (nI i) w (ed_mv w a x i) s m g := by
  intro d
  induction d with
  | zero =>
    intro i hi
    have e : i = c := by omega
    rw [e]
    exact br_t (nI_le (Nat.le_refl c) (by omega)) hp
  | succ d ih =>
    intro i hi
    have h := ih (i + 1) (by omega)
    refine br_f (nI_ge (by omega) (by omega)) ?_
    by_cases hw : 0 < w i
    · refine ed_xpr1 hc (by omega) hw (br_f (by decide) ⟨vp_in_nI (by omega) (by omega), vp_in_nI (by omega) (by omega), ?_⟩)
      rw [nI_clamp (by omega)]
      exact nm_r (ed_mv_s hw) (nm_r (nI_1 i) h)
    · rw [← ed_mv_n hw] at h
      exact ed_xpr0 hc (by omega) hw (br_t rfl (nm_r (nI_1 i) h))
theorem ed_xmv {post : St2 → Prop} (hc : c ≤ 32) (hW : ¬ W.toInt64 = 0) (hp : post (nI c, l, hz, W, q, w, ed_mv w a (144403552893600 / W.toInt64) c, s, m, g)) : wpX_moveMean post (nI c, l, hz, W, q, w, a, s, m, g) := by
  unfold wpX_moveMean
  refine ⟨hW, nm_e ⟨c + 1, ?_⟩⟩
  have h := ed_xmv_l (s := s) (m := m) (g := g) hc hp c 0 (by omega)
  rw [ed_mv_0] at h
  exact h
theorem ed_xab {post : St2 → Prop} {j : Nat} (hc : c ≤ 32) (hj : j < c) (hp : post (nI c, l, hz, W - w j, q, upd w j 0, a, s, m, g)) : wpX_makeAbsent post (nI c, l, hz, W, q, w, a, s, m, g) (nI j) := by
  unfold wpX_makeAbsent
  dsimp only
  rw [nI_clamp (by omega)]
  exact ⟨vp_in_nI (by omega) (by omega), nm_e ⟨vp_in_nI (by omega) (by omega), nm_e hp⟩⟩
theorem ed_xrm_l {post : St2 → Prop} (hc : c ≤ 32) (hp : post (nI c, l, hz, ed_sum (ed_cl w a m w c) c, q, ed_cl w a m w c, a, s, m, g)) : ∀ d i, i + d = c → wX_removeSettledLeavers_2 post (d + 1) (nI i) (nI c) l hz (ed_sum (ed_cl w a m w i) c) q (ed_cl w a m w i) a s m g := by
  intro d
  induction d with
  | zero =>
    intro i hi
    have e : i = c := by omega
    rw [e]
    exact br_t (nI_le (Nat.le_refl c) (by omega)) hp
  | succ d ih =>
    intro i hi
    have h := ih (i + 1) (by omega)
    refine br_f (nI_ge (by omega) (by omega)) ?_
    have ea := ed_cl_at w a m w i
    by_cases hw : 0 < w i
    · refine ed_xpr1 hc (by omega) (by rw [ea]; exact hw) (br_f (by decide) ⟨vp_in_nI (by omega) (by omega), ?_⟩)
      rw [nI_clamp (by omega)]
      by_cases hm : m i = 0
      · rw [← ed_cl_n (f := w) (fun z => z.2.1 hm)] at h
        exact br_t hm (nm_r (nI_1 i) h)
      · refine br_f hm ⟨vp_in_nI (by omega) (by omega), ?_⟩
        by_cases hz : a i = 0
        · refine br_t hz (ed_xab hc (by omega) ?_)
          have e1 : upd (ed_cl w a m w i) i 0 = ed_cl w a m w (i + 1) := ed_cl_s ⟨hw, hm, hz⟩
          have e2 : ed_sum (ed_cl w a m w i) c - ed_cl w a m w i i = ed_sum (ed_cl w a m w (i + 1)) c := by
            rw [← e1, ed_sum_in (by omega), Int32.add_zero]
          rw [e1, e2]
          exact nm_r (nI_1 i) h
        · rw [← ed_cl_n (f := w) (fun z => hz z.2.2)] at h
          exact br_f hz (nm_r (nI_1 i) h)
    · rw [← ed_cl_n (f := w) (fun z => hw z.1)] at h
      exact ed_xpr0 hc (by omega) (by rw [ea]; exact hw) (br_t rfl (nm_r (nI_1 i) h))
theorem ed_xrm {post : St2 → Prop} (hc : c ≤ 32) (hp : post (nI c, l, hz, ed_sum (ed_cl w a m w c) c, q, ed_cl w a m w c, a, s, m, g)) : wpX_removeSettledLeavers post (nI c, l, hz, ed_sum w c, q, w, a, s, m, g) := by
  unfold wpX_removeSettledLeavers
  refine ⟨c + 1, ?_⟩
  have h := ed_xrm_l hc hp c 0 (by omega)
  rw [ed_cl_0] at h
  exact h
end
theorem ed_xgq {c n j : Nat} {l hz : Int32} {w : Nat → Int32} {a : Nat → Int64} {s m g : Nat → Int32} {post : St2 → Prop} (hc : c ≤ 32) (hn : n < 30000) (hj : j < c) (hw : 0 < w j) (hW : ¬ (ed_sum w c).toInt64 = 0) {a2 : Nat → Int64} (ha2 : ed_mv w (vp_updL a j (a j + 144403552893600 / (w j).toInt64)) (144403552893600 / (ed_sum w c).toInt64) c = a2)
    (hp : post (nI c, l, hz, ed_sum (ed_cl w a2 m w c) c, nI (n + 1), ed_cl w a2 m w c, a2, upd s j (s j + 1), m, upd g (n % 64) (nI j))) : wpX_giveQuantum post (nI c, l, hz, ed_sum w c, nI n, w, a, s, m, g) (nI j) := by
  have hi : vp_in (nI j) 32 := vp_in_nI (by omega) (by omega)
  have er : nI n - nI n / 64 * 64 = nI (n % 64) := pk_rem (d := 64) (by omega) (by omega) (by omega)
  unfold wpX_giveQuantum
  dsimp only
  rw [nI_clamp (by omega)]
  refine ⟨hi, hi, ed_nz64 hw, hi, nm_e ⟨hi, hi, nm_e ?_⟩⟩
  refine ed_xmv hc hW ?_
  dsimp only
  rw [ha2, er, nI_clamp (by omega)]
  exact ⟨by decide, vp_in_nI (by omega) (by omega), nm_e (nm_r (nI_1 n) (ed_xrm hc hp))⟩
