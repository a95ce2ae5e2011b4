/-! the reference's methods, each over a general post -/
theorem ed_nar0 : vp_nar .boolean 0 = 0 := by decide
theorem ed_nar1 : vp_nar .boolean 1 = 1 := by decide
section
variable {c : Nat} {l hz q : Int32} {w : Nat → Int32} {a : Nat → Int64} {s m g : Nat → Int32}
theorem ed_ybad1 {post : Int32 → Prop} {x : Int32} (hx : x < 0 ∨ nI c ≤ x) (hp : post 1) : wpY_bad post (nI c, l, hz, q, w, a, s, m, g) x := by
  by_cases h : x < 0
  · exact br_t h hp
  · rcases hx with hx | hx
    · exact absurd hx h
    · exact br_f h (br_f (Int32.not_lt.mpr hx) hp)
theorem ed_ybad0 {post : Int32 → Prop} {j : Nat} (hc : c ≤ 32) (hj : j < c) (hp : post 0) : wpY_bad post (nI c, l, hz, q, w, a, s, m, g) (nI j) :=
  br_f (nI_pos (by omega)) (br_t (nI_lt hj (by omega)) hp)
theorem ed_yrm {post : SY → Prop} {j : Nat} (hc : c ≤ 32) (hj : j < c) (hp : post (nI c, l, hz, q, upd w j 0, vp_updL a j 0, upd s j 0, upd m j 0, g)) : wpY_remove post (nI c, l, hz, q, w, a, s, m, g) (nI j) := by
  have hi : vp_in (nI j) 32 := vp_in_nI (by omega) (by omega)
  unfold wpY_remove
  dsimp only
  rw [nI_clamp (by omega), ed_nar0]
  exact ⟨hi, nm_e ⟨hi, nm_e ⟨hi, nm_e ⟨hi, nm_e hp⟩⟩⟩⟩
theorem ed_ytw_l {post : Int32 → Prop} (hc : c ≤ 32) (hp : post (ed_sum w c)) : ∀ d i, i + d = c → wY_totalWeight_4 post (nI c) l hz q w a s m g (d + 1) (ed_sum w i) (nI i) := by
  intro d
  induction d with
  | zero =>
    intro i hi
    have e : i = c := by omega
    rw [e]
    exact br_t (nI_le (Nat.le_refl c) (by omega)) hp
  | succ d ih =>
    intro i hi
    have h := ih (i + 1) (by omega)
    refine br_f (nI_ge (by omega) (by omega)) ⟨vp_in_nI (by omega) (by omega), ?_⟩
    rw [nI_clamp (by omega)]
    exact nm_e (nm_r (nI_1 i) h)
theorem ed_ytw {post : Int32 → Prop} (hc : c ≤ 32) (hp : post (ed_sum w c)) : wpY_totalWeight post (nI c, l, hz, q, w, a, s, m, g) := by
  unfold wpY_totalWeight
  exact ⟨c + 1, ed_ytw_l hc hp c 0 (by omega)⟩
theorem ed_ybest_l {post : Int32 → Prop} {al : Int64} (hc : c ≤ 32) (hp : post (ed_bs w a al c).1) : ∀ d i, i + d = c → wY_bestWithin_8 post al (nI c) l hz q w a s m g (d + 1) (ed_bs w a al i).1 (ed_bs w a al i).2 (nI i) := by
  intro d
  induction d with
  | zero =>
    intro i hi
    have e : i = c := by omega
    rw [e]
    exact br_t (nI_le (Nat.le_refl c) (by omega)) hp
  | succ d ih =>
    intro i hi
    have h := ih (i + 1) (by omega)
    have hv : vp_in (nI i) 32 := vp_in_nI (by omega) (by omega)
    refine br_f (nI_ge (by omega) (by omega)) ⟨hv, ?_⟩
    rw [nI_clamp (by omega)]
    by_cases hw : 0 < w i
    · refine br_f (Int32.not_le.mpr hw) ⟨hv, ?_⟩
      by_cases ha : a i ≤ al
      · refine br_f (Int64.not_lt.mpr ha) ⟨hv, hv, ed_nz64 hw, nm_e ?_⟩
        by_cases h3 : (ed_bs w a al i).1 < 0
        · have e : ed_bs w a al (i + 1) = (nI i, a i + 144403552893600 / (w i).toInt64) := (if_pos ⟨hw, ha⟩).trans (if_pos (Or.inl h3))
          rw [e] at h
          have h5 : (ed_bs w a al i).1 = -1 := by
            rcases ed_bs_in w a al i with z | ⟨j, hj, z, _⟩
            · exact z
            · rw [z] at h3
              exact absurd h3 (nI_pos (by omega))
          exact br_t h5 (nm_r (nI_1 i) h)
        · have h5 : ¬ (ed_bs w a al i).1 = -1 := fun z => h3 (by rw [z]; decide)
          by_cases h4 : a i + 144403552893600 / (w i).toInt64 < (ed_bs w a al i).2
          · have e : ed_bs w a al (i + 1) = (nI i, a i + 144403552893600 / (w i).toInt64) := (if_pos ⟨hw, ha⟩).trans (if_pos (Or.inr h4))
            rw [e] at h
            exact br_f h5 (br_f (Int64.not_le.mpr h4) (nm_r (nI_1 i) h))
          · have e : ed_bs w a al (i + 1) = ed_bs w a al i := (if_pos ⟨hw, ha⟩).trans (if_neg (not_or.mpr ⟨h3, h4⟩))
            rw [e] at h
            exact br_f h5 (br_t (Int64.not_lt.mp h4) (nm_r (nI_1 i) h))
      · have e : ed_bs w a al (i + 1) = ed_bs w a al i := if_neg (fun z => ha z.2)
        rw [e] at h
        exact br_t (Int64.not_le.mp ha) (nm_r (nI_1 i) h)
    · have e : ed_bs w a al (i + 1) = ed_bs w a al i := if_neg (fun z => hw z.1)
      rw [e] at h
      exact br_t (Int32.not_lt.mp hw) (nm_r (nI_1 i) h)
theorem ed_ybest {post : Int32 → Prop} {al : Int64} (hc : c ≤ 32) (hp : post (ed_bs w a al c).1) : wpY_bestWithin post (nI c, l, hz, q, w, a, s, m, g) al := by
  unfold wpY_bestWithin
  exact ⟨c + 1, ed_ybest_l hc hp c 0 (by omega)⟩
theorem ed_yel_l {post : Int32 → Prop} (hc : c ≤ 32) (hp : post (ed_ct w a c)) : ∀ d i, i + d = c → wY_eligible_4 post (nI c) l hz q w a s m g (d + 1) (ed_ct w a i) (nI i) := by
  intro d
  induction d with
  | zero =>
    intro i hi
    have e : i = c := by omega
    rw [e]
    exact br_t (nI_le (Nat.le_refl c) (by omega)) hp
  | succ d ih =>
    intro i hi
    have h := ih (i + 1) (by omega)
    have hv : vp_in (nI i) 32 := vp_in_nI (by omega) (by omega)
    refine br_f (nI_ge (by omega) (by omega)) ⟨hv, ?_⟩
    rw [nI_clamp (by omega)]
    by_cases hw : 0 < w i
    · refine br_f (Int32.not_le.mpr hw) ⟨hv, ?_⟩
      by_cases ha : a i ≤ 0
      · have e : ed_ct w a (i + 1) = ed_ct w a i + 1 := if_pos ⟨hw, ha⟩
        rw [e] at h
        exact br_f (Int64.not_lt.mpr ha) (nm_e (nm_r (nI_1 i) h))
      · have e : ed_ct w a (i + 1) = ed_ct w a i := if_neg (fun z => ha z.2)
        rw [e] at h
        exact br_t (Int64.not_le.mp ha) (nm_r (nI_1 i) h)
    · have e : ed_ct w a (i + 1) = ed_ct w a i := if_neg (fun z => hw z.1)
      rw [e] at h
      exact br_t (Int32.not_lt.mp hw) (nm_r (nI_1 i) h)
theorem ed_yel {post : Int32 → Prop} (hc : c ≤ 32) (hp : post (ed_ct w a c)) : wpY_eligible post (nI c, l, hz, q, w, a, s, m, g) := by
  unfold wpY_eligible
  exact ⟨c + 1, ed_yel_l hc hp c 0 (by omega)⟩
theorem ed_y175_l {post : Int32 → SY → Prop} {J : Int32 → Int32 → Int32 → Int32 → Int32 → Int32 → (Nat → Int32) → (Nat → Int64) → (Nat → Int32) → (Nat → Int32) → (Nat → Int32) → Prop} {x1 x2 x3 : Int32} (hc : c ≤ 32)
    (hp : J (x2 + 1) (x3 + 1) (nI c) l hz q (ed_cl w a m w c) a (ed_cl w a m s c) (ed_cl w a m m c) g) : ∀ d i, i + d = c → wY_run_175 post J x1 x2 x3 (d + 1) (nI i) (nI c) l hz q (ed_cl w a m w i) a (ed_cl w a m s i) (ed_cl w a m m i) g := by
  intro d
  induction d with
  | zero =>
    intro i hi
    have e : i = c := by omega
    rw [e]
    exact br_t (nI_le (Nat.le_refl c) (by omega)) (nm_e (nm_e hp))
  | succ d ih =>
    intro i hi
    have h := ih (i + 1) (by omega)
    have hv : vp_in (nI i) 32 := vp_in_nI (by omega) (by omega)
    refine br_f (nI_ge (by omega) (by omega)) ⟨hv, ?_⟩
    rw [nI_clamp (by omega), ed_cl_at, ed_cl_at]
    by_cases hA : 0 < w i ∧ ¬ m i = 0 ∧ a i = 0
    · refine br_f (Int32.not_le.mpr hA.1) ⟨hv, br_f hA.2.1 ⟨hv, br_t hA.2.2 (ed_yrm hc (by omega) ?_)⟩⟩
      rw [ed_cl_s hA, ed_cl_s hA, ed_cl_s hA, ed_updL_id hA.2.2]
      exact nm_r (nI_1 i) h
    · rw [← ed_cl_n (f := w) hA, ← ed_cl_n (f := s) hA, ← ed_cl_n (f := m) hA] at h
      have h' := nm_r (P := fun x => wY_run_175 post J x1 x2 x3 (d + 1) x (nI c) l hz q (ed_cl w a m w i) a (ed_cl w a m s i) (ed_cl w a m m i) g) (nI_1 i) h
      refine br_c (fun _ => h') (fun z1 => ⟨hv, br_c (fun _ => h') (fun z2 => ⟨hv, br_f (fun z3 => hA ⟨Int32.not_le.mp z1, z2, z3⟩) h'⟩)⟩)
theorem ed_y109_l {n j : Nat} {post : Int32 → SY → Prop} {J : Int32 → Int32 → Int32 → Int32 → Int32 → Int32 → (Nat → Int32) → (Nat → Int64) → (Nat → Int32) → (Nat → Int32) → (Nat → Int32) → Prop} {x1 x2 x3 x4 : Int32} (hc : c ≤ 32) (hn : n < 30000) (hW : ¬ x4.toInt64 = 0) {a2 : Nat → Int64} (ha2 : ed_mv w a (144403552893600 / x4.toInt64) c = a2)
    (hp : J (x2 + 1) (x3 + 1) (nI c) l hz (nI (n + 1)) (ed_cl w a2 m w c) a2 (ed_cl w a2 m s c) (ed_cl w a2 m m c) (upd g n (nI j))) : ∀ d i, i + d = c → wY_run_109 post J x1 x2 x3 x4 (nI j) (nI c) l hz (nI n) (d + 1) (nI i) w (ed_mv w a (144403552893600 / x4.toInt64) i) s m g := by
  intro d
  induction d with
  | zero =>
    intro i hi
    have e : i = c := by omega
    rw [e, ha2]
    refine br_t (nI_le (Nat.le_refl c) (by omega)) ⟨vp_in_nI (by omega) (by omega), ?_⟩
    rw [nI_clamp (by omega)]
    refine nm_e (nm_r (nI_1 n) ⟨c + 1, ?_⟩)
    have h := ed_y175_l (post := post) (x1 := x1) hc hp c 0 (by omega)
    rw [ed_cl_0, ed_cl_0, ed_cl_0] at h
    exact h
  | succ d ih =>
    intro i hi
    have h := ih (i + 1) (by omega)
    have hv : vp_in (nI i) 32 := vp_in_nI (by omega) (by omega)
    refine br_f (nI_ge (by omega) (by omega)) ⟨hv, ?_⟩
    rw [nI_clamp (by omega)]
    by_cases hw : 0 < w i
    · exact br_f (Int32.not_le.mpr hw) ⟨hv, hW, hv, nm_r (ed_mv_s hw) (nm_r (nI_1 i) h)⟩
    · rw [← ed_mv_n hw] at h
      exact br_t (Int32.not_lt.mp hw) (nm_r (nI_1 i) h)
end
