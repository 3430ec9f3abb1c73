/-! the component's constructor -/
def xi_sq (x y : Int32) : Int32 := if x < 0 then -1 else if 8 ≤ x then -1 else if y < 0 then -1 else if 8 ≤ y then -1 else x * 4 + y / 2
theorem xi_squareAt {post : Int32 → Prop} {x y : Int32} (h : post (xi_sq x y)) : wpX_squareAt post x y := by
  unfold xi_sq at h
  refine br_c (fun z => ?_) (fun z => br_c (fun z2 => ?_) (fun z2 => br_c (fun z3 => ?_) (fun z3 => br_c (fun z4 => ?_) (fun z4 => ?_))))
  · rw [if_pos z] at h; exact br_t rfl h
  · rw [if_neg z, if_pos z2] at h; exact br_t rfl h
  · rw [if_neg z, if_neg z2, if_pos z3] at h; exact br_t rfl h
  · rw [if_neg z, if_neg z2, if_neg z3, if_pos z4] at h; exact br_t rfl h
  · rw [if_neg z, if_neg z2, if_neg z3, if_neg z4] at h; exact br_f (by decide) ⟨by decide, h⟩
def xi_d (w : Nat) : Int32 := if w < 2 then -1 else 1
def xi_a (w : Nat) : Int32 := if w % 2 = 0 then -1 else 1
theorem xi_t1 : ∀ i, i < 32 → ∀ w, w < 4 → xi_sq (nI (ge_r i) + xi_d w) (nI (ge_c i) + xi_a w) = xt_ti (ge_nr i w) := by decide +kernel
theorem xi_t2 : ∀ i, i < 32 → ∀ w, w < 4 → xi_sq (nI (ge_r i) + 2 * xi_d w) (nI (ge_c i) + 2 * xi_a w) = xt_ti (ge_fa i w) := by decide +kernel
theorem xi_c0 : ∀ s, s < 32 → nI (ge_r s) - nI (ge_r s) / 2 * 2 = 0 → (nI s - nI s / 4 * 4) * 2 + 1 = nI (ge_c s) := by decide +kernel
theorem xi_c1 : ∀ s, s < 32 → ¬ nI (ge_r s) - nI (ge_r s) / 2 * 2 = 0 → (nI s - nI s / 4 * 4) * 2 + 0 = nI (ge_c s) := by decide +kernel
theorem xi_w : ∀ w, w < 4 → ((2 ≤ nI w ↔ ¬ w < 2) ∧ (nI w - nI w / 2 * 2 = 0 ↔ w % 2 = 0)) := by decide +kernel
def xi_TN (j : Nat) : Int32 := xt_ti (ge_nr (j / 4) (j % 4))
def xi_TF (j : Nat) : Int32 := xt_ti (ge_fa (j / 4) (j % 4))
theorem xi_TNe {i w : Nat} (hw : w < 4) : xi_TN (i * 4 + w) = xt_ti (ge_nr i w) := by
  unfold xi_TN
  rw [show (i * 4 + w) / 4 = i by omega, show (i * 4 + w) % 4 = w by omega]
theorem xi_TFe {i w : Nat} (hw : w < 4) : xi_TF (i * 4 + w) = xt_ti (ge_fa i w) := by
  unfold xi_TF
  rw [show (i * 4 + w) / 4 = i by omega, show (i * 4 + w) % 4 = w by omega]
theorem xi_64 {post : SX → Prop} {J2 J33 : Int32 → (Nat → Int32) → (Nat → Int32) → (Nat → Int32) → (Nat → Int32) → (Nat → Int32) → (Nat → Int32) → (Nat → Int32) → (Nat → Int32) → (Nat → Int32) → (Nat → Int32) → Prop} (mv pn pc : Int32) (ce ne fa li le ta pa tr nw pt : Nat → Int32) {i w : Nat} (hi : i < 32) (hw : w < 4)
    (h : J33 (nI (w + 1)) ce (cp_ ne 0 (i * 4 + (w + 1)) xi_TN) (cp_ fa 0 (i * 4 + (w + 1)) xi_TF) li le ta pa tr nw pt) : wX_fillWays_64 post J2 J33 (nI i) (nI (ge_r i)) (nI (ge_c i)) (nI w) (xi_d w) (xi_a w) mv pn pc ce (cp_ ne 0 (i * 4 + w) xi_TN) (cp_ fa 0 (i * 4 + w) xi_TF) li le ta pa tr nw pt := by
  have e1 := cp_s (d := ne) (o := 0) (k := i * 4 + w) (g := xi_TN)
  have e2 := cp_s (d := fa) (o := 0) (k := i * 4 + w) (g := xi_TF)
  rw [Nat.zero_add, xi_TNe hw] at e1
  rw [Nat.zero_add, xi_TFe hw] at e2
  unfold wX_fillWays_64
  refine xi_squareAt ?_
  rw [xi_t1 i hi w hw, xt_m4, nI_clamp (by omega)]
  refine ⟨vp_in_nI (by omega) (by omega), nm_r e1 ?_⟩
  refine xi_squareAt ?_
  rw [xi_t2 i hi w hw]
  exact ⟨vp_in_nI (by omega) (by omega), nm_r e2 (nm_r (nI_1 w) h)⟩
theorem xi_33 {post : SX → Prop} {J2 : Int32 → (Nat → Int32) → (Nat → Int32) → (Nat → Int32) → (Nat → Int32) → (Nat → Int32) → (Nat → Int32) → (Nat → Int32) → (Nat → Int32) → (Nat → Int32) → (Nat → Int32) → Prop} (mv pn pc : Int32) (ce ne fa li le ta pa tr nw pt : Nat → Int32) {i : Nat} (hi : i < 32)
    (h : J2 (nI (i + 1)) ce (cp_ ne 0 ((i + 1) * 4) xi_TN) (cp_ fa 0 ((i + 1) * 4) xi_TF) li le ta pa tr nw pt) : ∀ d w, w + d = 4 → wX_fillWays_33 post J2 (nI i) (nI (ge_r i)) (nI (ge_c i)) mv pn pc (d + 1) (nI w) ce (cp_ ne 0 (i * 4 + w) xi_TN) (cp_ fa 0 (i * 4 + w) xi_TF) li le ta pa tr nw pt := by
  intro d
  induction d with
  | zero =>
    intro w hw
    obtain rfl : w = 4 := by omega
    rw [show (i + 1) * 4 = i * 4 + 4 by omega] at h
    exact br_t (by decide) (nm_r (nI_1 i) h)
  | succ d ih =>
    intro w hw
    have hw4 : w < 4 := by omega
    have h1 := ih (w + 1) (by omega)
    obtain ⟨g1, g2⟩ := xi_w w hw4
    have k := xi_64 (post := post) (J2 := J2) mv pn pc ce ne fa li le ta pa tr nw pt hi hw4 h1
    refine br_f (nI_ge (b := 4) hw4 (by decide)) ?_
    have k50 : wX_fillWays_50 post J2 (wX_fillWays_33 post J2 (nI i) (nI (ge_r i)) (nI (ge_c i)) mv pn pc (d + 1)) (nI i) (nI (ge_r i)) (nI (ge_c i)) (nI w) (xi_d w) mv pn pc ce (cp_ ne 0 (i * 4 + w) xi_TN) (cp_ fa 0 (i * 4 + w) xi_TF) li le ta pa tr nw pt := by
      refine ⟨by decide, br_c (fun z => ?_) (fun z => ?_)⟩
      · rw [show xi_a w = -1 from if_pos (g2.mp z)] at k
        exact k
      · rw [show xi_a w = 1 from if_neg (fun y => z (g2.mpr y))] at k
        exact k
    refine br_c (fun z => ?_) (fun z => ?_)
    · rw [show xi_d w = 1 from if_neg (g1.mp z)] at k50
      exact k50
    · have z2 : w < 2 := by
        rcases Nat.lt_or_ge w 2 with y | y
        · exact y
        · exact absurd (g1.mpr (by omega)) z
      rw [show xi_d w = -1 from if_pos z2] at k50
      exact k50
theorem xi_2 {post : SX → Prop} (mv pn pc : Int32) (ce ne fa li le ta pa tr nw pt : Nat → Int32) (h : post (mv, pn, pc, ce, cp_ ne 0 128 xi_TN, cp_ fa 0 128 xi_TF, li, le, ta, pa, tr, nw, pt)) : ∀ d i, i + d = 32 → wX_fillWays_2 post mv pn pc (d + 1) (nI i) ce (cp_ ne 0 (i * 4) xi_TN) (cp_ fa 0 (i * 4) xi_TF) li le ta pa tr nw pt := by
  intro d
  induction d with
  | zero =>
    intro i hi
    obtain rfl : i = 32 := by omega
    exact br_t (by decide) h
  | succ d ih =>
    intro i hi
    have hx : i < 32 := by omega
    have h1 := ih (i + 1) (by omega)
    refine br_f (nI_ge (b := 32) hx (by decide)) ⟨by decide, nm_r (ya_rI i hx) ⟨by decide, by decide, br_c (fun z => ?_) (fun z => ?_)⟩⟩
    · exact nm_r (xi_c0 i hx z) ⟨4 + 1, xi_33 mv pn pc ce ne fa li le ta pa tr nw pt hx h1 4 0 (by omega)⟩
    · exact nm_r (xi_c1 i hx z) ⟨4 + 1, xi_33 mv pn pc ce ne fa li le ta pa tr nw pt hx h1 4 0 (by omega)⟩
theorem xi_T {ne fa : Nat → Int32} : xt_T (cp_ ne 0 128 xi_TN) (cp_ fa 0 128 xi_TF) := by
  intro s hs w hw
  rw [cp_in0 (by omega), cp_in0 (by omega), xi_TNe hw, xi_TFe hw]
  exact ⟨rfl, rfl⟩
theorem xi_init {post : SX → Prop} (h : ∀ ne fa, xt_T ne fa → post (0, 0, 0, (fun _ => 0), ne, fa, (fun _ => 0), (fun _ => 0), (fun _ => 0), (fun _ => 0), (fun _ => 0), (fun _ => 0), (fun _ => 0))) : wpX_init post := by
  unfold wpX_init wpX_fillWays
  dsimp only
  refine ⟨32 + 1, ?_⟩
  have k := xi_2 (post := fun u => match u with | (f_mover_2, f_pastNext_3, f_pastCount_4, a_cells_5, a_near_6, a_far_7, a_listed_8, a_lengths_9, a_takenSets_10, a_paths_11, a_trail_12, a_nextWays_13, a_past_14) => (post (f_mover_2, f_pastNext_3, f_pastCount_4, a_cells_5, a_near_6, a_far_7, a_listed_8, a_lengths_9, a_takenSets_10, a_paths_11, a_trail_12, a_nextWays_13, a_past_14))) 0 0 0 (fun _ => 0) (fun _ => 0) (fun _ => 0) (fun _ => 0) (fun _ => 0) (fun _ => 0) (fun _ => 0) (fun _ => 0) (fun _ => 0) (fun _ => 0) (h _ _ xi_T) 32 0 (by omega)
  rw [Nat.zero_mul, cp_0, cp_0] at k
  exact k
/-! the memory of positions -/
def mm_ (mv : Int32) (n r : Nat) (pt od os : Nat → Int32) : Prop := ∀ t, t < r → (∀ i, i < 32 → pt ((n + 19 - t) % 20 * 32 + i) = od (32 * (r - 1 - t) + i) ∧ dr_5 (od (32 * (r - 1 - t) + i))) ∧ os (r - 1 - t) = (if t % 2 = 0 then 1 - mv else mv)
theorem mm_0 {mv : Int32} {n : Nat} {pt od os : Nat → Int32} : mm_ mv n 0 pt od os := fun t ht => absurd ht (by omega)
theorem mm_pop {mv : Int32} {n r : Nat} {pt od os : Nat → Int32} (hr : r + 1 ≤ 20) (hn : n < 20) (h : mm_ mv n (r + 1) pt od os) : mm_ (1 - mv) ((n + 19) % 20) r pt od os := by
  intro t ht
  obtain ⟨h1, h2⟩ := h (t + 1) (by omega)
  rw [show r + 1 - 1 - (t + 1) = r - 1 - t by omega] at h1 h2
  rw [show (n + 19 - (t + 1)) % 20 = ((n + 19) % 20 + 19 - t) % 20 by omega] at h1
  refine ⟨h1, ?_⟩
  rw [h2, yg_mm]
  by_cases z : t % 2 = 0
  · rw [if_neg (by omega), if_pos z]
  · rw [if_pos (by omega), if_neg z]
theorem mm_push {mv : Int32} {n r : Nat} {pt od os pt' od' os' ce bd : Nat → Int32} (r' : Nat) (hr : r ≤ 20) (hn : n < 20) (hr' : r' = if r = 20 then 20 else r + 1) (h : mm_ mv n r pt od os)
    (hp1 : ∀ i, i < 32 → pt' (n * 32 + i) = ce i) (hp2 : ∀ i, i < n * 32 ∨ n * 32 + 32 ≤ i → pt' i = pt i) (hb : ∀ i, i < 32 → ce i = bd i) (h5 : dr_V bd)
    (ho1 : ∀ i, i < 32 → od' (32 * (r' - 1) + i) = bd i) (ho2 : ∀ i, i < 32 * (r' - 1) → od' i = od (i + 32 * (r + 1 - r')))
    (hs1 : os' (r' - 1) = mv) (hs2 : ∀ i, i < r' - 1 → os' i = os (i + (r + 1 - r'))) : mm_ (1 - mv) ((n + 1) % 20) r' pt' od' os' := by
  have hr1 : 1 ≤ r' ∧ r' ≤ 20 ∧ r' ≤ r + 1 := by rw [hr']; split <;> omega
  intro t ht
  by_cases ht0 : t = 0
  · subst ht0
    rw [show ((n + 1) % 20 + 19 - 0) % 20 = n by omega, Nat.sub_zero]
    refine ⟨fun i hi => ?_, ?_⟩
    · rw [hp1 i hi, ho1 i hi, hb i hi]
      exact ⟨rfl, h5 i⟩
    · rw [hs1, if_pos rfl, yg_mm]
  · obtain ⟨g1, g2⟩ := h (t - 1) (by omega)
    have e1 : ((n + 1) % 20 + 19 - t) % 20 = (n + 19 - (t - 1)) % 20 := by omega
    have e2 : (n + 19 - (t - 1)) % 20 ≠ n := by omega
    have e3 : r' - 1 - t + (r + 1 - r') = r - 1 - (t - 1) := by omega
    refine ⟨fun i hi => ?_, ?_⟩
    · obtain ⟨g3, g4⟩ := g1 i hi
      rw [e1, hp2 _ (by omega), ho2 _ (by omega), g3, show 32 * (r' - 1 - t) + i + 32 * (r + 1 - r') = 32 * (r - 1 - (t - 1)) + i by omega]
      exact ⟨rfl, g4⟩
    · rw [hs2 _ (by omega), e3, g2, yg_mm]
      by_cases z : t % 2 = 0
      · rw [if_neg (by omega), if_pos z]
      · rw [if_pos (by omega), if_neg z]
/-! remember -/
theorem yr_75 {post : SY → Prop} (mv rm sz jm : Int32) (bd od os sq ab ap az aj : Nat → Int32) {r : Nat} (hr : r < 20) (h : post (mv, nI (r + 1), sz, jm, bd, cp_ od (32 * r) 32 bd, upd os r mv, sq, ab, ap, az, aj)) : ∀ d i, i + d = 32 → wY_remember_75 post mv (nI r) sz jm (d + 1) (nI i) bd (cp_ od (32 * r) i bd) os sq ab ap az aj := by
  intro d
  induction d with
  | zero =>
    intro i hi
    obtain rfl : i = 32 := by omega
    refine br_t (by decide) ⟨vp_in_nI hr (by omega), ?_⟩
    rw [nI_clamp (by omega)]
    exact nm_e (nm_r (nI_1 r) h)
  | succ d ih =>
    intro i hi
    have h1 := ih (i + 1) (by omega)
    refine br_f (nI_ge (b := 32) (by omega) (by decide)) ⟨vp_in_nI (by omega) (by omega), ?_⟩
    rw [yg_m32, nI_clamp (by omega), nI_clamp (by omega)]
    exact ⟨vp_in_nI (by omega) (by omega), nm_r cp_s (nm_r (nI_1 i) h1)⟩
theorem yr_41 {post : SY → Prop} (mv rm sz jm : Int32) (bd od os sq ab ap az aj : Nat → Int32) (h : post (mv, nI 20, sz, jm, bd, cp_ od 608 32 bd, upd (cp_ os 0 19 (fun k => os (k + 1))) 19 mv, sq, ab, ap, az, aj)) : ∀ d i, i + d = 19 → wY_remember_41 post mv rm sz jm (d + 1) (nI i) bd od (cp_ os 0 i (fun k => os (k + 1))) sq ab ap az aj := by
  intro d
  induction d with
  | zero =>
    intro i hi
    obtain rfl : i = 19 := by omega
    refine br_t (by decide) ⟨32 + 1, ?_⟩
    have k := yr_75 (post := post) mv (nI 19) sz jm bd od (cp_ os 0 19 (fun k => os (k + 1))) sq ab ap az aj (r := 19) (by omega) h 32 0 (by omega)
    rw [cp_0] at k
    exact k
  | succ d ih =>
    intro i hi
    have h1 := ih (i + 1) (by omega)
    refine br_f (nI_ge (b := 19) (by omega) (by decide)) ?_
    rw [nI_1 i, nI_clamp (by omega), nI_clamp (by omega)]
    refine ⟨vp_in_nI (by omega) (by omega), vp_in_nI (by omega) (by omega), nm_r ?_ (nm_e h1)⟩
    have e := cp_s (d := os) (o := 0) (k := i) (g := fun k => os (k + 1))
    rw [Nat.zero_add] at e
    rw [cp_out (by omega)]
    exact e
theorem yr_a32 (i : Nat) : nI i + 32 = nI (i + 32) := nI_add i 32
theorem yr_11 {post : SY → Prop} (mv rm sz jm : Int32) (bd od os sq ab ap az aj : Nat → Int32) (h : post (mv, nI 20, sz, jm, bd, cp_ (cp_ od 0 608 (fun k => od (k + 32))) 608 32 bd, upd (cp_ os 0 19 (fun k => os (k + 1))) 19 mv, sq, ab, ap, az, aj)) : ∀ d i, i + d = 608 → wY_remember_11 post mv rm sz jm (d + 1) (nI i) bd (cp_ od 0 i (fun k => od (k + 32))) os sq ab ap az aj := by
  intro d
  induction d with
  | zero =>
    intro i hi
    obtain rfl : i = 608 := by omega
    refine br_t (by decide) ⟨19 + 1, ?_⟩
    have k := yr_41 (post := post) mv rm sz jm bd (cp_ od 0 608 (fun k => od (k + 32))) os sq ab ap az aj h 19 0 (by omega)
    rw [cp_0] at k
    exact k
  | succ d ih =>
    intro i hi
    have h1 := ih (i + 1) (by omega)
    refine br_f (nI_ge (b := 608) (by omega) (by decide)) ?_
    rw [yr_a32, nI_clamp (by omega), nI_clamp (by omega)]
    refine ⟨vp_in_nI (by omega) (by omega), vp_in_nI (by omega) (by omega), nm_r ?_ (nm_r (nI_1 i) h1)⟩
    have e := cp_s (d := od) (o := 0) (k := i) (g := fun k => od (k + 32))
    rw [Nat.zero_add] at e
    rw [cp_out (by omega)]
    exact e
theorem yr_rem {post : SY → Prop} (mv rm sz jm : Int32) (bd od os sq ab ap az aj : Nat → Int32) {n r : Nat} {pt pt' ce : Nat → Int32} (hr : r ≤ 20) (hn : n < 20) (hM : mm_ mv n r pt od os) (hp1 : ∀ i, i < 32 → pt' (n * 32 + i) = ce i) (hp2 : ∀ i, i < n * 32 ∨ n * 32 + 32 ≤ i → pt' i = pt i) (hb : ∀ i, i < 32 → ce i = bd i) (h5 : dr_V bd)
    (h : ∀ od' os', mm_ (1 - mv) ((n + 1) % 20) (if r = 20 then 20 else r + 1) pt' od' os' → post (mv, nI (if r = 20 then 20 else r + 1), sz, jm, bd, od', os', sq, ab, ap, az, aj)) : wpY_remember post (mv, nI r, sz, jm, bd, od, os, sq, ab, ap, az, aj) := by
  unfold wpY_remember
  dsimp only
  refine pk_eq r 20 (fun z => ?_) (fun z => ?_)
  · subst z
    refine ⟨608 + 1, ?_⟩
    have k := yr_11 (post := post) mv (nI 20) sz jm bd od os sq ab ap az aj (h _ _ (mm_push 20 (by omega) hn rfl hM hp1 hp2 hb h5 (fun i hi => cp_in hi) (fun i hi => (cp_out (by omega)).trans (cp_in0 (by omega))) pk_us (fun i hi => (pk_un (by omega)).trans (cp_in0 (by omega))))) 608 0 (by omega)
    rw [cp_0] at k
    exact k
  · rw [if_neg z] at h
    refine ⟨32 + 1, ?_⟩
    have k := yr_75 (post := post) mv (nI r) sz jm bd od os sq ab ap az aj (r := r) (by omega) (h _ _ (mm_push (r + 1) (by omega) hn (by rw [if_neg z]) hM hp1 hp2 hb h5 (fun i hi => cp_in hi) (fun i hi => by rw [cp_out (by omega)]; rw [show r + 1 - (r + 1) = 0 by omega]; rfl) pk_us (fun i hi => by rw [pk_un (by omega)]; rw [show r + 1 - (r + 1) = 0 by omega]; rfl))) 32 0 (by omega)
    rw [cp_0] at k
    exact k
theorem xr_54 {post : SX → Prop} (mv pn pc : Int32) (ce ne fa li le ta pa tr nw pt : Nat → Int32) {r n' : Nat} (hr : r ≤ 20) (h : post (mv, nI n', nI (if r = 20 then 20 else r + 1), ce, ne, fa, li, le, ta, pa, tr, nw, pt)) : wX_rememberPosition_54 post (nI n') mv pn (nI r) ce ne fa li le ta pa tr nw pt := by
  refine pk_le 20 r (fun z => ?_) (fun z => nm_r (nI_1 r) ?_)
  · obtain rfl : r = 20 := by omega
    exact h
  · rw [if_neg (by omega)] at h
    exact h
theorem xr_2 {post : SX → Prop} (mv pn pc : Int32) (ce ne fa li le ta pa tr nw pt : Nat → Int32) {n r : Nat} (hr : r ≤ 20) (hn : n < 20) (h : post (mv, nI ((n + 1) % 20), nI (if r = 20 then 20 else r + 1), ce, ne, fa, li, le, ta, pa, tr, nw, cp_ pt (n * 32) 32 ce)) : ∀ d i, i + d = 32 → wX_rememberPosition_2 post mv (nI n) (nI r) (d + 1) (nI i) ce ne fa li le ta pa tr nw (cp_ pt (n * 32) i ce) := by
  intro d
  induction d with
  | zero =>
    intro i hi
    obtain rfl : i = 32 := by omega
    refine br_t (by decide) (pk_eq n 19 (fun z => ?_) (fun z => ?_))
    · subst z
      exact xr_54 mv _ pc ce ne fa li le ta pa tr nw _ hr h
    · rw [nI_1 n]
      rw [show (n + 1) % 20 = n + 1 by omega] at h
      exact xr_54 mv _ pc ce ne fa li le ta pa tr nw _ hr h
  | succ d ih =>
    intro i hi
    have h1 := ih (i + 1) (by omega)
    refine br_f (nI_ge (b := 32) (by omega) (by decide)) ⟨vp_in_nI (by omega) (by omega), ?_⟩
    rw [xt_m32, nI_clamp (by omega), nI_clamp (by omega)]
    exact ⟨vp_in_nI (by omega) (by omega), nm_r cp_s (nm_r (nI_1 i) h1)⟩
theorem xr_rem {post : SX → Prop} (mv pn pc : Int32) (ce ne fa li le ta pa tr nw pt : Nat → Int32) {n r : Nat} (hr : r ≤ 20) (hn : n < 20) (h : post (mv, nI ((n + 1) % 20), nI (if r = 20 then 20 else r + 1), ce, ne, fa, li, le, ta, pa, tr, nw, cp_ pt (n * 32) 32 ce)) : wpX_rememberPosition post (mv, nI n, nI r, ce, ne, fa, li, le, ta, pa, tr, nw, pt) := by
  refine ⟨32 + 1, ?_⟩
  have k := xr_2 mv pn pc ce ne fa li le ta pa tr nw pt hr hn h 32 0 (by omega)
  rw [cp_0] at k
  exact k
/-! back -/
theorem yk_21 {post : Int32 → SY → Prop} (mv rm sz jm : Int32) (bd od os sq ab ap az aj : Nat → Int32) {r : Nat} (hr : r < 20) (h : post 1 (os r, nI r, sz, jm, cp_ bd 0 32 (fun i => od (32 * r + i)), od, os, sq, ab, ap, az, aj)) : ∀ d i, i + d = 32 → wY_back_21 post mv (nI r) sz jm (d + 1) (nI i) (cp_ bd 0 i (fun i => od (32 * r + i))) od os sq ab ap az aj := by
  intro d
  induction d with
  | zero =>
    intro i hi
    obtain rfl : i = 32 := by omega
    refine br_t (by decide) ⟨vp_in_nI hr (by omega), ?_⟩
    rw [nI_clamp (by omega)]
    exact nm_e h
  | succ d ih =>
    intro i hi
    have h1 := ih (i + 1) (by omega)
    refine br_f (nI_ge (b := 32) (by omega) (by decide)) ?_
    rw [yg_m32, nI_clamp (by omega), nI_clamp (by omega)]
    refine ⟨vp_in_nI (by omega) (by omega), vp_in_nI (by omega) (by omega), nm_r ?_ (nm_r (nI_1 i) h1)⟩
    have e := cp_s (d := bd) (o := 0) (k := i) (g := fun i => od (32 * r + i))
    rw [Nat.zero_add] at e
    exact e
theorem xk_43 {post : Int32 → SX → Prop} (mv pn pc : Int32) (ce ne fa li le ta pa tr nw pt : Nat → Int32) {n : Nat} (hn : n < 20) (h : post 1 (1 - mv, nI n, pc, cp_ ce 0 32 (fun i => pt (n * 32 + i)), ne, fa, li, le, ta, pa, tr, nw, pt)) : ∀ d i, i + d = 32 → wX_back_43 post mv (nI n) pc (d + 1) (nI i) (cp_ ce 0 i (fun i => pt (n * 32 + i))) ne fa li le ta pa tr nw pt := by
  intro d
  induction d with
  | zero =>
    intro i hi
    obtain rfl : i = 32 := by omega
    exact br_t (by decide) (nm_e h)
  | succ d ih =>
    intro i hi
    have h1 := ih (i + 1) (by omega)
    refine br_f (nI_ge (b := 32) (by omega) (by decide)) ?_
    rw [xt_m32, nI_clamp (by omega), nI_clamp (by omega)]
    refine ⟨vp_in_nI (by omega) (by omega), vp_in_nI (by omega) (by omega), nm_r ?_ (nm_r (nI_1 i) h1)⟩
    have e := cp_s (d := ce) (o := 0) (k := i) (g := fun i => pt (n * 32 + i))
    rw [Nat.zero_add] at e
    exact e
