/-! the relation, and the smaller methods -/
def i_Rel (_ : Nat) (u : SX) (v : SY) : Prop := ∃ (mv : Int32) (ce ne fa li le ta pa tr nw pt : Nat → Int32) (sz jm : Int32) (od os sq ab ap az aj : Nat → Int32) (n r : Nat), u = (mv, nI n, nI r, ce, ne, fa, li, le, ta, pa, tr, nw, pt) ∧ v = (mv, nI r, sz, jm, xt_b ce 0, od, os, sq, ab, ap, az, aj) ∧ xt_T ne fa ∧ dr_V (xt_b ce 0) ∧ n < 20 ∧ r ≤ 20 ∧ mm_ mv n r pt od os
theorem iv_mk {k n r : Nat} {mv : Int32} {ce ne fa li le ta pa tr nw pt : Nat → Int32} {sz jm : Int32} {bd od os sq ab ap az aj : Nat → Int32} (hB : bd = xt_b ce 0) (hT : xt_T ne fa) (hb : dr_V bd) (hn : n < 20) (hr : r ≤ 20) (hM : mm_ mv n r pt od os) : i_Rel k (mv, nI n, nI r, ce, ne, fa, li, le, ta, pa, tr, nw, pt) (mv, nI r, sz, jm, bd, od, os, sq, ab, ap, az, aj) := by
  subst hB
  exact ⟨mv, ce, ne, fa, li, le, ta, pa, tr, nw, pt, sz, jm, od, os, sq, ab, ap, az, aj, n, r, rfl, rfl, hT, hb, hn, hr, hM⟩
theorem i_up {k : Nat} {u : SX} {v : SY} (h : i_Rel k u v) : i_Rel (k + 3) u v := h
theorem i_vc0 : wpX_init (fun u => wpY_init (fun v => i_Rel 0 u v)) := by
  refine xi_init ?_
  intro ne fa hT
  have e : (fun _ => 0 : Nat → Int32) = xt_b (fun _ => 0) 0 := by
    funext i
    unfold xt_b
    split <;> rfl
  exact iv_mk (k := 0) (n := 0) (r := 0) e hT (fun _ => Or.inl rfl) (by omega) (by omega) mm_0
theorem iv_xs {post : Int32 → Prop} {s : Nat} (hs : s < 32) (h : post 1) : wpX_isSquare post (nI s) := br_f (nI_pos (by omega)) (br_f (nI_ge (b := 32) hs (by decide)) h)
theorem iv_xn {post : Int32 → Prop} {x : Int32} (hx : x < 0 ∨ nI 32 ≤ x) (h : post 0) : wpX_isSquare post x := br_c (fun _ => h) (fun z => br_c (fun _ => h) (fun z2 => absurd (hx.resolve_left z) z2))
theorem iv_ys {post : Int32 → Prop} {v : SY} {s : Nat} (hs : s < 32) (h : post 1) : wpY_square post v (nI s) := by
  obtain ⟨mv, rm, sz, jm, bd, od, os, sq, ab, ap, az, aj⟩ := v
  exact br_f (nI_pos (by omega)) (br_f (nI_nlt (a := 31) (b := s) (by omega) (by omega)) h)
theorem iv_yn {post : Int32 → Prop} {v : SY} {x : Int32} (hx : x < 0 ∨ nI 32 ≤ x) (h : post 0) : wpY_square post v x := by
  obtain ⟨mv, rm, sz, jm, bd, od, os, sq, ab, ap, az, aj⟩ := v
  exact br_c (fun _ => h) (fun z => br_c (fun _ => h) (fun z2 => absurd (Int32.lt_of_lt_of_le (show (31 : Int32) < nI 32 by decide) (hx.resolve_left z)) z2))
theorem iv_up {ce : Nat → Int32} {s : Nat} {x : Int32} (hs : s < 32) : upd (xt_b ce 0) s x = xt_b (upd ce s x) 0 := by
  funext i
  unfold xt_b upd
  rw [Nat.zero_mul, Nat.zero_add]
  by_cases e : i = s
  · rw [if_pos e, if_pos (by omega), if_pos e]
  · rw [if_neg e, if_neg e]
    dsimp only
    rw [Nat.zero_add]
theorem iv_5 {x : Int32} (h0 : ¬ x < 0) (h4 : ¬ 4 < x) : dr_5 x := by
  obtain ⟨j, hj, rfl⟩ := nI_of h0
  have h : j ≤ 4 := by
    rcases Nat.lt_or_ge 4 j with z | z
    · exact absurd (nI_lt (a := 4) z hj) h4
    · exact z
  obtain rfl | rfl | rfl | rfl | rfl : j = 0 ∨ j = 1 ∨ j = 2 ∨ j = 3 ∨ j = 4 := by omega
  · exact Or.inl rfl
  · exact Or.inr (Or.inl rfl)
  · exact Or.inr (Or.inr (Or.inl rfl))
  · exact Or.inr (Or.inr (Or.inr (Or.inl rfl)))
  · exact Or.inr (Or.inr (Or.inr (Or.inr rfl)))
theorem i_vc_place {k : Nat} {u : SX} {v : SY} (I : i_Rel k u v) (hk : k + 3 ≤ 1536) (v1 : Int32) (v2 : Int32) : wpX_place (fun r u' => wpY_place (fun r' v' => r' = r ∧ i_Rel (k + 3) u' v') v v1 v2) u v1 v2 := by
  obtain ⟨mv, ce, ne, fa, li, le, ta, pa, tr, nw, pt, sz, jm, od, os, sq, ab, ap, az, aj, n, r, rfl, rfl, hT, hb, hn, hr, hM⟩ := I
  have R : i_Rel (k + 3) (mv, nI n, nI r, ce, ne, fa, li, le, ta, pa, tr, nw, pt) (mv, nI r, sz, jm, xt_b ce 0, od, os, sq, ab, ap, az, aj) := iv_mk rfl hT hb hn hr hM
  unfold wpX_place wpY_place
  dsimp only
  rcases pk_ix v1 (n := 32) (by decide) with h | h | ⟨s, hs, rfl⟩
  · exact iv_xn (Or.inl h) (br_t rfl (iv_yn (Or.inl h) (br_t rfl ⟨rfl, R⟩)))
  · exact iv_xn (Or.inr h) (br_t rfl (iv_yn (Or.inr h) (br_t rfl ⟨rfl, R⟩)))
  · refine iv_xs hs (br_f (by decide) ?_)
    by_cases h0 : v2 < 0
    · exact br_t h0 (iv_ys hs (br_f (by decide) (br_t h0 ⟨rfl, R⟩)))
    · refine br_f h0 ?_
      by_cases h4 : 4 < v2
      · exact br_t h4 (iv_ys hs (br_f (by decide) (br_f h0 (br_t h4 ⟨rfl, R⟩))))
      · refine br_f h4 (xc_la hs ?_)
        have hx := iv_5 h0 h4
        cases hc : dr_la v2 s with
        | true =>
          refine br_f (by decide) (iv_ys hs (br_f (by decide) (br_f h0 (br_f h4 (ya_last hx hs ?_)))))
          rw [hc]
          exact br_f (by decide) ⟨rfl, R⟩
        | false =>
          refine br_t rfl ⟨vp_in_nI (by omega) (by omega), nm_e ?_⟩
          unfold wpX_forgetPast
          dsimp only
          refine iv_ys hs (br_f (by decide) (br_f h0 (br_f h4 (ya_last hx hs ?_))))
          rw [hc, nI_clamp (by omega)]
          refine br_t rfl ⟨vp_in_nI hs (by omega), nm_e ⟨rfl, ?_⟩⟩
          refine iv_mk (r := 0) (iv_up hs) hT ?_ hn (by omega) mm_0
          intro i
          unfold upd
          split
          · exact hx
          · exact hb i
theorem i_vc_turn {k : Nat} {u : SX} {v : SY} (I : i_Rel k u v) (hk : k + 3 ≤ 1536) (v1 : Int32) : wpX_turn (fun r u' => wpY_turn (fun r' v' => r' = r ∧ i_Rel (k + 3) u' v') v v1) u v1 := by
  obtain ⟨mv, ce, ne, fa, li, le, ta, pa, tr, nw, pt, sz, jm, od, os, sq, ab, ap, az, aj, n, r, rfl, rfl, hT, hb, hn, hr, hM⟩ := I
  have R : i_Rel (k + 3) (mv, nI n, nI r, ce, ne, fa, li, le, ta, pa, tr, nw, pt) (mv, nI r, sz, jm, xt_b ce 0, od, os, sq, ab, ap, az, aj) := iv_mk rfl hT hb hn hr hM
  have R2 : i_Rel (k + 3) (v1, nI n, 0, ce, ne, fa, li, le, ta, pa, tr, nw, pt) (v1, 0, sz, jm, xt_b ce 0, od, os, sq, ab, ap, az, aj) := iv_mk (r := 0) rfl hT hb hn (by omega) mm_0
  unfold wpX_turn wpY_turn
  dsimp only
  by_cases h0 : v1 = 0
  · refine br_t h0 ?_
    unfold wX_turn_11 wpX_forgetPast
    dsimp only
    exact br_t h0 ⟨rfl, R2⟩
  · refine br_f h0 ?_
    by_cases h1 : v1 = 1
    · refine br_t h1 ?_
      unfold wX_turn_11 wpX_forgetPast
      dsimp only
      exact br_f h0 (br_t h1 ⟨rfl, R2⟩)
    · exact br_f h1 (br_f h0 (br_f h1 ⟨rfl, R⟩))
theorem i_vc_side {k : Nat} {u : SX} {v : SY} (I : i_Rel k u v) (hk : k + 3 ≤ 1536) : wpX_side (fun r => wpY_side (fun r' => r' = r ∧ i_Rel (k + 3) u v) v) u := by
  have R : i_Rel (k + 3) u v := I
  obtain ⟨mv, ce, ne, fa, li, le, ta, pa, tr, nw, pt, sz, jm, od, os, sq, ab, ap, az, aj, n, r, rfl, rfl, hT, hb, hn, hr, hM⟩ := I
  exact ⟨rfl, R⟩
theorem i_vc_at {k : Nat} {u : SX} {v : SY} (I : i_Rel k u v) (hk : k + 3 ≤ 1536) (v1 : Int32) : wpX_at (fun r => wpY_at (fun r' => r' = r ∧ i_Rel (k + 3) u v) v v1) u v1 := by
  have R : i_Rel (k + 3) u v := I
  obtain ⟨mv, ce, ne, fa, li, le, ta, pa, tr, nw, pt, sz, jm, od, os, sq, ab, ap, az, aj, n, r, rfl, rfl, hT, hb, hn, hr, hM⟩ := I
  unfold wpX_at wpY_at
  dsimp only
  rcases pk_ix v1 (n := 32) (by decide) with h | h | ⟨s, hs, rfl⟩
  · exact iv_xn (Or.inl h) (br_t rfl (iv_yn (Or.inl h) (br_t rfl ⟨rfl, R⟩)))
  · exact iv_xn (Or.inr h) (br_t rfl (iv_yn (Or.inr h) (br_t rfl ⟨rfl, R⟩)))
  · refine iv_xs hs (br_f (by decide) ⟨vp_in_nI (by omega) (by omega), iv_ys hs (br_f (by decide) ⟨vp_in_nI hs (by omega), ?_, R⟩)⟩)
    rw [nI_clamp (by omega), xt_in hs, Nat.zero_mul, Nat.zero_add]
def dr_ct (b : Nat → Int32) (x : Int32) : Nat → Int32
  | 0 => 0
  | i + 1 => if b i = x then dr_ct b x i + 1 else dr_ct b x i
theorem iv_xc {post : Int32 → Prop} (mv pn pc : Int32) (ce ne fa li le ta pa tr nw pt : Nat → Int32) {x : Int32} (h : post (dr_ct (xt_b ce 0) x 32)) : ∀ d i, i + d = 32 → wX_count_16 post x mv pn pc ce ne fa li le ta pa tr nw pt (d + 1) (dr_ct (xt_b ce 0) x i) (nI i) := by
  intro d
  induction d with
  | zero =>
    intro i hi
    obtain rfl : i = 32 := by omega
    exact br_t (by decide) h
  | succ d ih =>
    intro i hi
    have h1 := ih (i + 1) (by omega)
    have e : xt_b ce 0 i = ce i := by rw [xt_in (by omega), Nat.zero_mul, Nat.zero_add]
    simp only [dr_ct, e] at h1
    refine br_f (nI_ge (b := 32) (by omega) (by decide)) ⟨vp_in_nI (by omega) (by omega), ?_⟩
    rw [nI_clamp (by omega)]
    refine br_c (fun z => ?_) (fun z => ?_)
    · rw [if_pos z] at h1
      exact nm_e (nm_r (nI_1 i) h1)
    · rw [if_neg z] at h1
      exact nm_r (nI_1 i) h1
theorem iv_yc {post : Int32 → Prop} (mv rm sz jm : Int32) (bd od os sq ab ap az aj : Nat → Int32) {x : Int32} (h : (x < 1 → post (-1)) ∧ (¬ x < 1 → ((4 < x → post (-1)) ∧ (¬ 4 < x → post (dr_ct bd x 32))))) : ∀ d i, i + d = 32 → wY_count_4 post x mv rm sz jm bd od os sq ab ap az aj (d + 1) (dr_ct bd x i) (nI i) := by
  intro d
  induction d with
  | zero =>
    intro i hi
    obtain rfl : i = 32 := by omega
    exact br_t (by decide) h
  | succ d ih =>
    intro i hi
    have h1 := ih (i + 1) (by omega)
    simp only [dr_ct] at h1
    refine br_f (nI_ge (b := 32) (by omega) (by decide)) ⟨vp_in_nI (by omega) (by omega), ?_⟩
    rw [nI_clamp (by omega)]
    refine br_c (fun z => ?_) (fun z => ?_)
    · rw [if_pos z] at h1
      exact nm_e (nm_r (nI_1 i) h1)
    · rw [if_neg z] at h1
      exact nm_r (nI_1 i) h1
theorem i_vc_count {k : Nat} {u : SX} {v : SY} (I : i_Rel k u v) (hk : k + 3 ≤ 1536) (v1 : Int32) : wpX_count (fun r => wpY_count (fun r' => r' = r ∧ i_Rel (k + 3) u v) v v1) u v1 := by
  have R : i_Rel (k + 3) u v := I
  obtain ⟨mv, ce, ne, fa, li, le, ta, pa, tr, nw, pt, sz, jm, od, os, sq, ab, ap, az, aj, n, r, rfl, rfl, hT, hb, hn, hr, hM⟩ := I
  unfold wpX_count wpY_count
  dsimp only
  by_cases h1 : v1 < 1
  · exact br_t h1 ⟨32 + 1, iv_yc mv (nI r) sz jm (xt_b ce 0) od os sq ab ap az aj (br_t h1 ⟨rfl, R⟩) 32 0 (by omega)⟩
  · refine br_f h1 ?_
    by_cases h4 : v1 ≤ 4
    · refine br_t h4 ⟨32 + 1, iv_xc mv (nI n) (nI r) ce ne fa li le ta pa tr nw pt ?_ 32 0 (by omega)⟩
      exact ⟨32 + 1, iv_yc mv (nI r) sz jm (xt_b ce 0) od os sq ab ap az aj (br_f h1 (br_f (Int32.not_lt.mpr h4) ⟨rfl, R⟩)) 32 0 (by omega)⟩
    · refine br_f h4 ⟨32 + 1, iv_yc mv (nI r) sz jm (xt_b ce 0) od os sq ab ap az aj (br_f h1 (br_t ?_ ⟨rfl, R⟩)) 32 0 (by omega)⟩
      exact Int32.not_le.mp h4
def dr_st (s : Nat) : Int32 := if s < 12 then 1 else if s < 20 then 0 else 3
theorem iv_x2 {post : SX → Prop} (mv pn pc : Int32) (ce ne fa li le ta pa tr nw pt : Nat → Int32) (h : post (0, pn, 0, cp_ ce 0 32 dr_st, ne, fa, li, le, ta, pa, tr, nw, pt)) : ∀ d i, i + d = 32 → wX_start_2 post mv pn pc (d + 1) (nI i) (cp_ ce 0 i dr_st) ne fa li le ta pa tr nw pt := by
  intro d
  induction d with
  | zero =>
    intro i hi
    obtain rfl : i = 32 := by omega
    exact br_t (by decide) h
  | succ d ih =>
    intro i hi
    have h1 := ih (i + 1) (by omega)
    have e := cp_s (d := ce) (o := 0) (k := i) (g := dr_st)
    rw [Nat.zero_add] at e
    refine br_f (nI_ge (b := 32) (by omega) (by decide)) ?_
    rw [nI_clamp (by omega)]
    refine pk_le 12 i (fun z => pk_le 20 i (fun z2 => ?_) (fun z2 => ?_)) (fun z => ?_)
    · rw [show dr_st i = 3 from by unfold dr_st; rw [if_neg (by omega), if_neg (by omega)]] at e
      exact ⟨vp_in_nI (by omega) (by omega), nm_r e (nm_r (nI_1 i) h1)⟩
    · rw [show dr_st i = 0 from by unfold dr_st; rw [if_neg (by omega), if_pos (by omega)]] at e
      exact ⟨vp_in_nI (by omega) (by omega), nm_r e (nm_r (nI_1 i) h1)⟩
    · rw [show dr_st i = 1 from by unfold dr_st; rw [if_pos (by omega)]] at e
      exact ⟨vp_in_nI (by omega) (by omega), nm_r e (nm_r (nI_1 i) h1)⟩
theorem iv_y2 {post : SY → Prop} (mv rm sz jm : Int32) (bd od os sq ab ap az aj : Nat → Int32) (h : post (0, 0, sz, jm, cp_ bd 0 32 dr_st, od, os, sq, ab, ap, az, aj)) : ∀ d i, i + d = 32 → wY_start_2 post mv rm sz jm (d + 1) (nI i) (cp_ bd 0 i dr_st) od os sq ab ap az aj := by
  intro d
  induction d with
  | zero =>
    intro i hi
    obtain rfl : i = 32 := by omega
    exact br_t (by decide) h
  | succ d ih =>
    intro i hi
    have h1 := ih (i + 1) (by omega)
    have e := cp_s (d := bd) (o := 0) (k := i) (g := dr_st)
    rw [Nat.zero_add] at e
    refine br_f (nI_ge (b := 32) (by omega) (by decide)) ?_
    rw [nI_clamp (by omega)]
    refine pk_lt 11 i (fun z => pk_lt i 20 (fun z2 => ?_) (fun z2 => ?_)) (fun z => ?_)
    · rw [show dr_st i = 0 from by unfold dr_st; rw [if_neg (by omega), if_pos (by omega)]] at e
      exact ⟨vp_in_nI (by omega) (by omega), nm_r e (nm_r (nI_1 i) h1)⟩
    · rw [show dr_st i = 3 from by unfold dr_st; rw [if_neg (by omega), if_neg (by omega)]] at e
      exact ⟨vp_in_nI (by omega) (by omega), nm_r e (nm_r (nI_1 i) h1)⟩
    · rw [show dr_st i = 1 from by unfold dr_st; rw [if_pos (by omega)]] at e
      exact ⟨vp_in_nI (by omega) (by omega), nm_r e (nm_r (nI_1 i) h1)⟩
theorem iv_cp {ce g : Nat → Int32} : cp_ (xt_b ce 0) 0 32 g = xt_b (cp_ ce 0 32 g) 0 := by
  funext i
  rcases Nat.lt_or_ge i 32 with h | h
  · rw [cp_in0 h, xt_in h, Nat.zero_mul, Nat.zero_add, cp_in0 h]
  · rw [cp_out (by omega)]
    unfold xt_b
    rw [if_neg (by omega), if_neg (by omega)]
theorem i_vc_start {k : Nat} {u : SX} {v : SY} (I : i_Rel k u v) (hk : k + 3 ≤ 1536) : wpX_start (fun u' => wpY_start (fun v' => i_Rel (k + 3) u' v') v) u := by
  obtain ⟨mv, ce, ne, fa, li, le, ta, pa, tr, nw, pt, sz, jm, od, os, sq, ab, ap, az, aj, n, r, rfl, rfl, hT, hb, hn, hr, hM⟩ := I
  unfold wpX_start wpY_start
  dsimp only
  refine ⟨32 + 1, ?_⟩
  have kx := iv_x2 (post := fun u' => ∃ n2 : Nat, wY_start_2 (fun v' => i_Rel (k + 3) u' v') mv (nI r) sz jm n2 0 (xt_b ce 0) od os sq ab ap az aj) mv (nI n) (nI r) ce ne fa li le ta pa tr nw pt (by
    refine ⟨32 + 1, ?_⟩
    have ky := iv_y2 (post := fun v' => i_Rel (k + 3) (0, nI n, 0, cp_ ce 0 32 dr_st, ne, fa, li, le, ta, pa, tr, nw, pt) v') mv (nI r) sz jm (xt_b ce 0) od os sq ab ap az aj (by
      refine iv_mk (r := 0) iv_cp hT ?_ hn (by omega) mm_0
      intro i
      unfold cp_ dr_st
      split
      · split
        · exact Or.inr (Or.inl rfl)
        · split
          · exact Or.inl rfl
          · exact Or.inr (Or.inr (Or.inr (Or.inl rfl)))
      · exact hb i) 32 0 (by omega)
    rw [cp_0] at ky
    exact ky) 32 0 (by omega)
  rw [cp_0] at kx
  exact kx
