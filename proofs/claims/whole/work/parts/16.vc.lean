/-! the methods that list moves -/
theorem iw_512 {b : Nat → Int32} {sd : Int32} : (tr_ML b sd).length ≤ 512 := tr_fr_len 32 0 (by omega)
theorem i_vc_moves {k : Nat} {u : SX} {v : SY} (I : i_Rel k u v) (hk : k + 3 ≤ 1536) : wpX_moves (fun r u' => wpY_moves (fun r' v' => r' = r ∧ i_Rel (k + 3) u' v') v) u := by
  obtain ⟨mv, ce, ne, fa, li, le, ta, pa, tr, nw, pt, sz, jm, od, os, sq, ab, ap, az, aj, n, r, rfl, rfl, hT, hb, hn, hr, hM⟩ := I
  unfold wpX_moves
  dsimp only
  refine xm_list mv (nI n) (nI r) ce ne fa li le ta pa tr nw pt (q := 0) (by omega) hT ?_
  intro li' le' ta' pa' tr' nw' hR
  dsimp only
  rw [hR.1]
  refine yf_moves mv (nI r) sz jm (xt_b ce 0) od os sq ab ap az aj hb ?_
  intro sz' jm' sq'
  exact ⟨rfl, iv_mk rfl hT hb hn hr hM⟩
theorem i_vc_mustJump {k : Nat} {u : SX} {v : SY} (I : i_Rel k u v) (hk : k + 3 ≤ 1536) : wpX_mustJump (fun r u' => wpY_mustJump (fun r' v' => r' = r ∧ i_Rel (k + 3) u' v') v) u := by
  obtain ⟨mv, ce, ne, fa, li, le, ta, pa, tr, nw, pt, sz, jm, od, os, sq, ab, ap, az, aj, n, r, rfl, rfl, hT, hb, hn, hr, hM⟩ := I
  unfold wpX_mustJump
  dsimp only
  refine xm_list mv (nI n) (nI r) ce ne fa li le ta pa tr nw pt (q := 0) (by omega) hT ?_
  intro li' le' ta' pa' tr' nw' hR
  dsimp only
  have e0 : xm_sd 0 mv = mv := rfl
  rw [e0] at hR
  have hl := iw_512 (b := xt_b ce 0) (sd := mv)
  have Y : ∀ x, dr_bI (tr_mj (xt_b ce 0) mv) = x → wpY_mustJump (fun r' v' => r' = x ∧ i_Rel (k + 3) (mv, nI n, nI r, ce, ne, fa, li', le', ta', pa', tr', nw', pt) v') (mv, nI r, sz, jm, xt_b ce 0, od, os, sq, ab, ap, az, aj) := by
    intro x hx
    refine yf_must mv (nI r) sz jm (xt_b ce 0) od os sq ab ap az aj hb ?_
    intro sz' jm' sq'
    exact ⟨hx, iv_mk rfl hT hb hn hr hM⟩
  rw [hR.1]
  cases hm : tr_mj (xt_b ce 0) mv with
  | true =>
    have hne : 0 < (tr_ML (xt_b ce 0) mv).length := by
      rw [List.length_pos_iff]
      unfold tr_ML
      rw [hm]
      unfold tr_mj at hm
      exact of_decide_eq_true hm
    refine br_f (nI_nle hne (by omega)) (br_f ?_ (Y 1 (by rw [hm]; rfl)))
    obtain ⟨p, e1, e2⟩ := xd_drop hne
    obtain ⟨v1, v2⟩ := tr_ML_V e1
    obtain ⟨g1, g2, g3, g4⟩ := hR.2.2.1 0 p e1
    rw [hm] at g2
    rw [show ta' 0 = mk_ p from g2]
    exact mk_ne (tr_V_b v1) v2
  | false =>
    have Y0 := Y 0 (by rw [hm]; rfl)
    refine pk_le (tr_ML (xt_b ce 0) mv).length 0 (fun z => Y0) (fun z => ?_)
    obtain ⟨p, e1, e2⟩ := xd_drop z
    obtain ⟨g1, g2, g3, g4⟩ := hR.2.2.1 0 p e1
    rw [hm] at g2
    exact br_t (show ta' 0 = 0 from g2) Y0
theorem iw_E0 {j : Bool} {b : Nat → Int32} {sd : Int32} {L : List (List Nat)} {on sz : Int32} {sq : Nat → Int32} (h : tr_E j b sd L on sz sq) (hL : L = []) : on = 0 := by
  rcases tr_E_on h with ⟨_, e⟩ | ⟨e, _⟩
  · exact e
  · exact absurd hL e
theorem tr_S_eq : ∀ (p : List Nat) (f g : Nat → Int32), tr_S f p → tr_S g p → ∀ i, i < p.length → f i = g i := by
  intro p
  induction p with
  | nil => intro f g _ _ i hi; exact absurd hi (by simp)
  | cons t q ih =>
    intro f g hf hg i hi
    simp only [List.length_cons] at hi
    rcases Nat.lt_or_ge i q.length with z | z
    · exact ih f g hf.2 hg.2 i z
    · obtain rfl : i = q.length := by omega
      exact hf.1.trans hg.1.symm
theorem yf_path {post : Int32 → SY → Prop} (mv rm sz jm : Int32) (bd od os sq ab ap az aj : Nat → Int32) {m : Nat} {v2 : Int32} {p : List Nat} {rest : List (List Nat)} (hm : m < 2 ^ 31) (hb : dr_V bd) (e2 : (tr_ML bd mv).drop m = p :: rest)
    (h : ∀ jm' sq', tr_S sq' p → (v2 < 0 → post (-1) (mv, rm, nI p.length, jm', bd, od, os, sq', ab, ap, az, aj)) ∧ (¬ v2 < 0 → ((nI p.length ≤ v2 → post (-1) (mv, rm, nI p.length, jm', bd, od, os, sq', ab, ap, az, aj)) ∧ (¬ nI p.length ≤ v2 → (vp_in v2 40 ∧ post (sq' v2.toNatClampNeg) (mv, rm, nI p.length, jm', bd, od, os, sq', ab, ap, az, aj)))))) : wpY_path post (mv, rm, sz, jm, bd, od, os, sq, ab, ap, az, aj) (nI m) v2 := by
  unfold wpY_path
  dsimp only
  refine yf_find mv rm sz jm bd od os sq ab ap az aj hm hb ?_
  intro on sz' sq' hE
  rw [e2] at hE
  obtain ⟨a1, a2, a3, a4, a5⟩ := tr_E_sz hE
  subst a3 a5
  exact br_f (by decide) (h _ sq' a2)
theorem i_vc_path {k : Nat} {u : SX} {v : SY} (I : i_Rel k u v) (hk : k + 3 ≤ 1536) (v1 : Int32) (v2 : Int32) : wpX_path (fun r u' => wpY_path (fun r' v' => r' = r ∧ i_Rel (k + 3) u' v') v v1 v2) u v1 v2 := by
  obtain ⟨mv, ce, ne, fa, li, le, ta, pa, tr, nw, pt, sz, jm, od, os, sq, ab, ap, az, aj, n, r, rfl, rfl, hT, hb, hn, hr, hM⟩ := I
  unfold wpX_path wpX_listAndFind
  dsimp only
  refine xm_list mv (nI n) (nI r) ce ne fa li le ta pa tr nw pt (q := 0) (by omega) hT ?_
  intro li' le' ta' pa' tr' nw' hR
  dsimp only
  have e0 : xm_sd 0 mv = mv := rfl
  rw [e0] at hR
  have hl := iw_512 (b := xt_b ce 0) (sd := mv)
  rw [hR.1]
  by_cases h0 : v1 < 0
  · refine br_t h0 (br_t rfl ?_)
    unfold wpY_path
    dsimp only
    refine yf_findN mv (nI r) sz jm (xt_b ce 0) od os sq ab ap az aj h0 ?_
    exact br_t rfl ⟨rfl, iv_mk rfl hT hb hn hr hM⟩
  · refine br_f h0 ?_
    obtain ⟨m, hm, rfl⟩ := nI_of h0
    refine pk_le (tr_ML (xt_b ce 0) mv).length m (fun z => ?_) (fun z => ?_)
    · refine br_t rfl ?_
      unfold wpY_path
      dsimp only
      refine yf_find mv (nI r) sz jm (xt_b ce 0) od os sq ab ap az aj hm hb ?_
      intro on sz' sq' hE
      have := iw_E0 hE (List.drop_eq_nil_of_le z)
      subst this
      exact br_t rfl ⟨rfl, iv_mk rfl hT hb hn hr hM⟩
    · refine br_f (by decide) ?_
      obtain ⟨p, e1, e2⟩ := xd_drop z
      obtain ⟨w1, w2⟩ := tr_ML_V e1
      obtain ⟨g1, g2, g3, g4⟩ := hR.2.2.1 m p e1
      by_cases h2 : v2 < 0
      · refine br_t h2 (yf_path mv (nI r) sz jm (xt_b ce 0) od os sq ab ap az aj hm hb e2 ?_)
        intro jm' sq' hS
        exact br_t h2 ⟨rfl, iv_mk rfl hT hb hn hr hM⟩
      · refine br_f h2 ⟨vp_in_nI (by omega) (by omega), ?_⟩
        obtain ⟨i, hi, rfl⟩ := nI_of h2
        rw [nI_clamp hm, show le' m = nI p.length from by rw [← g1, Nat.zero_mul, Nat.zero_add]]
        refine pk_lt i p.length (fun y => ?_) (fun y => ?_)
        · rw [xt_m10, nI_clamp (show m * 10 + i < 2 ^ 31 by omega)]
          refine ⟨vp_in_nI (by omega) (by omega), yf_path mv (nI r) sz jm (xt_b ce 0) od os sq ab ap az aj hm hb e2 ?_⟩
          intro jm' sq' hS
          refine br_f h2 (br_f (nI_ge y (by omega)) ⟨vp_in_nI (by omega) (by omega), ?_, iv_mk rfl hT hb hn hr hM⟩)
          rw [nI_clamp hi, tr_S_eq p _ _ hS g3 i y, Nat.zero_mul, Nat.zero_add]
        · refine yf_path mv (nI r) sz jm (xt_b ce 0) od os sq ab ap az aj hm hb e2 ?_
          intro jm' sq' hS
          exact br_f h2 (br_t (nI_le y hi) ⟨rfl, iv_mk rfl hT hb hn hr hM⟩)
theorem i_vc_length {k : Nat} {u : SX} {v : SY} (I : i_Rel k u v) (hk : k + 3 ≤ 1536) (v1 : Int32) : wpX_length (fun r u' => wpY_length (fun r' v' => r' = r ∧ i_Rel (k + 3) u' v') v v1) u v1 := by
  obtain ⟨mv, ce, ne, fa, li, le, ta, pa, tr, nw, pt, sz, jm, od, os, sq, ab, ap, az, aj, n, r, rfl, rfl, hT, hb, hn, hr, hM⟩ := I
  unfold wpX_length wpX_listAndFind
  dsimp only
  refine xm_list mv (nI n) (nI r) ce ne fa li le ta pa tr nw pt (q := 0) (by omega) hT ?_
  intro li' le' ta' pa' tr' nw' hR
  dsimp only
  have e0 : xm_sd 0 mv = mv := rfl
  rw [e0] at hR
  have hl := iw_512 (b := xt_b ce 0) (sd := mv)
  rw [hR.1]
  unfold wpY_length
  dsimp only
  by_cases h0 : v1 < 0
  · refine br_t h0 (br_t rfl ?_)
    refine yf_findN mv (nI r) sz jm (xt_b ce 0) od os sq ab ap az aj h0 ?_
    exact br_t rfl ⟨rfl, iv_mk rfl hT hb hn hr hM⟩
  · refine br_f h0 ?_
    obtain ⟨m, hm, rfl⟩ := nI_of h0
    refine pk_le (tr_ML (xt_b ce 0) mv).length m (fun z => ?_) (fun z => ?_)
    · refine br_t rfl ?_
      refine yf_find mv (nI r) sz jm (xt_b ce 0) od os sq ab ap az aj hm hb ?_
      intro on sz' sq' hE
      have := iw_E0 hE (List.drop_eq_nil_of_le z)
      subst this
      exact br_t rfl ⟨rfl, iv_mk rfl hT hb hn hr hM⟩
    · obtain ⟨p, e1, e2⟩ := xd_drop z
      obtain ⟨g1, g2, g3, g4⟩ := hR.2.2.1 m p e1
      refine br_f (by decide) ⟨vp_in_nI (by omega) (by omega), ?_⟩
      rw [nI_clamp hm, show le' m = nI p.length from by rw [← g1, Nat.zero_mul, Nat.zero_add]]
      refine yf_find mv (nI r) sz jm (xt_b ce 0) od os sq ab ap az aj hm hb ?_
      intro on sz' sq' hE
      rw [e2] at hE
      obtain ⟨a1, a2, a3, a4, a5⟩ := tr_E_sz hE
      subst a3 a5
      exact br_f (by decide) ⟨rfl, iv_mk rfl hT hb hn hr hM⟩
theorem i_vc_mostTaken {k : Nat} {u : SX} {v : SY} (I : i_Rel k u v) (hk : k + 3 ≤ 1536) : wpX_mostTaken (fun r u' => wpY_mostTaken (fun r' v' => r' = r ∧ i_Rel (k + 3) u' v') v) u := by
  obtain ⟨mv, ce, ne, fa, li, le, ta, pa, tr, nw, pt, sz, jm, od, os, sq, ab, ap, az, aj, n, r, rfl, rfl, hT, hb, hn, hr, hM⟩ := I
  unfold wpX_mostTaken
  dsimp only
  refine xm_list mv (nI n) (nI r) ce ne fa li le ta pa tr nw pt (q := 0) (by omega) hT ?_
  intro li' le' ta' pa' tr' nw' hR
  dsimp only
  have e0 : xm_sd 0 mv = mv := rfl
  rw [e0] at hR
  rw [hR.1]
  refine nm_e ⟨(tr_ML (xt_b ce 0) mv).length + 1, ?_⟩
  refine xd_mt mv (nI n) (nI r) ce ne fa li' le' ta' pa' tr' nw' pt (b := xt_b ce 0) hR.2.2.1 iw_512 (fun k p e => tr_ML_V e) (tr_ML (xt_b ce 0) mv).length 0 0 (by omega) ?_
  refine yf_most mv (nI r) sz jm (xt_b ce 0) od os sq ab ap az aj hb ?_
  intro sz' jm' sq'
  exact ⟨rfl, iv_mk rfl hT hb hn hr hM⟩
theorem i_vc_movable {k : Nat} {u : SX} {v : SY} (I : i_Rel k u v) (hk : k + 3 ≤ 1536) : wpX_movable (fun r u' => wpY_movable (fun r' v' => r' = r ∧ i_Rel (k + 3) u' v') v) u := by
  obtain ⟨mv, ce, ne, fa, li, le, ta, pa, tr, nw, pt, sz, jm, od, os, sq, ab, ap, az, aj, n, r, rfl, rfl, hT, hb, hn, hr, hM⟩ := I
  unfold wpX_movable
  dsimp only
  refine xm_list mv (nI n) (nI r) ce ne fa li le ta pa tr nw pt (q := 0) (by omega) hT ?_
  intro li' le' ta' pa' tr' nw' hR
  dsimp only
  have e0 : xm_sd 0 mv = mv := rfl
  rw [e0] at hR
  rw [hR.1]
  refine nm_e ⟨(tr_ML (xt_b ce 0) mv).length + 1, ?_⟩
  refine xd_mo mv (nI n) (nI r) ce ne fa li' le' ta' pa' tr' nw' pt (b := xt_b ce 0) hR.2.2.1 iw_512 (fun k p e => tr_ML_V e) (tr_ML (xt_b ce 0) mv).length 0 0 (by omega) ?_
  refine yf_mova mv (nI r) sz jm (xt_b ce 0) od os sq ab ap az aj hb ?_
  intro sz' jm' sq'
  exact ⟨rfl, iv_mk rfl hT hb hn hr hM⟩
