/-! play, back, plays -/
theorem i_vc_play {k : Nat} {u : SX} {v : SY} (I : i_Rel k u v) (hk : k + 3 ≤ 1536) (v1 : Int32) : wpX_play (fun r u' => wpY_play (fun r' v' => r' = r ∧ i_Rel (k + 3) u' v') v v1) u v1 := by
  obtain ⟨mv, ce, ne, fa, li, le, ta, pa, tr, nw, pt, sz, jm, od, os, sq, ab, ap, az, aj, n, r, rfl, rfl, hT, hb, hn, hr, hM⟩ := I
  unfold wpX_play wpX_listAndFind
  dsimp only
  refine xm_list mv (nI n) (nI r) ce ne fa li le ta pa tr nw pt (q := 0) (by omega) hT ?_
  intro li' le' ta' pa' tr' nw' hR
  dsimp only
  have e0 : xm_sd 0 mv = mv := rfl
  rw [e0] at hR
  have hl := iw_512 (b := xt_b ce 0) (sd := mv)
  rw [hR.1]
  by_cases h0 : v1 < 0
  · refine br_t h0 (br_t rfl ?_)
    unfold wpY_play
    dsimp only
    refine yf_findN mv (nI r) sz jm (xt_b ce 0) od os sq ab ap az aj h0 ?_
    exact br_t rfl ⟨rfl, iv_mk rfl hT hb hn hr hM⟩
  · refine br_f h0 ?_
    obtain ⟨m, hm, rfl⟩ := nI_of h0
    refine pk_le (tr_ML (xt_b ce 0) mv).length m (fun z => ?_) (fun z => ?_)
    · refine br_t rfl ?_
      unfold wpY_play
      dsimp only
      refine yf_find mv (nI r) sz jm (xt_b ce 0) od os sq ab ap az aj hm hb ?_
      intro on sz' sq' hE
      have := iw_E0 hE (List.drop_eq_nil_of_le z)
      subst this
      exact br_t rfl ⟨rfl, iv_mk rfl hT hb hn hr hM⟩
    · refine br_f (by decide) ?_
      obtain ⟨p, e1, e2⟩ := xd_drop z
      obtain ⟨w1, w2⟩ := tr_ML_V e1
      obtain ⟨g1, g2, g3, g4⟩ := hR.2.2.1 m p e1
      refine xr_rem mv 0 0 ce ne fa li' le' ta' pa' tr' nw' pt hr hn ?_
      dsimp only
      refine xc_carry mv _ _ ce ne fa li' le' ta' pa' tr' nw' _ (q := 0) (q' := 0) (k := m) (by omega) (by omega) (by omega) w1 g1 g2 g3 ?_
      intro ce' c1 c2
      dsimp only
      refine nm_e ?_
      refine xd_takenBy (1 - mv) _ _ ce' ne fa li' le' ta' pa' tr' nw' _ hR.2.2.1 (by omega) e1 (tr_V_b w1) w2 ?_
      unfold wpY_play
      dsimp only
      refine yf_find mv (nI r) sz jm (xt_b ce 0) od os sq ab ap az aj hm hb ?_
      intro on sz' sq' hE
      rw [e2] at hE
      obtain ⟨a1, a2, a3, a4, a5⟩ := tr_E_sz hE
      subst a3 a5
      refine br_f (by decide) ?_
      refine yr_rem mv 0 _ _ (xt_b ce 0) od os sq' ab ap az aj (pt' := cp_ pt (n * 32) 32 ce) (ce := ce) hr hn hM (fun i hi => cp_in hi) (fun i hi => cp_out hi) (fun i hi => by rw [xt_in hi, Nat.zero_mul, Nat.zero_add]) hb ?_
      intro od' os' hM'
      dsimp only
      refine ye_carry mv _ 0 0 (xt_b ce 0) od' os' sq' ab ap az aj hb a1 a2 ?_
      exact ⟨rfl, iv_mk c1.symm hT (tr_ap_V hb) (by omega) (by split <;> omega) hM'⟩
theorem iz_yback {post : Int32 → SY → Prop} (mv rm sz jm : Int32) (bd od os sq ab ap az aj : Nat → Int32) {r : Nat} (hr : r + 1 ≤ 20) (h : post 1 (os r, nI r, sz, jm, cp_ bd 0 32 (fun i => od (32 * r + i)), od, os, sq, ab, ap, az, aj)) : wpY_back post (mv, nI (r + 1), sz, jm, bd, od, os, sq, ab, ap, az, aj) := by
  unfold wpY_back
  dsimp only
  refine br_f (nI_ne0 (by omega) (by omega)) (nm_r (nI_pred r) ⟨32 + 1, ?_⟩)
  have k := yk_21 (post := post) mv 0 sz jm bd od os sq ab ap az aj (r := r) (by omega) h 32 0 (by omega)
  rw [cp_0] at k
  exact k
theorem iz_xback {post : Int32 → SX → Prop} (mv pn pc : Int32) (ce ne fa li le ta pa tr nw pt : Nat → Int32) {n r : Nat} (hn : n < 20) (hr : r + 1 ≤ 20) (h : post 1 (1 - mv, nI ((n + 19) % 20), nI r, cp_ ce 0 32 (fun i => pt ((n + 19) % 20 * 32 + i)), ne, fa, li, le, ta, pa, tr, nw, pt)) : wpX_back post (mv, nI n, nI (r + 1), ce, ne, fa, li, le, ta, pa, tr, nw, pt) := by
  unfold wpX_back
  dsimp only
  refine br_f (nI_ne0 (by omega) (by omega)) (nm_r (nI_pred r) ?_)
  have k := xk_43 (post := post) mv 0 (nI r) ce ne fa li le ta pa tr nw pt (n := (n + 19) % 20) (by omega) h 32 0 (by omega)
  rw [cp_0] at k
  refine pk_eq n 0 (fun z => ⟨32 + 1, ?_⟩) (fun z => nm_r (e' := nI ((n + 19) % 20)) ?_ ⟨32 + 1, k⟩)
  · subst z
    exact k
  · obtain ⟨m, rfl⟩ : ∃ m, n = m + 1 := ⟨n - 1, by omega⟩
    rw [nI_pred, show (m + 1 + 19) % 20 = m by omega]
theorem i_vc_back {k : Nat} {u : SX} {v : SY} (I : i_Rel k u v) (hk : k + 3 ≤ 1536) : wpX_back (fun r u' => wpY_back (fun r' v' => r' = r ∧ i_Rel (k + 3) u' v') v) u := by
  obtain ⟨mv, ce, ne, fa, li, le, ta, pa, tr, nw, pt, sz, jm, od, os, sq, ab, ap, az, aj, n, r, rfl, rfl, hT, hb, hn, hr, hM⟩ := I
  cases r with
  | zero =>
    unfold wpX_back wpY_back
    dsimp only
    exact br_t rfl (br_t rfl ⟨rfl, iv_mk rfl hT hb hn hr hM⟩)
  | succ r =>
    refine iz_xback mv 0 0 ce ne fa li le ta pa tr nw pt hn hr ?_
    refine iz_yback mv 0 sz jm (xt_b ce 0) od os sq ab ap az aj hr ⟨rfl, ?_⟩
    obtain ⟨h1, h2⟩ := hM 0 (by omega)
    have e : os r = 1 - mv := h2
    rw [e]
    have hB : cp_ (xt_b ce 0) 0 32 (fun i => od (32 * r + i)) = xt_b (cp_ ce 0 32 (fun i => pt ((n + 19) % 20 * 32 + i))) 0 := by
      rw [← iv_cp]
      funext i
      unfold cp_
      split
      · rename_i hi
        exact (h1 (i - 0) (by omega)).1.symm
      · rfl
    refine iv_mk hB hT ?_ (by omega) (by omega) (mm_pop hr hn hM)
    intro i
    unfold cp_
    split
    · rename_i hi
      exact (h1 (i - 0) (by omega)).2
    · exact hb i
theorem iz_plays {k : Nat} {mv sz jm d : Int32} {ce ne fa li le ta pa tr nw pt od os sq ab ap az aj : Nat → Int32} {n r : Nat} (hT : xt_T ne fa) (hb : dr_V (xt_b ce 0)) (hn : n < 20) (hr : r ≤ 20) (hM : mm_ mv n r pt od os) (h0 : ¬ d < 0) (h3 : d ≤ 3) (h2 : 2 ≤ d) (hd0 : ¬ d = 0) (hd1 : ¬ d = 1) : wpX_plays (fun ra u' => wpY_plays (fun r' v' => r' = ra ∧ i_Rel (k + 3) u' v') (mv, nI r, sz, jm, xt_b ce 0, od, os, sq, ab, ap, az, aj) d) (mv, nI n, nI r, ce, ne, fa, li, le, ta, pa, tr, nw, pt) d := by
  unfold wpX_plays
  dsimp only
  refine br_f h0 (br_t h3 (br_f hd0 ?_))
  refine xm_list mv (nI n) (nI r) ce ne fa li le ta pa tr nw pt (q := 0) (by omega) hT ?_
  intro li' le' ta' pa' tr' nw' hR
  dsimp only
  have e0 : xm_sd 0 mv = mv := rfl
  rw [e0] at hR
  refine br_f hd1 ?_
  rw [hR.1]
  refine nm_e ⟨(tr_ML (xt_b ce 0) mv).length + 1, ?_⟩
  refine xe_pl mv (nI n) (nI r) ne fa pt (b := xt_b ce 0) hT iw_512 (fun k p e => tr_ML_V e) ?_ (tr_ML (xt_b ce 0) mv).length 0 0 ce li' le' ta' pa' tr' nw' (by omega) rfl ⟨hR.2.2.1, rfl⟩
  intro ce' li2 le2 ta2 pa2 tr2 nw2 hK
  refine yg_plays mv (nI r) sz jm (xt_b ce 0) od os sq ab ap az aj hb h0 h3 h2 ?_
  intro sz' jm' sq' ab' ap' az' aj'
  exact ⟨rfl, iv_mk hK.2.symm hT hb hn hr hM⟩
theorem i_vc_plays {k : Nat} {u : SX} {v : SY} (I : i_Rel k u v) (hk : k + 3 ≤ 1536) (v1 : Int32) : wpX_plays (fun r u' => wpY_plays (fun r' v' => r' = r ∧ i_Rel (k + 3) u' v') v v1) u v1 := by
  obtain ⟨mv, ce, ne, fa, li, le, ta, pa, tr, nw, pt, sz, jm, od, os, sq, ab, ap, az, aj, n, r, rfl, rfl, hT, hb, hn, hr, hM⟩ := I
  have R : i_Rel (k + 3) (mv, nI n, nI r, ce, ne, fa, li, le, ta, pa, tr, nw, pt) (mv, nI r, sz, jm, xt_b ce 0, od, os, sq, ab, ap, az, aj) := iv_mk rfl hT hb hn hr hM
  by_cases h0 : v1 < 0
  · unfold wpX_plays wpY_plays
    dsimp only
    exact br_t h0 (br_t h0 ⟨rfl, R⟩)
  · by_cases h3 : v1 ≤ 3
    · obtain ⟨j, hj, rfl⟩ := nI_of h0
      have hj3 : j ≤ 3 := by
        rcases Nat.lt_or_ge 3 j with z | z
        · exact absurd h3 (nI_ge (a := 3) z hj)
        · exact z
      obtain rfl | rfl | rfl | rfl : j = 0 ∨ j = 1 ∨ j = 2 ∨ j = 3 := by omega
      · unfold wpX_plays wpY_plays
        dsimp only
        exact br_f h0 (br_t h3 (br_t rfl (br_f h0 (br_t h3 (br_f (by decide) (br_t rfl ⟨rfl, R⟩))))))
      · unfold wpX_plays
        dsimp only
        refine br_f h0 (br_t h3 (br_f (by decide) ?_))
        refine xm_list mv (nI n) (nI r) ce ne fa li le ta pa tr nw pt (q := 0) (by omega) hT ?_
        intro li' le' ta' pa' tr' nw' hR
        dsimp only
        refine br_t rfl ?_
        rw [hR.1]
        unfold wpY_plays
        dsimp only
        refine br_f h0 (br_t h3 (br_f (by decide) (br_f (by decide) ?_)))
        refine yf_moves mv (nI r) sz jm (xt_b ce 0) od os sq ab ap az aj hb ?_
        intro sz' jm' sq'
        exact ⟨rfl, iv_mk rfl hT hb hn hr hM⟩
      · exact iz_plays hT hb hn hr hM h0 h3 (by decide) (by decide) (by decide)
      · exact iz_plays hT hb hn hr hM h0 h3 (by decide) (by decide) (by decide)
    · unfold wpX_plays wpY_plays
      dsimp only
      exact br_f h0 (br_f h3 (br_f h0 (br_f h3 ⟨rfl, R⟩)))
