/-! the component: listJumps -/
def xj_P (post : SX → Prop) (mv pn pc : Int32) (ce ne fa pt li0 le0 ta0 pa0 : Nat → Int32) (q f e : Nat) (b : Nat → Int32) (n s : Nat) (qq : List Nat) : Prop :=
  ∀ (kk w : Nat) (ja : Bool) (r fu : Nat) (tr nw li le ta pa : Nat → Int32) (L : List (List Nat)), w + kk = e → f ≤ w → tr_S tr (s :: qq) → xj_N nw (s :: qq) → nw qq.length = nI w → xl_R q true L li0 le0 ta0 pa0 li le ta pa → (L ++ xj_o b s qq w kk ja).length ≤ 512 → r + (kk + 1 + bo_su (bo_t n s (tr_cr (s :: qq))) w kk) ≤ 1000000 → fu + r = 1000001 →
  (∀ (r' fu' : Nat) (tr' nw' li' le' ta' pa' : Nat → Int32), r' ≤ r + (kk + 1 + bo_su (bo_t n s (tr_cr (s :: qq))) w kk) → fu' + r' = 1000001 → tr_S tr' qq → (∀ i, i < qq.length → nw' i = nw i) → xl_R q true (L ++ xj_o b s qq w kk ja) li0 le0 ta0 pa0 li' le' ta' pa' → wX_listJumps_51 post (nI q) (nI f) (nI e) fu' (nI qq.length + (-1)) (mk_ qq) 0 (nI r') mv pn pc ce ne fa li' le' ta' pa' tr' nw' pt) →
  wX_listJumps_51 post (nI q) (nI f) (nI e) fu (nI qq.length) (mk_ (s :: qq)) (dr_bI ja) (nI r) mv pn pc ce ne fa li le ta pa tr nw pt
theorem xj_pop {post : SX → Prop} {J : Int32 → Int32 → Int32 → Int32 → Int32 → Int32 → Int32 → (Nat → Int32) → (Nat → Int32) → (Nat → Int32) → (Nat → Int32) → (Nat → Int32) → (Nat → Int32) → (Nat → Int32) → (Nat → Int32) → (Nat → Int32) → (Nat → Int32) → Prop} {x1 x4 x5 : Int32} (mv pn pc : Int32) (ce ne fa li le ta pa tr nw pt : Nat → Int32) {b : Nat → Int32} {s r : Nat} {qq : List Nat} (hT : xt_T ne fa) (hV : tr_V true b (s :: qq)) (hS : tr_S tr (s :: qq)) (hN : xj_N nw (s :: qq)) (h : J (nI qq.length + (-1)) (mk_ qq) 0 (nI (r + 1)) mv pn pc ce ne fa li le ta pa tr nw pt) : wX_listJumps_100 post J x1 x4 x5 (nI qq.length) (mk_ (s :: qq)) (nI r) mv pn pc ce ne fa li le ta pa tr nw pt := by
  cases qq with
  | nil => exact nm_e (br_t (show nI 0 + (-1) < 0 by decide) (nm_r (nI_1 r) h))
  | cons s' q =>
    have hn := tr_V_len hV
    simp only [List.length_cons] at hn
    have e : nI (s' :: q).length + (-1) = nI q.length := pk_m1 _
    obtain ⟨w, hw, e1, e2⟩ := hN.1
    have hs' := tr_V_hd hV.1
    have hs := tr_V_hd hV
    obtain ⟨g1, g2⟩ := ge_midT s' hs' w hw (by omega)
    rw [e2] at g2
    have e3 : tr (nI q.length).toNatClampNeg = nI s' := by rw [nI_clamp (by omega)]; exact hS.2.1
    have e4 : nw (nI q.length).toNatClampNeg = nI (w + 1) := by rw [nI_clamp (by omega)]; exact e1
    have e5 : nI s' * 4 + nI (w + 1) - 1 = nI (s' * 4 + w) := by rw [xt_m4]; exact nI_pred _
    have e6 : ne (nI (s' * 4 + w)).toNatClampNeg = nI (ge_mid s' s) := by rw [nI_clamp (by omega), (hT s' hs' w hw).1, xt_t g1, g2]
    have hm := ge_mid32 s' hs' s hs
    have e7 : mk_ (s :: s' :: q) &&& (((1 : Int32) <<< (nI (ge_mid s' s) &&& 31)) ^^^ (-1)) = mk_ (s' :: q) := mk_del hm (by rw [mk_bt (tr_V_b hV.1) _ hm]; exact (tr_can_geo hV.2.2).2)
    unfold wX_listJumps_100
    rw [e]
    rw [e] at h
    refine nm_e (br_f (nI_pos (by omega)) ⟨vp_in_nI (by omega) (by omega), vp_in_nI (by omega) (by omega), ?_⟩)
    rw [e3, e4, e5, e6, e7]
    exact ⟨vp_in_nI (by omega) (by omega), nm_e (nm_r (nI_1 r) h)⟩
theorem xj_in {post : SX → Prop} {mv pn pc : Int32} {ce ne fa pt li0 le0 ta0 pa0 : Nat → Int32} {q f e : Nat} {n s : Nat} {qq : List Nat} (hq : q < 3) (hT : xt_T ne fa) (hV : tr_V true (xt_b ce q) (s :: qq)) (hf : f = ge_f (ge_k (xt_b ce q (tr_l (s :: qq))))) (he : e = ge_e (ge_k (xt_b ce q (tr_l (s :: qq))))) (hlen : (s :: qq).length + n = 10)
    (hch : ∀ w, f ≤ w → w < e → tr_cw (xt_b ce q) (s :: qq) w = true → ∃ n', n = n' + 1 ∧ xj_P post mv pn pc ce ne fa pt li0 le0 ta0 pa0 q f e (xt_b ce q) n' (ge_fa s w) (s :: qq)) : xj_P post mv pn pc ce ne fa pt li0 le0 ta0 pa0 q f e (xt_b ce q) n s qq := by
  have hk := ge_k3 (xt_b ce q (tr_l (s :: qq)))
  have hfe := ge_fe _ hk
  rw [← hf, ← he] at hfe
  have hs := tr_V_hd hV
  have hB := tr_V_b hV
  simp only [List.length_cons] at hlen
  intro kk
  induction kk with
  | zero =>
    intro w ja r fu tr nw li le ta pa L hw hfw hS hN hnw hR hL hr hfu hK
    obtain ⟨m, rfl⟩ : ∃ m, fu = m + 1 := ⟨fu - 1, by omega⟩
    refine br_f (nI_ge (b := 1000000) (by omega) (by decide)) (br_f (nI_pos (by omega)) ⟨vp_in_nI (by omega) (by omega), nm_r (e' := nI w) (by rw [nI_clamp (by omega)]; exact hnw) ?_⟩)
    refine pk_lt w e (fun z => absurd z (by omega)) (fun _ => ?_)
    cases ja with
    | false =>
      refine br_t rfl (xj_pop mv pn pc ce ne fa li le ta pa tr nw pt hT hV hS hN ?_)
      refine hK (r + 1) m tr nw li le ta pa (by omega) (by omega) hS.2 (fun _ _ => rfl) ?_
      rw [show xj_o (xt_b ce q) s qq w 0 false = [] from rfl, List.append_nil]
      exact hR
    | true =>
      refine br_f (by decide) ?_
      by_cases hqq : qq = []
      · subst hqq
        refine br_t (show nI 0 ≤ 0 by decide) (xj_pop mv pn pc ce ne fa li le ta pa tr nw pt hT hV hS hN ?_)
        refine hK (r + 1) m tr nw li le ta pa (by omega) (by omega) hS.2 (fun _ _ => rfl) ?_
        rw [show xj_o (xt_b ce q) s [] w 0 true = [] from rfl, List.append_nil]
        exact hR
      · have hl : 0 < qq.length := List.length_pos_iff.mpr hqq
        have eo : xj_o (xt_b ce q) s qq w 0 true = [s :: qq] := by
          unfold xj_o
          rw [if_pos ⟨rfl, rfl⟩, if_neg hqq]
        rw [eo] at hL hK
        simp only [List.length_append, List.length_cons, List.length_nil] at hL
        refine br_f (nI_nle hl (by omega)) ?_
        rw [nI_1 qq.length]
        refine xa_addMove mv pn pc ce ne fa li le ta pa tr nw pt hq (by omega) hR.1 (by omega) ?_
        refine xj_pop mv pn pc ce ne fa _ _ _ _ tr nw pt hT hV hS hN ?_
        refine hK (r + 1) m tr nw _ _ _ _ (by omega) (by omega) hS.2 (fun _ _ => rfl) ?_
        exact xl_add hR (by omega) (by simp only [List.length_cons]; omega) hS rfl
  | succ kk ih =>
    intro w ja r fu tr nw li le ta pa L hw hfw hS hN hnw hR hL hr hfu hK
    obtain ⟨m, rfl⟩ : ∃ m, fu = m + 1 := ⟨fu - 1, by omega⟩
    rw [bo_ss] at hr hK
    have hN1 : xj_N (upd nw qq.length (nI (w + 1))) (s :: qq) := xj_N_congr (fun i hi => pk_un (by simp only [List.length_cons] at hi; omega)) hN
    refine br_f (nI_ge (b := 1000000) (by omega) (by decide)) (br_f (nI_pos (by omega)) ⟨vp_in_nI (by omega) (by omega), nm_r (e' := nI w) (by rw [nI_clamp (by omega)]; exact hnw) ?_⟩)
    refine pk_lt w e (fun _ => ⟨vp_in_nI (by omega) (by omega), nm_r (e' := nI (s * 4 + w)) (by rw [nI_clamp (by omega), hS.1, xt_m4]) ⟨vp_in_nI (by omega) (by omega), nm_r (e' := upd nw qq.length (nI (w + 1))) (by rw [nI_clamp (by omega), nI_1]) ?_⟩⟩) (fun z => absurd z (by omega))
    have skip : tr_cw (xt_b ce q) (s :: qq) w = false → wX_listJumps_51 post (nI q) (nI f) (nI e) m (nI qq.length) (mk_ (s :: qq)) (dr_bI ja) (nI (r + 1)) mv pn pc ce ne fa li le ta pa tr (upd nw qq.length (nI (w + 1))) pt := by
      intro hcw
      rw [xj_o_f hcw] at hL hK
      refine ih (w + 1) ja (r + 1) m tr _ li le ta pa L (by omega) (by omega) hS hN1 pk_us hR hL (by omega) (by omega) ?_
      intro r' fu' tr' nw' li' le' ta' pa' k1 k2 k3 k4 k5
      exact hK r' fu' tr' nw' li' le' ta' pa' (by omega) k2 k3 (fun i hi => (k4 i hi).trans (pk_un (by omega))) k5
    refine pk_le 10 (qq.length + 1) (fun z => ?_) (fun z => ?_) rfl (nI_1 _)
    · refine nm_r (nI_1 r) (skip ?_)
      cases hcw : tr_cw (xt_b ce q) (s :: qq) w with
      | false => rfl
      | true =>
        obtain ⟨n', hn', _⟩ := hch w hfw (by omega) hcw
        omega
    · refine xa_canJump mv pn pc ce ne fa li le ta pa tr _ pt hq hT hV (by omega) (tr_S_0 (by simp) hS) ?_
      cases hcw : tr_cw (xt_b ce q) (s :: qq) w with
      | false => exact br_t rfl (nm_r (nI_1 r) (skip hcw))
      | true =>
        obtain ⟨n', rfl, hP⟩ := hch w hfw (by omega) hcw
        obtain ⟨c1, c2, c3⟩ := tr_cw_op hcw
        obtain ⟨g1, g2⟩ := ge_midT s hs w (by omega) c1
        have hV2 : tr_V true (xt_b ce q) (ge_fa s w :: s :: qq) := xj_cw_can hV (by omega) (by omega) hcw
        have hS2 : tr_S (upd tr (qq.length + 1) (nI (ge_fa s w))) (ge_fa s w :: s :: qq) := tr_S_cons hS
        have ecr : tr_cr (ge_fa s w :: s :: qq) = ge_nr s w :: tr_cr (s :: qq) := by
          show ge_mid s (ge_fa s w) :: tr_cr (s :: qq) = _
          rw [g2]
        have ebt : bo_t (n' + 1) s (tr_cr (s :: qq)) w = 5 + bo_su (bo_t n' (ge_fa s w) (tr_cr (ge_fa s w :: s :: qq))) 0 4 := by
          unfold bo_t
          rw [if_pos c3, ecr]
          rfl
        have ecost : e - f + 1 + bo_su (bo_t n' (ge_fa s w) (tr_cr (ge_fa s w :: s :: qq))) f (e - f) ≤ bo_t (n' + 1) s (tr_cr (s :: qq)) w := by
          have := bo_sub (bo_t n' (ge_fa s w) (tr_cr (ge_fa s w :: s :: qq))) hk
          rw [← hf, ← he] at this
          omega
        have hl2 : tr_l (ge_fa s w :: s :: qq) = tr_l (s :: qq) := rfl
        have elP : xj_o (xt_b ce q) (ge_fa s w) (s :: qq) f (e - f) true = tr_lP true (xt_b ce q) (ge_fa s w :: s :: qq) := by
          have := xj_o_lP hV2 (by simp)
          rw [hl2, ← hf, ← he] at this
          exact this
        rw [xj_o_t hcw, ← elP, ← List.append_assoc] at hL hK
        have hx7 : mk_ (s :: qq) ||| ((1 : Int32) <<< (ne (nI (s * 4 + w)).toNatClampNeg &&& 31)) = mk_ (ge_fa s w :: s :: qq) := by
          rw [nI_clamp (by omega), (hT s hs w (by omega)).1, xt_t g1]
          show _ = mk_ (s :: qq) ||| ((1 : Int32) <<< (nI (ge_mid s (ge_fa s w)) &&& 31))
          rw [g2]
        have hfar : fa (nI (s * 4 + w)).toNatClampNeg = nI (ge_fa s w) := by
          rw [nI_clamp (by omega), (hT s hs w (by omega)).2, xt_t c1]
        refine br_f (by decide) ⟨vp_in_nI (by omega) (by omega), nm_r hx7 (nm_r (nI_1 _) ⟨vp_in_nI (by omega) (by omega), vp_in_nI (by omega) (by omega), nm_r (e' := upd tr (qq.length + 1) (nI (ge_fa s w))) (by rw [hfar, nI_clamp (by omega)]) ⟨vp_in_nI (by omega) (by omega), nm_r (e' := upd (upd nw qq.length (nI (w + 1))) (qq.length + 1) (nI f)) (by rw [nI_clamp (by omega)]) (nm_r (nI_1 r) ?_)⟩⟩)⟩
        refine hP (e - f) f true (r + 1) m _ _ li le ta pa L (by omega) (Nat.le_refl _) hS2 ?_ pk_us hR (by rw [List.length_append] at hL; omega) (by omega) (by omega) ?_
        · refine ⟨⟨w, by omega, (pk_un (by omega)).trans pk_us, rfl⟩, ?_⟩
          exact xj_N_congr (fun i hi => pk_un (by simp only [List.length_cons] at hi; omega)) hN1
        · intro r' fu' tr' nw' li' le' ta' pa' k1 k2 k3 k4 k5
          rw [show nI (s :: qq).length + (-1) = nI qq.length from pk_m1 _]
          have k6 : ∀ i, i < qq.length → nw' i = nw i := fun i hi => (k4 i (by simp only [List.length_cons]; omega)).trans ((pk_un (by omega)).trans (pk_un (by omega)))
          have k7 : nw' qq.length = nI (w + 1) := (k4 _ (by simp only [List.length_cons]; omega)).trans ((pk_un (by omega)).trans pk_us)
          refine ih (w + 1) false r' fu' tr' nw' li' le' ta' pa' _ (by omega) (by omega) k3 (xj_N_congr (fun i hi => k6 i (by simp only [List.length_cons] at hi; omega)) hN) k7 k5 hL (by omega) k2 ?_
          intro r2 fu2 tr2 nw2 li2 le2 ta2 pa2 l1 l2 l3 l4 l5
          exact hK r2 fu2 tr2 nw2 li2 le2 ta2 pa2 (by omega) l2 l3 (fun i hi => (l4 i hi).trans (k6 i hi)) l5
theorem xj_all {post : SX → Prop} {mv pn pc : Int32} {ce ne fa pt li0 le0 ta0 pa0 : Nat → Int32} {q f e : Nat} (hq : q < 3) (hT : xt_T ne fa) : ∀ n s (qq : List Nat), tr_V true (xt_b ce q) (s :: qq) → f = ge_f (ge_k (xt_b ce q (tr_l (s :: qq)))) → e = ge_e (ge_k (xt_b ce q (tr_l (s :: qq)))) → (s :: qq).length + n = 10 → xj_P post mv pn pc ce ne fa pt li0 le0 ta0 pa0 q f e (xt_b ce q) n s qq := by
  intro n
  induction n with
  | zero =>
    intro s qq hV hf he hlen
    refine xj_in hq hT hV hf he hlen ?_
    intro w hw1 hw2 hcw
    have hV2 := xj_cw_can hV (by omega) (by omega) hcw
    have := tr_V_len hV2
    simp only [List.length_cons] at this hlen
    omega
  | succ n ih =>
    intro s qq hV hf he hlen
    refine xj_in hq hT hV hf he hlen ?_
    intro w hw1 hw2 hcw
    have hV2 := xj_cw_can hV (by omega) (by omega) hcw
    exact ⟨n, rfl, ih _ _ hV2 hf he (by simp only [List.length_cons] at hlen ⊢; omega)⟩
