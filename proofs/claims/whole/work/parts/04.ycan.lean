/-! the reference: canJump, canStep, onward, extend, beginFrom, first, next -/
theorem yc_laf : ∀ s, s < 32 → ∀ t, t < 32 → (ge_r s = 7 → ge_ah 1 s t = false) ∧ (ge_r s = 0 → ge_ah 2 s t = false) := by decide +kernel
theorem yc_la {x : Int32} {s t : Nat} (hs : s < 32) (ht : t < 32) (h : dr_la x s = true) : ge_ah (ge_k x) s t = false := by
  unfold dr_la at h
  rcases Bool.or_eq_true_iff.mp h with h | h
  · obtain ⟨h1, h2⟩ := Bool.and_eq_true_iff.mp h
    have e : x = 1 := by simpa using h1
    subst e
    exact (yc_laf s hs t ht).1 (by simpa using h2)
  · obtain ⟨h1, h2⟩ := Bool.and_eq_true_iff.mp h
    have e : x = 3 := by simpa using h1
    subst e
    exact (yc_laf s hs t ht).2 (by simpa using h2)
theorem yc_82 {post : Int32 → Prop} (mv rm sz jm : Int32) (bd od os sq ab ap az aj : Nat → Int32) {q : List Nat} {s t : Nat} (hb : dr_V bd) (hV : tr_V true bd (s :: q)) (hS : tr_S sq (s :: q)) (ht : t < 32) (h0 : (bd t == 0 || t == tr_l (s :: q)) = true) (h1 : ge_sl 2 s t = true) (h2 : ge_ah (ge_k (bd (tr_l (s :: q)))) s t = true) (h : post (dr_bI (tr_can true bd (s :: q) t))) : wY_canJump_82 post (nI t) (bd (tr_l (s :: q))) (nI s) mv rm (nI (s :: q).length) jm bd od os sq ab ap az aj := by
  have hs := tr_V_hd hV
  have hm := ge_mid32 s hs t ht
  have hl := tr_V_len hV
  simp only [List.length_cons] at hl
  have e : tr_can true bd (s :: q) t = ((dr_ow (bd (ge_mid s t)) == 1 - dr_ow (bd (tr_l (s :: q)))) && !((tr_cr (s :: q)).contains (ge_mid s t))) := by
    simp only [tr_can, if_true, h0, h1, h2, Bool.true_and, Bool.and_true]
  rw [e] at h
  unfold wY_canJump_82
  refine ya_btw hs ht ?_
  refine ⟨vp_in_nI hm (by omega), ?_⟩
  rw [nI_clamp (by omega)]
  refine ya_side (hb _) ?_
  refine ya_side (hb _) ?_
  refine br_c (fun z => ?_) (fun z => ?_)
  · rw [beq_iff_eq.mpr z, Bool.true_and] at h
    refine ya_jumped mv rm sz jm bd od os sq ab ap az aj hm (by omega) (tr_V_b hV) hS ?_
    cases hc : (tr_cr (s :: q)).contains (ge_mid s t) with
    | true => rw [hc] at h; exact br_f (by decide) h
    | false => rw [hc] at h; exact br_t rfl h
  · rw [beq_eq_false_iff_ne.mpr z, Bool.false_and] at h
    exact h
theorem yc_41 {post : Int32 → Prop} (mv rm sz jm : Int32) (bd od os sq ab ap az aj : Nat → Int32) {q : List Nat} {s t : Nat} (hb : dr_V bd) (hV : tr_V true bd (s :: q)) (hS : tr_S sq (s :: q)) (ht : t < 32) (h : post (dr_bI (tr_can true bd (s :: q) t))) : wY_canJump_41 post (nI t) (bd (tr_l (s :: q))) (nI s) mv rm (nI (s :: q).length) jm bd od os sq ab ap az aj := by
  have hs := tr_V_hd hV
  have hl := tr_V_l hV
  unfold wY_canJump_41
  refine ya_sl2 hs ht ?_
  cases h1 : ge_sl 2 s t with
  | false =>
    have e : tr_can true bd (s :: q) t = false := by simp [tr_can, h1]
    rw [e] at h
    exact br_t rfl h
  | true =>
    refine br_f (by decide) ?_
    refine ya_ah hs ht ?_
    cases h2 : ge_ah (ge_k (bd (tr_l (s :: q)))) s t with
    | false =>
      have e : tr_can true bd (s :: q) t = false := by simp [tr_can, h2]
      rw [e] at h
      exact br_t rfl h
    | true =>
      refine br_f (by decide) ⟨vp_in_nI ht (by omega), ?_⟩
      rw [nI_clamp (by omega), tr_S_0 (by simp) hS]
      refine br_c (fun z => ?_) (fun z => ?_)
      · exact yc_82 mv rm sz jm bd od os sq ab ap az aj hb hV hS ht (by simp [z]) h1 h2 h
      · refine pk_eq t (tr_l (s :: q)) (fun z2 => ?_) (fun z2 => ?_)
        · exact yc_82 mv rm sz jm bd od os sq ab ap az aj hb hV hS ht (by simp [z2]) h1 h2 h
        · have e : tr_can true bd (s :: q) t = false := by simp [tr_can, z, z2]
          rw [e] at h
          exact h
theorem yc_canJump {post : Int32 → Prop} (mv rm sz jm : Int32) (bd od os sq ab ap az aj : Nat → Int32) {p : List Nat} {t : Nat} (hb : dr_V bd) (hV : tr_V true bd p) (hS : tr_S sq p) (ht : t < 32) (h : post (dr_bI (tr_can true bd p t))) : wpY_canJump post (mv, rm, nI p.length, jm, bd, od, os, sq, ab, ap, az, aj) (nI t) := by
  cases p with
  | nil => exact hV.elim
  | cons s q =>
    have hs := tr_V_hd hV
    have hl := tr_V_l hV
    have hn := tr_V_len hV
    have e0 := tr_S_0 (by simp) hS
    have e1 : nI (s :: q).length - 1 = nI q.length := nI_pred _
    simp only [List.length_cons] at hn
    unfold wpY_canJump
    dsimp only
    rw [e0, e1, nI_clamp (by omega), nI_clamp (by omega), hS.1]
    refine ⟨vp_in_nI hl (by omega), nm_e ⟨vp_in_nI (by omega) (by omega), nm_e ?_⟩⟩
    refine br_c (fun _ => ?_) (fun _ => ?_)
    · exact yc_41 mv rm sz jm bd od os sq ab ap az aj hb hV hS ht h
    · refine ya_last (hb _) hs ?_
      cases hc : dr_la (bd (tr_l (s :: q))) s with
      | false => exact br_t rfl (yc_41 mv rm sz jm bd od os sq ab ap az aj hb hV hS ht h)
      | true =>
        have e : tr_can true bd (s :: q) t = false := by simp [tr_can, yc_la hs ht hc]
        rw [e] at h
        exact br_f (by decide) h
theorem yc_canStep {post : Int32 → Prop} (mv rm sz jm : Int32) (bd od os sq ab ap az aj : Nat → Int32) {p : List Nat} {t : Nat} (hV : tr_V false bd p) (hS : tr_S sq p) (ht : t < 32) (h : post (dr_bI (tr_can false bd p t))) : wpY_canStep post (mv, rm, nI p.length, jm, bd, od, os, sq, ab, ap, az, aj) (nI t) := by
  cases p with
  | nil => exact hV.elim
  | cons s q =>
    have hs := tr_V_hd hV
    have hl := tr_V_l hV
    have hn := tr_V_len hV
    have e0 := tr_S_0 (by simp) hS
    simp only [List.length_cons] at hn
    unfold wpY_canStep
    dsimp only
    rw [e0, nI_clamp (by omega), nI_clamp (by omega)]
    refine ⟨vp_in_nI hl (by omega), nm_e ?_⟩
    refine pk_eq (s :: q).length 1 (fun z => ?_) (fun z => ?_) rfl rfl (by simp only [List.length_cons]; omega) (by omega)
    · have hq : q = [] := by simpa using z
      subst hq
      refine ⟨vp_in_nI ht (by omega), br_c (fun z0 => ?_) (fun z0 => ?_)⟩
      · refine ya_sl1 hl ht ?_
        cases h1 : ge_sl 1 (tr_l [s]) t with
        | false =>
          have e : tr_can false bd [s] t = false := by simp [tr_can, show ge_sl 1 s t = false from h1]
          rw [e] at h
          exact br_t rfl h
        | true =>
          refine br_f (by decide) ?_
          refine ya_ah hl ht ?_
          cases h2 : ge_ah (ge_k (bd (tr_l [s]))) (tr_l [s]) t with
          | false =>
            have e : tr_can false bd [s] t = false := by simp [tr_can, show ge_ah (ge_k (bd (tr_l [s]))) s t = false from h2]
            rw [e] at h
            exact br_t rfl h
          | true =>
            have e : tr_can false bd [s] t = true := by simp [tr_can, show ge_ah (ge_k (bd (tr_l [s]))) s t = true from h2, show ge_sl 1 s t = true from h1, z0]
            rw [e] at h
            exact br_f (by decide) h
      · have e : tr_can false bd [s] t = false := by simp [tr_can, z0]
        rw [e] at h
        exact h
    · have hq : q ≠ [] := by
        intro hq
        rw [hq] at z
        exact z rfl
      have e : tr_can false bd (s :: q) t = false := by simp [tr_can, hq]
      rw [e] at h
      exact h
theorem yc_ow {post : Int32 → Prop} (mv rm sz jm : Int32) (bd od os sq ab ap az aj : Nat → Int32) {j : Bool} {p : List Nat} (hb : dr_V bd) (hV : tr_V j bd p) (hS : tr_S sq p) : ∀ d t, t + d = 32 → post (nI ((tr_ch j bd p t).headD 32)) → wY_onward_2 post mv rm (nI p.length) (dr_bI j) bd od os sq ab ap az aj (d + 1) (nI t) := by
  intro d
  induction d with
  | zero =>
    intro t ht h
    obtain rfl : t = 32 := by omega
    rw [tr_ch_32 (Nat.le_refl _)] at h
    exact br_t (by decide) h
  | succ d ih =>
    intro t ht h
    have hx : t < 32 := by omega
    refine br_f (nI_ge (b := 32) hx (by decide)) ?_
    have h1 := ih (t + 1) (by omega)
    cases hc : tr_can j bd p t with
    | true =>
      rw [tr_ch_t hx hc] at h
      cases j with
      | true =>
        refine br_f (by decide) (yc_canJump mv rm sz (dr_bI true) bd od os sq ab ap az aj hb hV hS hx ?_)
        rw [hc]
        exact br_f (by decide) h
      | false =>
        refine br_t rfl (yc_canStep mv rm sz (dr_bI false) bd od os sq ab ap az aj hV hS hx ?_)
        rw [hc]
        exact br_f (by decide) h
    | false =>
      rw [tr_ch_f hx hc] at h
      cases j with
      | true =>
        refine br_f (by decide) (yc_canJump mv rm sz (dr_bI true) bd od os sq ab ap az aj hb hV hS hx ?_)
        rw [hc]
        exact br_t rfl (nm_r (nI_1 t) (h1 h))
      | false =>
        refine br_t rfl (yc_canStep mv rm sz (dr_bI false) bd od os sq ab ap az aj hV hS hx ?_)
        rw [hc]
        exact br_t rfl (nm_r (nI_1 t) (h1 h))
theorem yc_onward {post : Int32 → Prop} (mv rm sz jm : Int32) (bd od os sq ab ap az aj : Nat → Int32) {j : Bool} {p : List Nat} {t : Nat} (hb : dr_V bd) (hV : tr_V j bd p) (hS : tr_S sq p) (ht : t ≤ 32) (h : post (nI ((tr_ch j bd p t).headD 32))) : wpY_onward post (mv, rm, nI p.length, dr_bI j, bd, od, os, sq, ab, ap, az, aj) (nI t) := ⟨32 - t + 1, yc_ow mv rm sz jm bd od os sq ab ap az aj hb hV hS (32 - t) t (by omega) h⟩
theorem yc_st2 {b : Nat → Int32} {s t : Nat} {q : List Nat} : tr_ch false b (t :: s :: q) 0 = [] := by
  unfold tr_ch
  rw [List.filter_eq_nil_iff]
  intro x _
  simp [tr_can]
theorem yc_next {j : Bool} {b : Nat → Int32} {p : List Nat} {u t : Nat} {C : List Nat} (e : tr_ch j b p u = t :: C) : u ≤ t ∧ t < 32 ∧ tr_can j b p t = true ∧ C = tr_ch j b p (t + 1) := by
  have h := tr_ch_mem (show t ∈ tr_ch j b p u by rw [e]; simp)
  refine ⟨h.1, h.2.1, h.2.2, ?_⟩
  have g : ∀ d u, u + d = 32 → tr_ch j b p u = t :: C → C = tr_ch j b p (t + 1) := by
    intro d
    induction d with
    | zero =>
      intro u hu e
      rw [tr_ch_32 (by omega)] at e
      exact absurd e (by simp)
    | succ d ih =>
      intro u hu e
      cases hc : tr_can j b p u with
      | true =>
        rw [tr_ch_t (by omega) hc] at e
        obtain ⟨e1, e2⟩ := List.cons.inj e
        rw [← e1]; exact e2.symm
      | false =>
        rw [tr_ch_f (by omega) hc] at e
        exact ih (u + 1) (by omega) e
  exact g (32 - u) u (by omega) e
