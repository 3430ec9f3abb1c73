/-! the reference: extend, beginFrom, first, next -/
theorem yd_ex {post : SY → Prop} (mv rm jm : Int32) (bd od os ab ap az aj : Nat → Int32) {j : Bool} {sd : Int32} (hb : dr_V bd) (hj : jm = dr_bI j) : ∀ d (p : List Nat) (sq : Nat → Int32), p.length + d = 11 → tr_V j bd p → tr_S sq p →
    (∀ p' rest sq', tr_lP j bd p = p' :: rest → tr_af j bd sd p' = rest ++ tr_af j bd sd p → tr_V j bd p' → tr_S sq' p' → (tr_ch j bd p 0 = [] → p' = p) → (tr_ch j bd p 0 ≠ [] → p.length < p'.length) → p.length ≤ p'.length → post (mv, rm, nI p'.length, jm, bd, od, os, sq', ab, ap, az, aj)) →
    wY_extend_6 post mv rm jm (d + 1) (nI ((tr_ch j bd p 0).headD 32)) (nI p.length) bd od os sq ab ap az aj := by
  subst hj
  intro d
  induction d with
  | zero =>
    intro p sq hd hV
    have := tr_V_len hV
    omega
  | succ d ih =>
    intro p sq hd hV hS h
    have hn := tr_V_len hV
    have hp := tr_V_ne hV
    cases hc : tr_ch j bd p 0 with
    | nil => exact br_t (by decide) (h p [] sq (tr_lP_nil hc) rfl hV hS (fun _ => rfl) (fun z => absurd hc z) (Nat.le_refl _))
    | cons t C =>
      obtain ⟨_, ht, hcan, hC⟩ := yc_next hc
      have hV2 := tr_V_cons hV ht hcan
      have hS2 : tr_S (upd sq p.length (nI t)) (t :: p) := tr_S_cons hS
      have h1 := ih (t :: p) (upd sq p.length (nI t)) (by simp only [List.length_cons]; omega) hV2 hS2 (by
        intro p' rest sq' e1 e2 e3 e4 _ _ e6
        simp only [List.length_cons] at e6
        refine h p' (rest ++ C.flatMap (fun t' => tr_lP j bd (t' :: p))) sq' ?_ ?_ e3 e4 (fun z => absurd z (by rw [hc]; simp)) (fun _ => by omega) (by omega)
        · rw [tr_lP_cons hn (by rw [hc]; simp), hc, List.flatMap_cons, e1, List.cons_append]
        · rw [e2, tr_af_cons hp, ← hC, List.append_assoc])
      refine br_f (nI_ge (b := 32) ht (by decide)) (br_f (nI_ge (b := 40) (by omega) (by decide)) ⟨vp_in_nI (by omega) (by omega), ?_⟩)
      rw [nI_clamp (by omega)]
      refine nm_e (nm_r (nI_1 _) ?_)
      cases j with
      | true =>
        refine br_f (by decide) ?_
        exact yc_onward mv rm (nI (p.length + 1)) (dr_bI true) bd od os (upd sq p.length (nI t)) ab ap az aj (t := 0) hb hV2 hS2 (by omega) h1
      | false =>
        refine br_t rfl ?_
        cases p with
        | nil => exact absurd rfl hp
        | cons s q =>
          rw [yc_st2] at h1
          exact h1
theorem yd_extend {post : SY → Prop} (mv rm sz jm : Int32) (bd od os sq ab ap az aj : Nat → Int32) {j : Bool} {sd : Int32} {p : List Nat} (hb : dr_V bd) (hV : tr_V j bd p) (hS : tr_S sq p)
    (h : ∀ p' rest sq', tr_lP j bd p = p' :: rest → tr_af j bd sd p' = rest ++ tr_af j bd sd p → tr_V j bd p' → tr_S sq' p' → (tr_ch j bd p 0 = [] → p' = p) → (tr_ch j bd p 0 ≠ [] → p.length < p'.length) → p.length ≤ p'.length → post (mv, rm, nI p'.length, dr_bI j, bd, od, os, sq', ab, ap, az, aj)) :
    wpY_extend post (mv, rm, nI p.length, dr_bI j, bd, od, os, sq, ab, ap, az, aj) := by
  have hn := tr_V_len hV
  unfold wpY_extend
  dsimp only
  refine yc_onward mv rm sz jm bd od os sq ab ap az aj (t := 0) hb hV hS (by omega) ?_
  exact ⟨11 - p.length + 1, yd_ex mv rm (dr_bI j) bd od os ab ap az aj (sd := sd) hb rfl (11 - p.length) p sq (by omega) hV hS h⟩
def tr_E (j : Bool) (b : Nat → Int32) (sd : Int32) (L : List (List Nat)) (on sz : Int32) (sq : Nat → Int32) : Prop :=
  (L = [] ∧ on = 0) ∨ (∃ p rest, L = p :: rest ∧ on = 1 ∧ tr_af j b sd p = rest ∧ tr_V j b p ∧ tr_S sq p ∧ sz = nI p.length ∧ 2 ≤ p.length)
theorem yd_bf {post : Int32 → SY → Prop} (mv rm jm : Int32) (bd od os ab ap az aj : Nat → Int32) {j : Bool} (hb : dr_V bd) (hj : jm = dr_bI j) : ∀ d s (sz : Int32) (sq : Nat → Int32), s + d = 32 →
    (∀ on sz' sq', tr_E j bd mv (tr_fr j bd mv s) on sz' sq' → post on (mv, rm, sz', jm, bd, od, os, sq', ab, ap, az, aj)) → wY_beginFrom_2 post (d + 1) (nI s) mv rm sz jm bd od os sq ab ap az aj := by
  subst hj
  intro d
  induction d with
  | zero =>
    intro s sz sq hs h
    obtain rfl : s = 32 := by omega
    exact br_t (by decide) (h 0 sz sq (Or.inl ⟨tr_fr_32 (Nat.le_refl _), rfl⟩))
  | succ d ih =>
    intro s sz sq hs h
    have hx : s < 32 := by omega
    refine br_f (nI_ge (b := 32) hx (by decide)) ⟨vp_in_nI hx (by omega), ?_⟩
    rw [nI_clamp (by omega)]
    refine ya_side (hb _) ?_
    rw [tr_fr_s hx] at h
    refine br_c (fun z => ?_) (fun z => ?_)
    · refine nm_e ?_
      have hV : tr_V j bd [s] := hx
      have hS : tr_S (upd sq 0 (nI s)) [s] := ⟨pk_us, True.intro⟩
      refine yd_extend mv rm 1 (dr_bI j) bd od os (upd sq 0 (nI s)) ab ap az aj (sd := mv) (p := [s]) hb hV hS ?_
      intro p' rest sq' e1 e2 e3 e4 e5 e6 e7
      have hn := tr_V_len e3
      refine pk_le p'.length 1 (fun y => nm_r (nI_1 s) ?_) (fun y => ?_)
      · have hc : tr_ch j bd [s] 0 = [] := by
          cases hc : tr_ch j bd [s] 0 with
          | nil => rfl
          | cons t C =>
            have := e6 (by rw [hc]; simp)
            simp only [List.length_cons, List.length_nil] at this
            omega
        refine ih (s + 1) _ sq' (by omega) ?_
        have ea : tr_at j bd mv s = [] := by unfold tr_at; rw [if_pos z, if_pos hc]
        rw [ea, List.nil_append] at h
        exact h
      · have hc : tr_ch j bd [s] 0 ≠ [] := by
          intro hc
          have := e5 hc
          rw [this] at y
          simp at y
        have ea : tr_at j bd mv s = p' :: rest := by unfold tr_at; rw [if_pos z, if_neg hc]; exact e1
        refine h 1 _ sq' (Or.inr ⟨p', rest ++ tr_fr j bd mv (s + 1), ?_, rfl, e2, e3, e4, rfl, by omega⟩)
        rw [ea]; rfl
    · refine nm_r (nI_1 s) (ih (s + 1) sz sq (by omega) ?_)
      have ea : tr_at j bd mv s = [] := by unfold tr_at; rw [if_neg z]
      rw [ea, List.nil_append] at h
      exact h
theorem yd_begin {post : Int32 → SY → Prop} (mv rm sz jm : Int32) (bd od os sq ab ap az aj : Nat → Int32) {j : Bool} {s : Nat} (hb : dr_V bd) (hs : s ≤ 32) (h : ∀ on sz' sq', tr_E j bd mv (tr_fr j bd mv s) on sz' sq' → post on (mv, rm, sz', dr_bI j, bd, od, os, sq', ab, ap, az, aj)) : wpY_beginFrom post (mv, rm, sz, dr_bI j, bd, od, os, sq, ab, ap, az, aj) (nI s) :=
  ⟨32 - s + 1, yd_bf mv rm (dr_bI j) bd od os ab ap az aj hb rfl (32 - s) s sz sq (by omega) h⟩
theorem tr_E_on {j : Bool} {b : Nat → Int32} {sd : Int32} {L : List (List Nat)} {on sz : Int32} {sq : Nat → Int32} (h : tr_E j b sd L on sz sq) : (L = [] ∧ on = 0) ∨ (L ≠ [] ∧ on = 1) := by
  rcases h with ⟨a, c⟩ | ⟨p, rest, a, c, _⟩
  · exact Or.inl ⟨a, c⟩
  · exact Or.inr ⟨by rw [a]; simp, c⟩
theorem tr_mj_t {b : Nat → Int32} {sd : Int32} (h : tr_fr true b sd 0 ≠ []) : tr_mj b sd = true := by unfold tr_mj; exact decide_eq_true h
theorem tr_mj_f {b : Nat → Int32} {sd : Int32} (h : tr_fr true b sd 0 = []) : tr_mj b sd = false := by unfold tr_mj; rw [h]; rfl
theorem yd_first {post : Int32 → SY → Prop} (mv rm sz jm : Int32) (bd od os sq ab ap az aj : Nat → Int32) (hb : dr_V bd) (h : ∀ on sz' sq', tr_E (tr_mj bd mv) bd mv (tr_ML bd mv) on sz' sq' → post on (mv, rm, sz', dr_bI (tr_mj bd mv), bd, od, os, sq', ab, ap, az, aj)) : wpY_first post (mv, rm, sz, jm, bd, od, os, sq, ab, ap, az, aj) := by
  unfold wpY_first
  dsimp only
  refine yd_begin mv rm sz 1 bd od os sq ab ap az aj (j := true) (s := 0) hb (by omega) ?_
  intro on sz' sq' hE
  dsimp only
  rcases tr_E_on hE with ⟨z, rfl⟩ | ⟨z, rfl⟩
  · refine br_t rfl ?_
    refine yd_begin mv rm sz' 0 bd od os sq' ab ap az aj (j := false) (s := 0) hb (by omega) ?_
    intro on sz'' sq'' hE2
    dsimp only
    have h1 := h on sz'' sq''
    unfold tr_ML at h1
    rw [tr_mj_f z] at h1
    have hn : narrow .boolean (.int on) = .int on := by
      rcases tr_E_on hE2 with ⟨_, rfl⟩ | ⟨_, rfl⟩ <;> rfl
    exact ⟨hn, h1 hE2⟩
  · refine br_f (by decide) ?_
    have h1 := h 1 sz' sq'
    unfold tr_ML at h1
    rw [tr_mj_t z] at h1
    exact h1 hE
theorem yd_nx {post : Int32 → SY → Prop} (mv rm jm : Int32) (bd od os sq ab ap az aj : Nat → Int32) {j : Bool} (hb : dr_V bd) (hj : jm = dr_bI j) : ∀ (p : List Nat), tr_V j bd p → tr_S sq p →
    (∀ on sz' sq', tr_E j bd mv (tr_af j bd mv p) on sz' sq' → post on (mv, rm, sz', jm, bd, od, os, sq', ab, ap, az, aj)) → wY_next_0 post mv rm jm bd od os sq ab ap az aj (p.length + 1) (nI p.length) := by
  subst hj
  intro p
  induction p with
  | nil => intro hV; exact hV.elim
  | cons t p ih =>
    intro hV hS h
    have ht := tr_V_hd hV
    have hn := tr_V_len hV
    simp only [List.length_cons] at hn
    cases p with
    | nil =>
      refine br_t (show nI 1 ≤ 1 by decide) ?_
      rw [show sq 0 = nI t from hS.1, nI_1 t]
      refine yd_begin mv rm _ (dr_bI j) bd od os sq ab ap az aj (j := j) (s := t + 1) hb (by omega) ?_
      intro on sz' sq' hE
      dsimp only
      have hn : narrow .boolean (.int on) = .int on := by
        rcases tr_E_on hE with ⟨_, rfl⟩ | ⟨_, rfl⟩ <;> rfl
      exact ⟨hn, h on sz' sq' hE⟩
    | cons s q =>
      simp only [List.length_cons] at hn
      have e1 : nI (t :: s :: q).length - 1 = nI (s :: q).length := nI_pred _
      have hs := hS.1
      refine pk_le (t :: s :: q).length 1 (fun y => absurd y (by simp)) (fun _ => ?_) rfl rfl (by simp only [List.length_cons]; omega) (by omega)
      rw [e1, nI_clamp (by simp only [List.length_cons]; omega), hs]
      refine ⟨vp_in_nI (by simp only [List.length_cons]; omega) (by omega), nm_e (nm_e ?_)⟩
      rw [nI_1 t]
      refine yc_onward mv rm (nI (s :: q).length) (dr_bI j) bd od os sq ab ap az aj (t := t + 1) hb hV.1 hS.2 (by omega) ?_
      rw [tr_af_cons (by simp)] at h
      cases hc : tr_ch j bd (s :: q) (t + 1) with
      | nil =>
        rw [hc, List.flatMap_nil, List.nil_append] at h
        exact br_t (by decide) (ih hV.1 hS.2 h)
      | cons u C =>
        obtain ⟨_, hu, hcan, hC⟩ := yc_next hc
        rw [hc, List.flatMap_cons] at h
        have hV2 := tr_V_cons hV.1 hu hcan
        have hS2 : tr_S (upd sq (s :: q).length (nI u)) (u :: s :: q) := tr_S_cons hS.2
        refine br_f (nI_ge (b := 32) hu (by decide)) ⟨vp_in_nI (by simp only [List.length_cons]; omega) (by omega), nm_e (nm_r (nI_1 _) ?_)⟩
        rw [nI_clamp (by simp only [List.length_cons]; omega)]
        cases j with
        | true =>
          refine br_f (by decide) ?_
          refine yd_extend mv rm (nI (u :: s :: q).length) (dr_bI true) bd od os (upd sq (s :: q).length (nI u)) ab ap az aj (sd := mv) (p := u :: s :: q) hb hV2 hS2 ?_
          intro p' rest sq' f1 f2 f3 f4 f5 f6 f7
          dsimp only
          refine h 1 _ sq' (Or.inr ⟨p', rest ++ C.flatMap (fun t' => tr_lP true bd (t' :: s :: q)) ++ tr_af true bd mv (s :: q), ?_, rfl, ?_, f3, f4, rfl, ?_⟩)
          · rw [f1]; simp
          · rw [f2, tr_af_cons (by simp), ← hC, List.append_assoc]
          · simp only [List.length_cons] at f7; omega
        | false =>
          refine br_t rfl ?_
          refine h 1 _ _ (Or.inr ⟨u :: s :: q, C.flatMap (fun t' => tr_lP false bd (t' :: s :: q)) ++ tr_af false bd mv (s :: q), ?_, rfl, ?_, hV2, hS2, rfl, by simp⟩)
          · rw [tr_lP_nil yc_st2]; simp
          · rw [tr_af_cons (by simp), ← hC]
theorem yd_next {post : Int32 → SY → Prop} (mv rm sz jm : Int32) (bd od os sq ab ap az aj : Nat → Int32) {j : Bool} {on : Int32} {p : List Nat} {rest : List (List Nat)} (hb : dr_V bd) (hE : tr_E j bd mv (p :: rest) on sz sq) (h : ∀ on' sz' sq', tr_E j bd mv rest on' sz' sq' → post on' (mv, rm, sz', dr_bI j, bd, od, os, sq', ab, ap, az, aj)) : wpY_next post (mv, rm, sz, dr_bI j, bd, od, os, sq, ab, ap, az, aj) := by
  rcases hE with ⟨z, _⟩ | ⟨p1, r1, z, _, h1, h2, h3, h4, _⟩
  · exact absurd z (by simp)
  · obtain ⟨rfl, rfl⟩ := List.cons.inj z
    subst h4
    rw [← h1] at h
    exact ⟨p.length + 1, yd_nx mv rm (dr_bI j) bd od os sq ab ap az aj hb rfl p h2 h3 h⟩
