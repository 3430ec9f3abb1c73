/-! the reference: find, moves, remember, putAside, putBack, twice, plays -/
theorem tr_E_n {j : Bool} {b : Nat → Int32} {sd : Int32} {L : List (List Nat)} {on sz : Int32} {sq : Nat → Int32} (h : tr_E j b sd L on sz sq) : narrow .boolean (.int on) = .int on := by
  rcases tr_E_on h with ⟨_, rfl⟩ | ⟨_, rfl⟩ <;> rfl
theorem yf_fl {post : Int32 → SY → Prop} (mv rm jm : Int32) (bd od os ab ap az aj : Nat → Int32) {j : Bool} {m : Nat} (hm : m < 2 ^ 31) (hb : dr_V bd) (hj : jm = dr_bI j) : ∀ d i (L : List (List Nat)) (on sz : Int32) (sq : Nat → Int32), i + d = m → tr_E j bd mv L on sz sq → (∀ on' sz' sq', tr_E j bd mv (L.drop d) on' sz' sq' → post on' (mv, rm, sz', jm, bd, od, os, sq', ab, ap, az, aj)) → wY_find_19 post (nI m) (d + 1) on (nI i) mv rm sz jm bd od os sq ab ap az aj := by
  subst hj
  intro d
  induction d with
  | zero =>
    intro i L on sz sq hi hE h
    obtain rfl : i = m := by omega
    exact pk_le i i (fun _ => ⟨tr_E_n hE, h on sz sq hE⟩) (fun z => absurd z (by omega))
  | succ d ih =>
    intro i L on sz sq hi hE h
    refine pk_le m i (fun z => absurd z (by omega)) (fun _ => ?_)
    cases L with
    | nil =>
      rcases tr_E_on hE with ⟨_, rfl⟩ | ⟨z, _⟩
      · exact br_t rfl ⟨rfl, h 0 sz sq hE⟩
      · exact absurd rfl z
    | cons p rest =>
      rcases tr_E_on hE with ⟨z, _⟩ | ⟨_, rfl⟩
      · exact absurd z (by simp)
      · refine br_f (by decide) ?_
        refine yd_next mv rm sz (dr_bI j) bd od os sq ab ap az aj hb hE ?_
        intro on' sz' sq' hE'
        exact nm_r (nI_1 i) (ih (i + 1) rest on' sz' sq' (by omega) hE' h)
theorem yf_find {post : Int32 → SY → Prop} (mv rm sz jm : Int32) (bd od os sq ab ap az aj : Nat → Int32) {m : Nat} (hm : m < 2 ^ 31) (hb : dr_V bd) (h : ∀ on sz' sq', tr_E (tr_mj bd mv) bd mv ((tr_ML bd mv).drop m) on sz' sq' → post on (mv, rm, sz', dr_bI (tr_mj bd mv), bd, od, os, sq', ab, ap, az, aj)) : wpY_find post (mv, rm, sz, jm, bd, od, os, sq, ab, ap, az, aj) (nI m) := by
  unfold wpY_find
  dsimp only
  refine br_f (nI_pos hm) ?_
  refine yd_first mv rm sz jm bd od os sq ab ap az aj hb ?_
  intro on sz' sq' hE
  dsimp only
  have k := fun on h1 => yf_fl (post := post) mv rm (dr_bI (tr_mj bd mv)) bd od os ab ap az aj (m := m) hm hb rfl m 0 (tr_ML bd mv) on sz' sq' (by omega) h1 h
  rcases tr_E_on hE with ⟨_, rfl⟩ | ⟨_, rfl⟩
  · exact br_t rfl ⟨m + 1, k 0 hE⟩
  · exact br_f (by decide) ⟨m + 1, k 1 hE⟩
theorem yf_findN {post : Int32 → SY → Prop} (mv rm sz jm : Int32) (bd od os sq ab ap az aj : Nat → Int32) {k : Int32} (hk : k < 0) (h : post 0 (mv, rm, sz, jm, bd, od, os, sq, ab, ap, az, aj)) : wpY_find post (mv, rm, sz, jm, bd, od, os, sq, ab, ap, az, aj) k := by
  unfold wpY_find
  dsimp only
  exact br_t hk ⟨1, br_t (Int32.le_of_lt hk) ⟨rfl, h⟩⟩
theorem yf_ml {post : Int32 → SY → Prop} (mv rm jm : Int32) (bd od os ab ap az aj : Nat → Int32) {j : Bool} (hb : dr_V bd) (hj : jm = dr_bI j) : ∀ (L : List (List Nat)) (x : Nat) (on sz : Int32) (sq : Nat → Int32), tr_E j bd mv L on sz sq → (∀ sz' sq', post (nI (x + L.length)) (mv, rm, sz', jm, bd, od, os, sq', ab, ap, az, aj)) → wY_moves_7 post (L.length + 1) (nI x) on mv rm sz jm bd od os sq ab ap az aj := by
  subst hj
  intro L
  induction L with
  | nil =>
    intro x on sz sq hE h
    rcases tr_E_on hE with ⟨_, rfl⟩ | ⟨z, _⟩
    · exact br_t rfl (h sz sq)
    · exact absurd rfl z
  | cons p rest ih =>
    intro x on sz sq hE h
    rcases tr_E_on hE with ⟨z, _⟩ | ⟨_, rfl⟩
    · exact absurd z (by simp)
    · refine br_f (by decide) (nm_r (nI_1 x) ?_)
      refine yd_next mv rm sz (dr_bI j) bd od os sq ab ap az aj hb hE ?_
      intro on' sz' sq' hE'
      refine ih (x + 1) on' sz' sq' hE' ?_
      intro sz'' sq''
      have := h sz'' sq''
      rw [List.length_cons, ← Nat.add_assoc, Nat.add_right_comm] at this
      exact this
theorem yf_moves {post : Int32 → SY → Prop} (mv rm sz jm : Int32) (bd od os sq ab ap az aj : Nat → Int32) (hb : dr_V bd) (h : ∀ sz' jm' sq', post (nI (tr_ML bd mv).length) (mv, rm, sz', jm', bd, od, os, sq', ab, ap, az, aj)) : wpY_moves post (mv, rm, sz, jm, bd, od, os, sq, ab, ap, az, aj) := by
  unfold wpY_moves
  dsimp only
  refine yd_first mv rm sz jm bd od os sq ab ap az aj hb ?_
  intro on sz' sq' hE
  refine ⟨(tr_ML bd mv).length + 1, yf_ml mv rm (dr_bI (tr_mj bd mv)) bd od os ab ap az aj hb rfl (tr_ML bd mv) 0 on sz' sq' hE ?_⟩
  intro sz'' sq''
  rw [Nat.zero_add]
  exact h sz'' _ sq''
def tr_mt (j : Bool) : Int32 → List (List Nat) → Int32
  | x, [] => x
  | x, p :: L => tr_mt j (if tr_tk j p ≤ x then x else tr_tk j p) L
def tr_mo : Int32 → List (List Nat) → Int32
  | x, [] => x
  | x, p :: L => tr_mo (x ||| ((1 : Int32) <<< (nI (tr_l p) &&& 31))) L
def tr_sm (f : List Nat → Int32) : Int32 → List (List Nat) → Int32
  | x, [] => x
  | x, p :: L => tr_sm f (x + f p) L
theorem tr_E_sz {j : Bool} {b : Nat → Int32} {sd : Int32} {p : List Nat} {L : List (List Nat)} {on sz : Int32} {sq : Nat → Int32} (h : tr_E j b sd (p :: L) on sz sq) : tr_V j b p ∧ tr_S sq p ∧ sz = nI p.length ∧ 2 ≤ p.length ∧ on = 1 := by
  rcases h with ⟨a, c⟩ | ⟨p1, rest, a, c, d, e, f, g, k⟩
  · exact absurd a (by simp)
  · obtain ⟨rfl, rfl⟩ := List.cons.inj a
    exact ⟨e, f, g, k, c⟩
theorem yf_tl {post : Int32 → SY → Prop} (mv rm jm : Int32) (bd od os ab ap az aj : Nat → Int32) {j : Bool} (hb : dr_V bd) (hj : jm = dr_bI j) : ∀ (L : List (List Nat)) (x on sz : Int32) (sq : Nat → Int32), 0 ≤ x → tr_E j bd mv L on sz sq → (∀ sz' sq', post (tr_mt j x L) (mv, rm, sz', jm, bd, od, os, sq', ab, ap, az, aj)) → wY_mostTaken_7 post (L.length + 1) x on mv rm sz jm bd od os sq ab ap az aj := by
  subst hj
  intro L
  induction L with
  | nil =>
    intro x on sz sq hx hE h
    rcases tr_E_on hE with ⟨_, rfl⟩ | ⟨z, _⟩
    · exact br_t rfl (h sz sq)
    · exact absurd rfl z
  | cons p rest ih =>
    intro x on sz sq hx hE h
    obtain ⟨hV, hS, hz, h2, rfl⟩ := tr_E_sz hE
    have hn := tr_V_len hV
    obtain ⟨k, hk⟩ : ∃ k, p.length = k + 1 := ⟨p.length - 1, by omega⟩
    refine br_f (by decide) ?_
    have nx : ∀ x', 0 ≤ x' → x' = (if tr_tk j p ≤ x then x else tr_tk j p) → wpY_next (fun r_16 u => match u with | (f_mover_17, f_remembered_18, f_size_19, f_jumps_20, a_board_21, a_olds_22, a_oldSides_23, a_squares_24, a_asideBoards_25, a_asidePaths_26, a_asideSizes_27, a_asideJumps_28) => (wY_mostTaken_7 post (rest.length + 1) x' r_16 f_mover_17 f_remembered_18 f_size_19 f_jumps_20 a_board_21 a_olds_22 a_oldSides_23 a_squares_24 a_asideBoards_25 a_asidePaths_26 a_asideSizes_27 a_asideJumps_28)) (mv, rm, sz, dr_bI j, bd, od, os, sq, ab, ap, az, aj) := by
      intro x' hx' ex'
      refine yd_next mv rm sz (dr_bI j) bd od os sq ab ap az aj hb hE ?_
      intro on' sz' sq' hE'
      dsimp only
      refine ih x' on' sz' sq' hx' hE' ?_
      intro sz'' sq''
      rw [ex']
      exact h sz'' sq''
    cases j with
    | false =>
      refine br_t rfl ?_
      exact nx x hx (by simp [tr_tk, hx])
    | true =>
      refine br_f (by decide) ?_
      have e : sz - 1 = nI k := by rw [hz, hk, nI_pred]
      have e2 : tr_tk true p = nI k := by simp [tr_tk, hk]
      rw [e]
      rw [e2] at nx
      refine br_c (fun z => ?_) (fun z => ?_)
      · exact nx x hx (if_pos z).symm
      · exact nx (nI k) (nI_pos' (by omega)) (if_neg z).symm
theorem yf_most {post : Int32 → SY → Prop} (mv rm sz jm : Int32) (bd od os sq ab ap az aj : Nat → Int32) (hb : dr_V bd) (h : ∀ sz' jm' sq', post (tr_mt (tr_mj bd mv) 0 (tr_ML bd mv)) (mv, rm, sz', jm', bd, od, os, sq', ab, ap, az, aj)) : wpY_mostTaken post (mv, rm, sz, jm, bd, od, os, sq, ab, ap, az, aj) := by
  unfold wpY_mostTaken
  dsimp only
  refine yd_first mv rm sz jm bd od os sq ab ap az aj hb ?_
  intro on sz' sq' hE
  exact ⟨(tr_ML bd mv).length + 1, yf_tl mv rm (dr_bI (tr_mj bd mv)) bd od os ab ap az aj hb rfl (tr_ML bd mv) 0 on sz' sq' (by decide) hE (fun sz'' sq'' => h sz'' _ sq'')⟩
theorem yf_ol {post : Int32 → SY → Prop} (mv rm jm : Int32) (bd od os ab ap az aj : Nat → Int32) {j : Bool} (hb : dr_V bd) (hj : jm = dr_bI j) : ∀ (L : List (List Nat)) (x on sz : Int32) (sq : Nat → Int32), tr_E j bd mv L on sz sq → (∀ sz' sq', post (tr_mo x L) (mv, rm, sz', jm, bd, od, os, sq', ab, ap, az, aj)) → wY_movable_7 post (L.length + 1) x on mv rm sz jm bd od os sq ab ap az aj := by
  subst hj
  intro L
  induction L with
  | nil =>
    intro x on sz sq hE h
    rcases tr_E_on hE with ⟨_, rfl⟩ | ⟨z, _⟩
    · exact br_t rfl (h sz sq)
    · exact absurd rfl z
  | cons p rest ih =>
    intro x on sz sq hE h
    obtain ⟨hV, hS, hz, h2, rfl⟩ := tr_E_sz hE
    refine br_f (by decide) ?_
    rw [tr_S_0 (tr_V_ne hV) hS]
    refine nm_e ?_
    refine yd_next mv rm sz (dr_bI j) bd od os sq ab ap az aj hb hE ?_
    intro on' sz' sq' hE'
    exact ih _ on' sz' sq' hE' h
theorem yf_mova {post : Int32 → SY → Prop} (mv rm sz jm : Int32) (bd od os sq ab ap az aj : Nat → Int32) (hb : dr_V bd) (h : ∀ sz' jm' sq', post (tr_mo 0 (tr_ML bd mv)) (mv, rm, sz', jm', bd, od, os, sq', ab, ap, az, aj)) : wpY_movable post (mv, rm, sz, jm, bd, od, os, sq, ab, ap, az, aj) := by
  unfold wpY_movable
  dsimp only
  refine yd_first mv rm sz jm bd od os sq ab ap az aj hb ?_
  intro on sz' sq' hE
  exact ⟨(tr_ML bd mv).length + 1, yf_ol mv rm (dr_bI (tr_mj bd mv)) bd od os ab ap az aj hb rfl (tr_ML bd mv) 0 on sz' sq' hE (fun sz'' sq'' => h sz'' _ sq'')⟩
theorem yf_must {post : Int32 → SY → Prop} (mv rm sz jm : Int32) (bd od os sq ab ap az aj : Nat → Int32) (hb : dr_V bd) (h : ∀ sz' jm' sq', post (dr_bI (tr_mj bd mv)) (mv, rm, sz', jm', bd, od, os, sq', ab, ap, az, aj)) : wpY_mustJump post (mv, rm, sz, jm, bd, od, os, sq, ab, ap, az, aj) := by
  unfold wpY_mustJump
  dsimp only
  refine yd_first mv rm sz jm bd od os sq ab ap az aj hb ?_
  intro on sz' sq' hE
  dsimp only
  cases hj : tr_mj bd mv with
  | false =>
    rw [hj] at h
    exact br_c (fun _ => h _ _ _) (fun _ => br_t rfl (h _ _ _))
  | true =>
    rw [hj] at h
    have hne : tr_ML bd mv ≠ [] := by
      unfold tr_ML
      rw [hj]
      unfold tr_mj at hj
      exact of_decide_eq_true hj
    rcases tr_E_on hE with ⟨z, _⟩ | ⟨_, rfl⟩
    · exact absurd z hne
    · exact br_f (by decide) (br_f (by decide) (h _ _ _))
