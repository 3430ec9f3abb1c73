/-! the reference: putAside, putBack, twice, plays, remember, back -/
theorem yg_nar (j : Bool) : vp_nar .boolean (dr_bI j) = dr_bI j := by cases j <;> rfl
theorem yg_fit (j : Bool) : fits .boolean (.int (dr_bI j)) = true := by cases j <;> rfl
theorem yg_m32 (l i : Nat) : (32 : Int32) * nI l + nI i = nI (32 * l + i) := by
  rw [show (32 : Int32) * nI l = nI (32 * l) from pk_mul 32 l, nI_add]
theorem yg_m40 (l i : Nat) : (40 : Int32) * nI l + nI i = nI (40 * l + i) := by
  rw [show (40 : Int32) * nI l = nI (40 * l) from pk_mul 40 l, nI_add]
theorem yg_pa2 {post : SY → Prop} (mv rm sz jm : Int32) (bd od os sq ab ap az aj : Nat → Int32) {j : Bool} {l n : Nat} (hl : l < 2) (hn : n ≤ 40) (h : post (mv, rm, nI n, dr_bI j, bd, od, os, sq, ab, cp_ ap (40 * l) n sq, upd az l (nI n), upd aj l (dr_bI j))) : ∀ d i, i + d = n → wY_putAside_33 post (nI l) mv rm (nI n) (dr_bI j) (d + 1) (nI i) bd od os sq ab (cp_ ap (40 * l) i sq) az aj := by
  intro d
  induction d with
  | zero =>
    intro i hi
    obtain rfl : i = n := by omega
    refine pk_le i i (fun _ => ⟨vp_in_nI hl (by omega), ?_⟩) (fun z => absurd z (by omega))
    rw [nI_clamp (by omega), yg_nar]
    exact nm_e ⟨vp_in_nI hl (by omega), nm_e h⟩
  | succ d ih =>
    intro i hi
    have h1 := ih (i + 1) (by omega)
    refine pk_le n i (fun z => absurd z (by omega)) (fun _ => ⟨vp_in_nI (by omega) (by omega), ?_⟩)
    rw [yg_m40, nI_clamp (by omega), nI_clamp (by omega)]
    exact ⟨vp_in_nI (by omega) (by omega), nm_r cp_s (nm_r (nI_1 i) h1)⟩
theorem yg_pa1 {post : SY → Prop} (mv rm sz jm : Int32) (bd od os sq ab ap az aj : Nat → Int32) {j : Bool} {l n : Nat} (hl : l < 2) (hn : n ≤ 40) (h : post (mv, rm, nI n, dr_bI j, bd, od, os, sq, cp_ ab (32 * l) 32 bd, cp_ ap (40 * l) n sq, upd az l (nI n), upd aj l (dr_bI j))) : ∀ d i, i + d = 32 → wY_putAside_2 post (nI l) mv rm (nI n) (dr_bI j) (d + 1) (nI i) bd od os sq (cp_ ab (32 * l) i bd) ap az aj := by
  intro d
  induction d with
  | zero =>
    intro i hi
    obtain rfl : i = 32 := by omega
    refine br_t (by decide) ⟨n + 1, ?_⟩
    have k := yg_pa2 mv rm sz jm bd od os sq (cp_ ab (32 * l) 32 bd) ap az aj hl hn h n 0 (by omega)
    rw [cp_0] at k
    exact k
  | succ d ih =>
    intro i hi
    have h1 := ih (i + 1) (by omega)
    refine br_f (nI_ge (b := 32) (by omega) (by decide)) ⟨vp_in_nI (by omega) (by omega), ?_⟩
    rw [yg_m32, nI_clamp (by omega), nI_clamp (by omega)]
    exact ⟨vp_in_nI (by omega) (by omega), nm_r cp_s (nm_r (nI_1 i) h1)⟩
theorem yg_putAside {post : SY → Prop} (mv rm sz jm : Int32) (bd od os sq ab ap az aj : Nat → Int32) {j : Bool} {l n : Nat} (hl : l < 2) (hn : n ≤ 40) (h : post (mv, rm, nI n, dr_bI j, bd, od, os, sq, cp_ ab (32 * l) 32 bd, cp_ ap (40 * l) n sq, upd az l (nI n), upd aj l (dr_bI j))) : wpY_putAside post (mv, rm, nI n, dr_bI j, bd, od, os, sq, ab, ap, az, aj) (nI l) := by
  refine ⟨32 + 1, ?_⟩
  have k := yg_pa1 mv rm sz jm bd od os sq ab ap az aj hl hn h 32 0 (by omega)
  rw [cp_0] at k
  exact k
theorem yg_pb2 {post : SY → Prop} (mv rm sz jm : Int32) (bd od os sq ab ap az aj : Nat → Int32) {j : Bool} {l n : Nat} (hl : l < 2) (hn : n ≤ 40) (hj : aj l = dr_bI j) (h : post (1 - mv, rm, nI n, dr_bI j, bd, od, os, cp_ sq 0 n (fun i => ap (40 * l + i)), ab, ap, az, aj)) : ∀ d i, i + d = n → wY_putBack_43 post (nI l) mv rm (nI n) jm (d + 1) (nI i) bd od os (cp_ sq 0 i (fun i => ap (40 * l + i))) ab ap az aj := by
  intro d
  induction d with
  | zero =>
    intro i hi
    obtain rfl : i = n := by omega
    refine pk_le i i (fun _ => ⟨vp_in_nI hl (by omega), ?_⟩) (fun z => absurd z (by omega))
    rw [nI_clamp (by omega), hj]
    exact nm_e ⟨ya_nb _, yg_fit _, nm_e h⟩
  | succ d ih =>
    intro i hi
    have h1 := ih (i + 1) (by omega)
    refine pk_le n i (fun z => absurd z (by omega)) (fun _ => ?_)
    rw [yg_m40, nI_clamp (by omega), nI_clamp (by omega)]
    refine ⟨vp_in_nI (by omega) (by omega), vp_in_nI (by omega) (by omega), nm_r ?_ (nm_r (nI_1 i) h1)⟩
    have e := cp_s (d := sq) (o := 0) (k := i) (g := fun i => ap (40 * l + i))
    rw [Nat.zero_add] at e
    exact e
theorem yg_pb1 {post : SY → Prop} (mv rm sz jm : Int32) (bd od os sq ab ap az aj : Nat → Int32) {j : Bool} {l n : Nat} (hl : l < 2) (hn : n ≤ 40) (hz : az l = nI n) (hj : aj l = dr_bI j) (h : post (1 - mv, rm, nI n, dr_bI j, cp_ bd 0 32 (fun i => ab (32 * l + i)), od, os, cp_ sq 0 n (fun i => ap (40 * l + i)), ab, ap, az, aj)) : ∀ d i, i + d = 32 → wY_putBack_2 post (nI l) mv rm sz jm (d + 1) (nI i) (cp_ bd 0 i (fun i => ab (32 * l + i))) od os sq ab ap az aj := by
  intro d
  induction d with
  | zero =>
    intro i hi
    obtain rfl : i = 32 := by omega
    refine br_t (by decide) ⟨vp_in_nI hl (by omega), ?_⟩
    rw [nI_clamp (by omega), hz]
    refine nm_e ⟨n + 1, ?_⟩
    have k := yg_pb2 mv rm sz jm (cp_ bd 0 32 (fun i => ab (32 * l + i))) od os sq ab ap az aj hl hn hj h n 0 (by omega)
    rw [cp_0] at k
    exact k
  | succ d ih =>
    intro i hi
    have h1 := ih (i + 1) (by omega)
    refine br_f (nI_ge (b := 32) (by omega) (by decide)) ?_
    rw [yg_m32, nI_clamp (by omega), nI_clamp (by omega)]
    refine ⟨vp_in_nI (by omega) (by omega), vp_in_nI (by omega) (by omega), nm_r ?_ (nm_r (nI_1 i) h1)⟩
    have e := cp_s (d := bd) (o := 0) (k := i) (g := fun i => ab (32 * l + i))
    rw [Nat.zero_add] at e
    exact e
theorem yg_putBack {post : SY → Prop} (mv rm sz jm : Int32) (bd od os sq ab ap az aj : Nat → Int32) {j : Bool} {l n : Nat} (hl : l < 2) (hn : n ≤ 40) (hz : az l = nI n) (hj : aj l = dr_bI j) (h : post (1 - mv, rm, nI n, dr_bI j, cp_ bd 0 32 (fun i => ab (32 * l + i)), od, os, cp_ sq 0 n (fun i => ap (40 * l + i)), ab, ap, az, aj)) : wpY_putBack post (mv, rm, sz, jm, bd, od, os, sq, ab, ap, az, aj) (nI l) := by
  refine ⟨32 + 1, ?_⟩
  have k := yg_pb1 mv rm sz jm bd od os sq ab ap az aj hl hn hz hj h 32 0 (by omega)
  rw [cp_0] at k
  exact k
/-! what a move aside and back gives -/
def yg_F (ab ap az aj ab' ap' az' aj' : Nat → Int32) : Prop := (∀ i, i < 32 → ab' i = ab i) ∧ (∀ i, i < 40 → ap' i = ap i) ∧ az' 0 = az 0 ∧ aj' 0 = aj 0
theorem yg_mm (x : Int32) : 1 - (1 - x) = x := by grind
theorem yg_bd {j : Bool} {b ab : Nat → Int32} {p : List Nat} (l : Nat) (hV : tr_V j b p) (h : ∀ i, i < 32 → ab (32 * l + i) = b i) : cp_ (tr_ap j b p) 0 32 (fun i => ab (32 * l + i)) = b := cp_eq h (fun _ hi => tr_ap_hi hV hi)
def tr_c1 (b : Nat → Int32) (sd : Int32) : Int32 := nI (tr_ML b sd).length
def tr_c2 (b : Nat → Int32) (sd : Int32) : Int32 := tr_sm (fun p => tr_c1 (tr_ap (tr_mj b sd) b p) (1 - sd)) 0 (tr_ML b sd)
def tr_c3 (b : Nat → Int32) (sd : Int32) : Int32 := tr_sm (fun p => tr_c2 (tr_ap (tr_mj b sd) b p) (1 - sd)) 0 (tr_ML b sd)
theorem tr_E_sq {j : Bool} {b : Nat → Int32} {sd : Int32} {p : List Nat} {L : List (List Nat)} {on sz : Int32} {sq sq' : Nat → Int32} (h : tr_E j b sd (p :: L) on sz sq) (hq : ∀ i, i < p.length → sq' i = sq i) : tr_E j b sd (p :: L) on sz sq' := by
  rcases h with ⟨a, c⟩ | ⟨p1, rest, a, c, d, e, f, g, k⟩
  · exact absurd a (by simp)
  · obtain ⟨rfl, rfl⟩ := List.cons.inj a
    exact Or.inr ⟨p, L, rfl, c, d, e, tr_S_congr hq f, g, k⟩
theorem yg_tw {post : Int32 → SY → Prop} (mv rm jm : Int32) (bd od os : Nat → Int32) {j : Bool} (hb : dr_V bd) (hj : jm = dr_bI j) : ∀ (L : List (List Nat)) (x on sz : Int32) (sq ab ap az aj : Nat → Int32), tr_E j bd mv L on sz sq → (∀ sz' sq' ab' ap' az' aj', yg_F ab ap az aj ab' ap' az' aj' → post (tr_sm (fun p => tr_c1 (tr_ap j bd p) (1 - mv)) x L) (mv, rm, sz', jm, bd, od, os, sq', ab', ap', az', aj')) → wY_twice_7 post (L.length + 1) x on mv rm sz jm bd od os sq ab ap az aj := by
  subst hj
  intro L
  induction L with
  | nil =>
    intro x on sz sq ab ap az aj hE h
    rcases tr_E_on hE with ⟨_, rfl⟩ | ⟨z, _⟩
    · exact br_t rfl (h sz sq ab ap az aj ⟨fun _ _ => rfl, fun _ _ => rfl, rfl, rfl⟩)
    · exact absurd rfl z
  | cons p rest ih =>
    intro x on sz sq ab ap az aj hE h
    obtain ⟨hV, hS, hz, h2, rfl⟩ := tr_E_sz hE
    have hn := tr_V_len hV
    refine br_f (by decide) ?_
    subst hz
    refine yg_putAside mv rm 0 0 bd od os sq ab ap az aj (l := 1) (n := p.length) (j := j) (by omega) (by omega) ?_
    refine ye_carry mv rm 0 0 bd od os sq _ _ _ _ (j := j) hb hV hS ?_
    refine yf_moves (1 - mv) rm _ _ (tr_ap j bd p) od os sq _ _ _ _ (tr_ap_V hb) ?_
    intro sz' jm' sq'
    refine nm_e ?_
    refine yg_putBack (1 - mv) rm sz' jm' (tr_ap j bd p) od os sq' _ _ _ _ (l := 1) (n := p.length) (j := j) (by omega) (by omega) pk_us pk_us ?_
    have eb : cp_ (tr_ap j bd p) 0 32 (fun i => cp_ ab (32 * 1) 32 bd (32 * 1 + i)) = bd := yg_bd 1 hV (fun i hi => cp_in hi)
    rw [eb, yg_mm]
    refine yd_next mv rm _ 0 bd od os _ _ _ _ _ (j := j) hb (tr_E_sq hE (fun i hi => (cp_in0 hi).trans (cp_in hi))) ?_
    intro on' sz'' sq'' hE'
    refine ih _ on' sz'' sq'' _ _ _ _ hE' ?_
    intro sz3 sq3 ab3 ap3 az3 aj3 hF
    refine h sz3 sq3 ab3 ap3 az3 aj3 ?_
    obtain ⟨f1, f2, f3, f4⟩ := hF
    refine ⟨fun i hi => (f1 i hi).trans (cp_out (by omega)), fun i hi => (f2 i hi).trans (cp_out (by omega)), f3.trans (pk_un (by omega)), f4.trans (pk_un (by omega))⟩
theorem yg_twice {post : Int32 → SY → Prop} (mv rm sz jm : Int32) (bd od os sq ab ap az aj : Nat → Int32) (hb : dr_V bd) (h : ∀ sz' jm' sq' ab' ap' az' aj', yg_F ab ap az aj ab' ap' az' aj' → post (tr_c2 bd mv) (mv, rm, sz', jm', bd, od, os, sq', ab', ap', az', aj')) : wpY_twice post (mv, rm, sz, jm, bd, od, os, sq, ab, ap, az, aj) := by
  unfold wpY_twice
  dsimp only
  refine yd_first mv rm sz jm bd od os sq ab ap az aj hb ?_
  intro on sz' sq' hE
  exact ⟨(tr_ML bd mv).length + 1, yg_tw mv rm (dr_bI (tr_mj bd mv)) bd od os hb rfl (tr_ML bd mv) 0 on sz' sq' ab ap az aj hE (fun sz'' sq'' ab' ap' az' aj' hF => h sz'' _ sq'' ab' ap' az' aj' hF)⟩
def tr_cd (d : Int32) (b : Nat → Int32) (sd : Int32) : Int32 := if d = 2 then tr_c1 b sd else tr_c2 b sd
theorem yg_67 {post : Int32 → SY → Prop} {J : Int32 → Int32 → Int32 → Int32 → Int32 → Int32 → (Nat → Int32) → (Nat → Int32) → (Nat → Int32) → (Nat → Int32) → (Nat → Int32) → (Nat → Int32) → (Nat → Int32) → (Nat → Int32) → Prop} {d x z : Int32} (mv rm : Int32) (bd od os sq ab ap az aj : Nat → Int32) {j : Bool} {p : List Nat} {rest : List (List Nat)} (sz' jm' : Int32) (sq' ab' ap' az' aj' : Nat → Int32) (hb : dr_V bd) (hE : tr_E j bd mv (p :: rest) 1 (nI p.length) sq)
    (hF : yg_F (cp_ ab (32 * 0) 32 bd) (cp_ ap (40 * 0) p.length sq) (upd az 0 (nI p.length)) (upd aj 0 (dr_bI j)) ab' ap' az' aj')
    (h : ∀ on'' sz'' sq'', tr_E j bd mv rest on'' sz'' sq'' → J (z + x) on'' mv rm sz'' (dr_bI j) bd od os sq'' ab' ap' az' aj') :
    wY_plays_67 post J d x z (1 - mv) rm sz' jm' (tr_ap j bd p) od os sq' ab' ap' az' aj' := by
  obtain ⟨hV, hS, hz, h2, _⟩ := tr_E_sz hE
  have hn := tr_V_len hV
  obtain ⟨f1, f2, f3, f4⟩ := hF
  refine nm_e ?_
  refine yg_putBack (1 - mv) rm sz' jm' (tr_ap j bd p) od os sq' ab' ap' az' aj' (l := 0) (n := p.length) (j := j) (by omega) (by omega) (f3.trans pk_us) (f4.trans pk_us) ?_
  have eb : cp_ (tr_ap j bd p) 0 32 (fun i => ab' (32 * 0 + i)) = bd := yg_bd 0 hV (fun i hi => (f1 _ (by omega)).trans (cp_in hi))
  rw [eb, yg_mm]
  refine yd_next mv rm _ 0 bd od os _ _ _ _ _ (j := j) hb (tr_E_sq hE (fun i hi => (cp_in0 hi).trans ((f2 _ (by omega)).trans (cp_in hi)))) ?_
  intro on'' sz'' sq'' hE'
  exact h on'' sz'' sq'' hE'
theorem yg_pl {post : Int32 → SY → Prop} (mv rm jm : Int32) (bd od os : Nat → Int32) {d : Int32} {j : Bool} (hb : dr_V bd) (hj : jm = dr_bI j) : ∀ (L : List (List Nat)) (x on sz : Int32) (sq ab ap az aj : Nat → Int32), tr_E j bd mv L on sz sq → (∀ sz' sq' ab' ap' az' aj', post (tr_sm (fun p => tr_cd d (tr_ap j bd p) (1 - mv)) x L) (mv, rm, sz', jm, bd, od, os, sq', ab', ap', az', aj')) → wY_plays_36 post d (L.length + 1) x on mv rm sz jm bd od os sq ab ap az aj := by
  subst hj
  intro L
  induction L with
  | nil =>
    intro x on sz sq ab ap az aj hE h
    rcases tr_E_on hE with ⟨_, rfl⟩ | ⟨z, _⟩
    · exact br_t rfl (h sz sq ab ap az aj)
    · exact absurd rfl z
  | cons p rest ih =>
    intro x on sz sq ab ap az aj hE h
    obtain ⟨hV, hS, hz, h2, rfl⟩ := tr_E_sz hE
    have hn := tr_V_len hV
    refine br_f (by decide) ?_
    subst hz
    refine yg_putAside mv rm 0 0 bd od os sq ab ap az aj (l := 0) (n := p.length) (j := j) (by omega) (by omega) ?_
    refine ye_carry mv rm 0 0 bd od os sq _ _ _ _ (j := j) hb hV hS ?_
    refine br_c (fun hd => ?_) (fun hd => ?_)
    · refine yf_moves (1 - mv) rm _ _ (tr_ap j bd p) od os sq _ _ _ _ (tr_ap_V hb) ?_
      intro sz' jm' sq'
      refine yg_67 mv rm bd od os sq ab ap az aj sz' jm' sq' _ _ _ _ hb hE ⟨fun _ _ => rfl, fun _ _ => rfl, rfl, rfl⟩ ?_
      intro on'' sz'' sq'' hE'
      refine ih _ on'' sz'' sq'' _ _ _ _ hE' ?_
      intro sz3 sq3 ab3 ap3 az3 aj3
      have k := h sz3 sq3 ab3 ap3 az3 aj3
      simp only [tr_sm, tr_cd, hd, if_true] at k
      simp only [tr_cd, hd, if_true]
      exact k
    · refine yg_twice (1 - mv) rm _ _ (tr_ap j bd p) od os sq _ _ _ _ (tr_ap_V hb) ?_
      intro sz' jm' sq' ab' ap' az' aj' hF
      refine yg_67 mv rm bd od os sq ab ap az aj sz' jm' sq' ab' ap' az' aj' hb hE hF ?_
      intro on'' sz'' sq'' hE'
      refine ih _ on'' sz'' sq'' _ _ _ _ hE' ?_
      intro sz3 sq3 ab3 ap3 az3 aj3
      have k := h sz3 sq3 ab3 ap3 az3 aj3
      simp only [tr_sm, tr_cd, hd, if_false] at k
      simp only [tr_cd, hd, if_false]
      exact k
def tr_cc (d : Int32) (b : Nat → Int32) (sd : Int32) : Int32 := tr_sm (fun p => tr_cd d (tr_ap (tr_mj b sd) b p) (1 - sd)) 0 (tr_ML b sd)
theorem yg_plays {post : Int32 → SY → Prop} (mv rm sz jm : Int32) (bd od os sq ab ap az aj : Nat → Int32) {d : Int32} (hb : dr_V bd) (h0 : ¬ d < 0) (h3 : d ≤ 3) (h2 : 2 ≤ d) (h : ∀ sz' jm' sq' ab' ap' az' aj', post (tr_cc d bd mv) (mv, rm, sz', jm', bd, od, os, sq', ab', ap', az', aj')) : wpY_plays post (mv, rm, sz, jm, bd, od, os, sq, ab, ap, az, aj) d := by
  unfold wpY_plays
  dsimp only
  refine br_f h0 (br_t h3 (br_t h2 ?_))
  refine yd_first mv rm sz jm bd od os sq ab ap az aj hb ?_
  intro on sz' sq' hE
  exact ⟨(tr_ML bd mv).length + 1, yg_pl mv rm (dr_bI (tr_mj bd mv)) bd od os hb rfl (tr_ML bd mv) 0 on sz' sq' ab ap az aj hE (fun sz'' sq'' ab' ap' az' aj' => h sz'' _ sq'' ab' ap' az' aj')⟩
