/-! the members of the list are valid paths -/
theorem tr_lv_V {j : Bool} {b : Nat → Int32} : ∀ n (p : List Nat), tr_V j b p → ∀ p', p' ∈ tr_lv j b n p → tr_V j b p' ∧ p.length ≤ p'.length := by
  intro n
  induction n with
  | zero =>
    intro p hV p' hp'
    rw [tr_lv, List.mem_singleton] at hp'
    rw [hp']
    exact ⟨hV, Nat.le_refl _⟩
  | succ n ih =>
    intro p hV p' hp'
    rw [tr_lv] at hp'
    by_cases hc : tr_ch j b p 0 = []
    · rw [if_pos hc, List.mem_singleton] at hp'
      rw [hp']
      exact ⟨hV, Nat.le_refl _⟩
    · rw [if_neg hc, List.mem_flatMap] at hp'
      obtain ⟨t, ht, hp'⟩ := hp'
      obtain ⟨_, h1, h2⟩ := tr_ch_mem ht
      obtain ⟨h3, h4⟩ := ih (t :: p) (tr_V_cons hV h1 h2) p' hp'
      simp only [List.length_cons] at h4
      exact ⟨h3, by omega⟩
theorem tr_fr_V {j : Bool} {b : Nat → Int32} {sd : Int32} {p : List Nat} (h : p ∈ tr_fr j b sd 0) : tr_V j b p ∧ 2 ≤ p.length := by
  unfold tr_fr at h
  rw [List.mem_flatMap] at h
  obtain ⟨s, hs, h⟩ := h
  rw [List.mem_range'_1] at hs
  have hV : tr_V j b [s] := (by omega : s < 32)
  unfold tr_at at h
  split at h
  · split at h
    · exact absurd h (by simp)
    · rename_i hc
      rw [tr_lP_cons (by simp) hc, List.mem_flatMap] at h
      obtain ⟨t, ht, h⟩ := h
      obtain ⟨_, h1, h2⟩ := tr_ch_mem ht
      obtain ⟨h3, h4⟩ := tr_lv_V _ _ (tr_V_cons hV h1 h2) p h
      exact ⟨h3, h4⟩
  · exact absurd h (by simp)
theorem tr_ML_V {b : Nat → Int32} {sd : Int32} {k : Nat} {p : List Nat} (h : (tr_ML b sd)[k]? = some p) : tr_V (tr_mj b sd) b p ∧ 2 ≤ p.length := tr_fr_V (List.mem_of_getElem? h)
/-! the component: carryOut -/
theorem xc_la28 : ∀ s, s < 32 → ((28 ≤ s ↔ ge_r s = 7) ∧ (4 ≤ s ↔ ge_r s ≠ 0)) := by decide +kernel
theorem xc_la {post : Int32 → Prop} {x : Int32} {s : Nat} (hs : s < 32) (h : post (dr_bI (dr_la x s))) : wpX_isManInLastRow post x (nI s) := by
  obtain ⟨g1, g2⟩ := xc_la28 s hs
  have k : ∀ c, dr_la x s = c → post (dr_bI c) := fun c e => e ▸ h
  have k11 : ¬ (x = 1 ∧ ge_r s = 7) → wX_isManInLastRow_11 post x (nI s) := by
    intro hz
    refine br_c (fun z => pk_le 4 s (fun y => ?_) (fun y => ?_)) (fun z => ?_)
    · exact k false (by subst z; simp [dr_la, g2.mp y])
    · have : ge_r s = 0 := by
        rcases Nat.eq_zero_or_pos (ge_r s) with e | e
        · exact e
        · have := g2.mpr (by omega); omega
      exact k true (by subst z; simp [dr_la, this])
    · refine k false ?_
      unfold dr_la
      have e3 : (x == 3) = false := by simpa using z
      rw [e3]
      by_cases e1 : x = 1
      · have : ¬ ge_r s = 7 := fun y => hz ⟨e1, y⟩
        simp [this]
      · simp [e1]
  refine br_c (fun z => pk_le 28 s (fun y => ?_) (fun y => ?_)) (fun z => ?_)
  · exact k true (by subst z; simp [dr_la, g1.mp y])
  · exact k11 (fun w => by have := g1.mpr w.2; omega)
  · exact k11 (fun w => z w.1)
def xc_g (ce : Nat → Int32) (q : Nat) (m : Int32) : Nat → Int32 := fun s => if (m &&& ((1 : Int32) <<< (nI s &&& 31))) = 0 then ce (q * 32 + s) else 0
theorem xc_60 {post : SX → Prop} (mv pn pc : Int32) (ce ne fa li le ta pa tr nw pt : Nat → Int32) {q q' m l s : Nat} {x : Int32} (hq : q < 3) (hq' : q' < 3) (hm : m < 1536) (hl : l < 32) (hs : s < 32)
    (h : post (mv, pn, pc, upd (upd (cp_ ce (q' * 32) 32 (xc_g ce q (ta m))) (q' * 32 + l) 0) (q' * 32 + s) (if dr_la x s = true then x + 1 else x), ne, fa, li, le, ta, pa, tr, nw, pt)) :
    ∀ d i, i + d = 32 → wX_carryOut_60 post (nI q) (nI q') (nI m) (nI l) (nI s) x mv pn pc (d + 1) (nI i) (cp_ ce (q' * 32) i (xc_g ce q (ta m))) ne fa li le ta pa tr nw pt := by
  intro d
  induction d with
  | zero =>
    intro i hi
    obtain rfl : i = 32 := by omega
    refine br_t (by decide) ?_
    rw [xt_m32, xt_m32, nI_clamp (by omega), nI_clamp (by omega)]
    refine ⟨vp_in_nI (by omega) (by omega), nm_e (xc_la hs ?_)⟩
    cases hc : dr_la x s with
    | true =>
      rw [hc] at h
      exact br_f (by decide) ⟨vp_in_nI (by omega) (by omega), nm_e h⟩
    | false =>
      rw [hc] at h
      exact br_t rfl ⟨vp_in_nI (by omega) (by omega), nm_e h⟩
  | succ d ih =>
    intro i hi
    have h1 := ih (i + 1) (by omega)
    have e1 : cp_ ce (q' * 32) i (xc_g ce q (ta m)) (q * 32 + i) = ce (q * 32 + i) := cp_out (by omega)
    refine br_f (nI_ge (b := 32) (by omega) (by decide)) ⟨vp_in_nI hm (by omega), ?_⟩
    rw [nI_clamp (show m < 2 ^ 31 by omega)]
    refine br_c (fun z => ?_) (fun z => ?_)
    · refine br_t rfl ?_
      rw [xt_m32, xt_m32, nI_clamp (by omega), nI_clamp (by omega), e1]
      refine ⟨vp_in_nI (by omega) (by omega), vp_in_nI (by omega) (by omega), nm_r ?_ (nm_r (nI_1 i) h1)⟩
      rw [← cp_s]
      unfold xc_g
      rw [if_pos z]
    · refine br_f (by decide) ?_
      rw [xt_m32, nI_clamp (by omega)]
      refine ⟨vp_in_nI (by omega) (by omega), nm_r ?_ (nm_r (nI_1 i) h1)⟩
      rw [← cp_s]
      unfold xc_g
      rw [if_neg z]
theorem xc_eq {j : Bool} {ce : Nat → Int32} {q q' : Nat} {s : Nat} {qq : List Nat} {m : Int32} (hV : tr_V j (xt_b ce q) (s :: qq)) (hm : m = if j = true then mk_ (s :: qq) else 0) :
    xt_b (upd (upd (cp_ ce (q' * 32) 32 (xc_g ce q m)) (q' * 32 + tr_l (s :: qq)) 0) (q' * 32 + s) (if dr_la (xt_b ce q (tr_l (s :: qq))) s = true then xt_b ce q (tr_l (s :: qq)) + 1 else xt_b ce q (tr_l (s :: qq)))) q' = tr_ap j (xt_b ce q) (s :: qq) := by
  have hs := tr_V_hd hV
  have hl := tr_V_l hV
  have hB := tr_V_b hV
  funext i
  rcases Nat.lt_or_ge i 32 with hi | hi
  · rw [xt_in hi, tr_ap_cons]
    dsimp only
    by_cases z : i = s
    · rw [if_pos z, z, pk_us]
    · rw [if_neg z, pk_un (by omega)]
      by_cases z2 : i = tr_l (s :: qq)
      · rw [if_pos z2, z2, pk_us]
      · rw [if_neg z2, pk_un (by omega), cp_in hi, xt_in hi]
        unfold xc_g
        cases j with
        | true =>
          have hm2 : m = mk_ (s :: qq) := hm
          subst hm2
          have e := mk_bt hB i hi
          cases hc : (tr_cr (s :: qq)).contains i with
          | true =>
            rw [hc] at e
            rw [if_neg (fun w => by rw [mk_and hi, e] at w; exact absurd w (by decide)), if_pos ⟨rfl, rfl⟩]
          | false =>
            rw [hc] at e
            rw [if_pos ((mk_and hi).mpr e), if_neg (by simp)]
        | false =>
          have hm2 : m = 0 := hm
          subst hm2
          rw [if_pos ((mk_and hi).mpr (b_0 i)), if_neg (by simp)]
  · rw [tr_ap_hi hV hi]
    unfold xt_b
    rw [if_neg (by omega), if_neg (by omega)]
theorem xc_carry {post : SX → Prop} (mv pn pc : Int32) (ce ne fa li le ta pa tr nw pt : Nat → Int32) {j : Bool} {q q' k : Nat} {p : List Nat} (hq : q < 3) (hq' : q' < 3) (hk : k < 512) (hV : tr_V j (xt_b ce q) p) (h1 : le (q * 512 + k) = nI p.length) (h2 : ta (q * 512 + k) = (if j = true then mk_ p else 0)) (h3 : tr_S (fun i => pa ((q * 512 + k) * 10 + i)) p)
    (h : ∀ ce', xt_b ce' q' = tr_ap j (xt_b ce q) p → (∀ i, i < q' * 32 ∨ q' * 32 + 32 ≤ i → ce' i = ce i) → post (mv, pn, pc, ce', ne, fa, li, le, ta, pa, tr, nw, pt)) : wpX_carryOut post (mv, pn, pc, ce, ne, fa, li, le, ta, pa, tr, nw, pt) (nI q) (nI k) (nI q') := by
  cases p with
  | nil => exact hV.elim
  | cons s qq =>
    have hs := tr_V_hd hV
    have hl := tr_V_l hV
    have hn := tr_V_len hV
    simp only [List.length_cons] at hn
    have e0 : pa ((q * 512 + k) * 10) = nI (tr_l (s :: qq)) := tr_S_0 (by simp) h3
    have e1 : nI ((q * 512 + k) * 10) + nI (s :: qq).length - 1 = nI ((q * 512 + k) * 10 + qq.length) := by
      rw [nI_add]
      exact nI_pred _
    have e2 : pa ((q * 512 + k) * 10 + qq.length) = nI s := h3.1
    have e3 : nI (q * 512 + k) * 10 = nI ((q * 512 + k) * 10) := pk_mul _ 10
    unfold wpX_carryOut
    dsimp only
    refine nm_r (xt_m512 q k) ?_
    rw [e3, nI_clamp (show (q * 512 + k) * 10 < 2 ^ 31 by omega), e0, nI_clamp (show q * 512 + k < 2 ^ 31 by omega), h1, e1, nI_clamp (show (q * 512 + k) * 10 + qq.length < 2 ^ 31 by omega), e2]
    refine ⟨vp_in_nI (by omega) (by omega), nm_e ⟨vp_in_nI (by omega) (by omega), vp_in_nI (by omega) (by omega), nm_e ?_⟩⟩
    rw [xt_m32, nI_clamp (by omega), ← xt_in (ce := ce) (q := q) hl]
    refine ⟨vp_in_nI (by omega) (by omega), nm_e ⟨32 + 1, ?_⟩⟩
    have kk := xc_60 (post := post) mv pn pc ce ne fa li le ta pa tr nw pt (q := q) (q' := q') (m := q * 512 + k) (l := tr_l (s :: qq)) (s := s) (x := xt_b ce q (tr_l (s :: qq))) hq hq' (by omega) hl hs (by
      refine h _ ?_ ?_
      · exact xc_eq hV h2
      · intro i hi
        rw [pk_un (by omega), pk_un (by omega), cp_out (by omega)]) 32 0 (by omega)
    rw [cp_0] at kk
    exact kk
/-! the component's loops over its list -/
theorem xd_takenBy {post : Int32 → Prop} (mv pn pc : Int32) (ce ne fa li le ta pa tr nw pt : Nat → Int32) {j : Bool} {L : List (List Nat)} {k : Nat} {p : List Nat} (hL : xl_L 0 j L le ta pa) (hk : k < 512) (e : L[k]? = some p) (hB : ∀ x, x ∈ p → x < 32) (h2 : 2 ≤ p.length) (h : post (tr_tk j p)) : wpX_takenBy post (mv, pn, pc, ce, ne, fa, li, le, ta, pa, tr, nw, pt) (nI k) := by
  obtain ⟨g1, g2, g3, g4⟩ := hL k p e
  rw [Nat.zero_mul, Nat.zero_add] at g1 g2
  unfold wpX_takenBy
  dsimp only
  rw [nI_clamp (by omega), g1, g2]
  refine ⟨vp_in_nI (by omega) (by omega), ?_⟩
  cases j with
  | true =>
    refine br_f (mk_ne hB h2) ⟨vp_in_nI (by omega) (by omega), ?_⟩
    obtain ⟨n, hn⟩ : ∃ n, p.length = n + 1 := ⟨p.length - 1, by omega⟩
    have e3 : tr_tk true p = nI n := by simp [tr_tk, hn]
    rw [hn, nI_pred, ← e3]
    exact h
  | false => exact br_t rfl h
theorem xd_drop {α : Type} {L : List α} {k : Nat} (hk : k < L.length) : ∃ p, L[k]? = some p ∧ L.drop k = p :: L.drop (k + 1) := ⟨L[k], List.getElem?_eq_getElem hk, List.drop_eq_getElem_cons hk⟩
theorem xd_mt {post : Int32 → SX → Prop} (mv pn pc : Int32) (ce ne fa li le ta pa tr nw pt : Nat → Int32) {j : Bool} {b : Nat → Int32} {L : List (List Nat)} (hL : xl_L 0 j L le ta pa) (h5 : L.length ≤ 512) (hV : ∀ (k : Nat) (p : List Nat), L[k]? = some p → tr_V j b p ∧ 2 ≤ p.length) : ∀ d k x, k + d = L.length → post (tr_mt j x (L.drop k)) (mv, pn, pc, ce, ne, fa, li, le, ta, pa, tr, nw, pt) → wX_mostTaken_16 post (nI L.length) mv pn pc ce ne fa li le ta pa tr nw pt (d + 1) x (nI k) := by
  intro d
  induction d with
  | zero =>
    intro k x hk h
    rw [List.drop_eq_nil_of_le (by omega)] at h
    exact pk_le L.length k (fun _ => h) (fun z => absurd z (by omega))
  | succ d ih =>
    intro k x hk h
    obtain ⟨p, e1, e2⟩ := xd_drop (L := L) (k := k) (by omega)
    obtain ⟨v1, v2⟩ := hV k p e1
    rw [e2] at h
    refine pk_le L.length k (fun z => absurd z (by omega)) (fun _ => ?_)
    refine xd_takenBy mv pn pc ce ne fa li le ta pa tr nw pt hL (by omega) e1 (tr_V_b v1) v2 ?_
    refine br_c (fun z => nm_r (nI_1 k) (ih (k + 1) _ (by omega) ?_)) (fun z => nm_r (nI_1 k) (ih (k + 1) _ (by omega) ?_))
    · simp only [tr_mt, if_pos z] at h
      exact h
    · simp only [tr_mt, if_neg z] at h
      exact h
theorem xd_mo {post : Int32 → SX → Prop} (mv pn pc : Int32) (ce ne fa li le ta pa tr nw pt : Nat → Int32) {j : Bool} {b : Nat → Int32} {L : List (List Nat)} (hL : xl_L 0 j L le ta pa) (h5 : L.length ≤ 512) (hV : ∀ (k : Nat) (p : List Nat), L[k]? = some p → tr_V j b p ∧ 2 ≤ p.length) : ∀ d k x, k + d = L.length → post (tr_mo x (L.drop k)) (mv, pn, pc, ce, ne, fa, li, le, ta, pa, tr, nw, pt) → wX_movable_16 post (nI L.length) mv pn pc ce ne fa li le ta pa tr nw pt (d + 1) x (nI k) := by
  intro d
  induction d with
  | zero =>
    intro k x hk h
    rw [List.drop_eq_nil_of_le (by omega)] at h
    exact pk_le L.length k (fun _ => h) (fun z => absurd z (by omega))
  | succ d ih =>
    intro k x hk h
    obtain ⟨p, e1, e2⟩ := xd_drop (L := L) (k := k) (by omega)
    obtain ⟨v1, v2⟩ := hV k p e1
    obtain ⟨g1, g2, g3, g4⟩ := hL k p e1
    rw [e2] at h
    have e3 : nI k * 10 = nI (k * 10) := pk_mul k 10
    have e4 : pa (k * 10) = nI (tr_l p) := by
      have := tr_S_0 (tr_V_ne v1) g3
      simpa using this
    refine pk_le L.length k (fun z => absurd z (by omega)) (fun _ => ?_)
    rw [e3, nI_clamp (by omega), e4]
    exact ⟨vp_in_nI (by omega) (by omega), nm_e (nm_r (nI_1 k) (ih (k + 1) _ (by omega) h))⟩
/-! plays -/
theorem xl_keep {q q1 : Nat} {j j1 : Bool} {L L1 : List (List Nat)} {li le ta pa li' le' ta' pa' : Nat → Int32} (hq : q ≠ q1) (h : xl_L q j L le ta pa) (h5 : L.length ≤ 512) (hR : xl_R q1 j1 L1 li le ta pa li' le' ta' pa') : xl_L q j L le' ta' pa' := by
  obtain ⟨_, _, _, _, f5, f6⟩ := hR
  intro k p e
  obtain ⟨g1, g2, g3, g4⟩ := h k p e
  have hk : k < L.length := (List.getElem?_eq_some_iff.mp e).1
  obtain ⟨a1, a2⟩ := f5 (q * 512 + k) (by omega)
  exact ⟨a1.trans g1, a2.trans g2, tr_S_congr (fun i hi => f6 _ (by omega)) g3, g4⟩
theorem xe_one {post : Int32 → SX → Prop} (mv pn pc : Int32) (ce ne fa li le ta pa tr nw pt : Nat → Int32) (hT : xt_T ne fa) (h : ∀ li' le' ta' pa' tr' nw', xl_R 1 (tr_mj (xt_b ce 1) (1 - mv)) (tr_ML (xt_b ce 1) (1 - mv)) li le ta pa li' le' ta' pa' → post (tr_c1 (xt_b ce 1) (1 - mv)) (mv, pn, pc, ce, ne, fa, li', le', ta', pa', tr', nw', pt)) : wpX_waysForOne post (mv, pn, pc, ce, ne, fa, li, le, ta, pa, tr, nw, pt) := by
  unfold wpX_waysForOne
  dsimp only
  refine xm_list mv pn pc ce ne fa li le ta pa tr nw pt (q := 1) (by omega) hT ?_
  intro li' le' ta' pa' tr' nw' hR
  dsimp only
  rw [hR.1]
  exact h li' le' ta' pa' tr' nw' hR
def xe_K (q0 : Nat) (j0 : Bool) (L0 : List (List Nat)) (b0 : Nat → Int32) (ce le ta pa : Nat → Int32) : Prop := xl_L q0 j0 L0 le ta pa ∧ xt_b ce q0 = b0
theorem xe_b {ce ce' : Nat → Int32} {q q' : Nat} (hq : q ≠ q') (h : ∀ i, i < q' * 32 ∨ q' * 32 + 32 ≤ i → ce' i = ce i) : xt_b ce' q = xt_b ce q := by
  funext i
  unfold xt_b
  split
  · exact h _ (by omega)
  · rfl
theorem xe_tw {post : Int32 → SX → Prop} (mv pn pc : Int32) (ne fa pt : Nat → Int32) {j0 j : Bool} {L0 L : List (List Nat)} {b0 b : Nat → Int32} (hT : xt_T ne fa) (h50 : L0.length ≤ 512) (h5 : L.length ≤ 512) (hV : ∀ (k : Nat) (p : List Nat), L[k]? = some p → tr_V j b p ∧ 2 ≤ p.length)
    (h : ∀ ce' li' le' ta' pa' tr' nw', xe_K 0 j0 L0 b0 ce' le' ta' pa' → post (tr_sm (fun p => tr_c1 (tr_ap j b p) mv) 0 L) (mv, pn, pc, ce', ne, fa, li', le', ta', pa', tr', nw', pt)) :
    ∀ d k x (ce li le ta pa tr nw : Nat → Int32), k + d = L.length → tr_sm (fun p => tr_c1 (tr_ap j b p) mv) x (L.drop k) = tr_sm (fun p => tr_c1 (tr_ap j b p) mv) 0 L → xe_K 0 j0 L0 b0 ce le ta pa → xe_K 1 j L b ce le ta pa → wX_waysForTwo_16 post (nI L.length) (d + 1) x (nI k) mv pn pc ce ne fa li le ta pa tr nw pt := by
  intro d
  induction d with
  | zero =>
    intro k x ce li le ta pa tr nw hk he h0 h1
    rw [List.drop_eq_nil_of_le (by omega)] at he
    refine pk_le L.length k (fun _ => ?_) (fun z => absurd z (by omega))
    have := h ce li le ta pa tr nw h0
    rw [← he] at this
    exact this
  | succ d ih =>
    intro k x ce li le ta pa tr nw hk he h0 h1
    obtain ⟨p, e1, e2⟩ := xd_drop (L := L) (k := k) (by omega)
    obtain ⟨v1, v2⟩ := hV k p e1
    obtain ⟨h1a, h1b⟩ := h1
    obtain ⟨g1, g2, g3, g4⟩ := h1a k p e1
    rw [e2] at he
    refine pk_le L.length k (fun z => absurd z (by omega)) (fun _ => ?_)
    refine xc_carry mv pn pc ce ne fa li le ta pa tr nw pt (q := 1) (q' := 2) (j := j) (by omega) (by omega) (by omega) (by rw [h1b]; exact v1) g1 g2 g3 ?_
    intro ce' c1 c2
    rw [h1b] at c1
    dsimp only
    refine xm_list mv pn pc ce' ne fa li le ta pa tr nw pt (q := 2) (by omega) hT ?_
    intro li' le' ta' pa' tr' nw' hR
    dsimp only
    rw [hR.1, c1]
    refine nm_e (nm_r (nI_1 k) (ih (k + 1) _ ce' li' le' ta' pa' tr' nw' (by omega) he ?_ ?_))
    · exact ⟨xl_keep (by omega) h0.1 h50 hR, by rw [xe_b (by omega) c2]; exact h0.2⟩
    · exact ⟨xl_keep (by omega) h1a h5 hR, by rw [xe_b (by omega) c2]; exact h1b⟩
theorem xe_two {post : Int32 → SX → Prop} (mv pn pc : Int32) (ce ne fa li le ta pa tr nw pt : Nat → Int32) {j0 : Bool} {L0 : List (List Nat)} {b0 : Nat → Int32} (hT : xt_T ne fa) (h50 : L0.length ≤ 512) (h0 : xe_K 0 j0 L0 b0 ce le ta pa)
    (h : ∀ ce' li' le' ta' pa' tr' nw', xe_K 0 j0 L0 b0 ce' le' ta' pa' → post (tr_c2 (xt_b ce 1) (1 - mv)) (mv, pn, pc, ce', ne, fa, li', le', ta', pa', tr', nw', pt)) : wpX_waysForTwo post (mv, pn, pc, ce, ne, fa, li, le, ta, pa, tr, nw, pt) := by
  unfold wpX_waysForTwo
  dsimp only
  refine xm_list mv pn pc ce ne fa li le ta pa tr nw pt (q := 1) (by omega) hT ?_
  intro li' le' ta' pa' tr' nw' hR
  dsimp only
  rw [hR.1]
  refine nm_e ⟨(tr_ML (xt_b ce 1) (xm_sd 1 mv)).length + 1, ?_⟩
  unfold tr_c2 at h
  rw [yg_mm] at h
  exact xe_tw mv pn pc ne fa pt hT h50 hR.2.1 (fun k p e => tr_ML_V e) h (tr_ML (xt_b ce 1) (xm_sd 1 mv)).length 0 0 ce li' le' ta' pa' tr' nw' (by omega) rfl ⟨xl_keep (by omega) h0.1 h50 hR, h0.2⟩ ⟨hR.2.2.1, rfl⟩
theorem xe_pl {post : Int32 → SX → Prop} (mv pn pc : Int32) (ne fa pt : Nat → Int32) {d : Int32} {j : Bool} {L : List (List Nat)} {b : Nat → Int32} (hT : xt_T ne fa) (h5 : L.length ≤ 512) (hV : ∀ (k : Nat) (p : List Nat), L[k]? = some p → tr_V j b p ∧ 2 ≤ p.length)
    (h : ∀ ce' li' le' ta' pa' tr' nw', xe_K 0 j L b ce' le' ta' pa' → post (tr_sm (fun p => tr_cd d (tr_ap j b p) (1 - mv)) 0 L) (mv, pn, pc, ce', ne, fa, li', le', ta', pa', tr', nw', pt)) :
    ∀ dd k x (ce li le ta pa tr nw : Nat → Int32), k + dd = L.length → tr_sm (fun p => tr_cd d (tr_ap j b p) (1 - mv)) x (L.drop k) = tr_sm (fun p => tr_cd d (tr_ap j b p) (1 - mv)) 0 L → xe_K 0 j L b ce le ta pa → wX_plays_46 post d (nI L.length) (dd + 1) x (nI k) mv pn pc ce ne fa li le ta pa tr nw pt := by
  intro dd
  induction dd with
  | zero =>
    intro k x ce li le ta pa tr nw hk he h0
    rw [List.drop_eq_nil_of_le (by omega)] at he
    refine pk_le L.length k (fun _ => ?_) (fun z => absurd z (by omega))
    have := h ce li le ta pa tr nw h0
    rw [← he] at this
    exact this
  | succ dd ih =>
    intro k x ce li le ta pa tr nw hk he h0
    obtain ⟨p, e1, e2⟩ := xd_drop (L := L) (k := k) (by omega)
    obtain ⟨v1, v2⟩ := hV k p e1
    obtain ⟨h0a, h0b⟩ := h0
    obtain ⟨g1, g2, g3, g4⟩ := h0a k p e1
    rw [e2] at he
    refine pk_le L.length k (fun z => absurd z (by omega)) (fun _ => ?_)
    refine xc_carry mv pn pc ce ne fa li le ta pa tr nw pt (q := 0) (q' := 1) (j := j) (by omega) (by omega) (by omega) (by rw [h0b]; exact v1) g1 g2 g3 ?_
    intro ce' c1 c2
    rw [h0b] at c1
    dsimp only
    have h0c : xt_b ce' 0 = b := by rw [xe_b (by omega) c2]; exact h0b
    have he2 : tr_sm (fun p => tr_cd d (tr_ap j b p) (1 - mv)) (x + tr_cd d (tr_ap j b p) (1 - mv)) (L.drop (k + 1)) = tr_sm (fun p => tr_cd d (tr_ap j b p) (1 - mv)) 0 L := he
    refine br_c (fun z => ?_) (fun z => ?_)
    · refine xe_one mv pn pc ce' ne fa li le ta pa tr nw pt hT ?_
      intro li' le' ta' pa' tr' nw' hR
      dsimp only
      rw [c1]
      refine nm_e (nm_r (nI_1 k) (ih (k + 1) _ ce' li' le' ta' pa' tr' nw' (by omega) ?_ ⟨xl_keep (by omega) h0a h5 hR, h0c⟩))
      rw [show tr_cd d (tr_ap j b p) (1 - mv) = tr_c1 (tr_ap j b p) (1 - mv) from if_pos z] at he2
      exact he2
    · refine xe_two mv pn pc ce' ne fa li le ta pa tr nw pt hT h5 ⟨h0a, h0c⟩ ?_
      intro ce2 li' le' ta' pa' tr' nw' hK
      dsimp only
      rw [c1]
      refine nm_e (nm_r (nI_1 k) (ih (k + 1) _ ce2 li' le' ta' pa' tr' nw' (by omega) ?_ hK))
      rw [show tr_cd d (tr_ap j b p) (1 - mv) = tr_c2 (tr_ap j b p) (1 - mv) from if_neg z] at he2
      exact he2
