/-! the component: listJumps, listSteps, listMoves -/
theorem xb_fw {post : Int32 → Prop} {x : Int32} (h : post (nI (ge_f (ge_k x)))) : wpX_firstWayOf post x := by
  refine br_c (fun z => ?_) (fun z => ?_)
  · subst z; exact h
  · have e : ge_f (ge_k x) = 0 := by
      unfold ge_f ge_k
      rw [if_neg z]
      split <;> rfl
    rw [e] at h
    exact h
theorem xb_ew {post : Int32 → Prop} {x : Int32} (h : post (nI (ge_e (ge_k x)))) : wpX_endOfWaysOf post x := by
  refine br_c (fun z => ?_) (fun z => ?_)
  · subst z; exact h
  · have e : ge_e (ge_k x) = 4 := by
      unfold ge_e ge_k
      rw [if_neg z]
      split <;> rfl
    rw [e] at h
    exact h
theorem xb_lj {post : SX → Prop} (mv pn pc : Int32) (ce ne fa li le ta pa tr nw pt : Nat → Int32) {li0 le0 ta0 pa0 : Nat → Int32} {q s : Nat} {sd : Int32} {L : List (List Nat)} (hq : q < 3) (hs : s < 32) (hT : xt_T ne fa) (ho : dr_ow (xt_b ce q s) = sd) (hR : xl_R q true L li0 le0 ta0 pa0 li le ta pa) (hL : (L ++ tr_at true (xt_b ce q) sd s).length ≤ 512)
    (h : ∀ li' le' ta' pa' tr' nw', xl_R q true (L ++ tr_at true (xt_b ce q) sd s) li0 le0 ta0 pa0 li' le' ta' pa' → post (mv, pn, pc, ce, ne, fa, li', le', ta', pa', tr', nw', pt)) : wpX_listJumps post (mv, pn, pc, ce, ne, fa, li, le, ta, pa, tr, nw, pt) (nI q) (nI s) := by
  have hk := ge_k3 (xt_b ce q s)
  have hfe := ge_fe _ hk
  unfold wpX_listJumps
  dsimp only
  rw [xt_m32, nI_clamp (by omega), ← xt_in (ce := ce) (q := q) hs]
  refine ⟨vp_in_nI (by omega) (by omega), nm_e (xb_fw (xb_ew (nm_e (nm_e ⟨1000001, ?_⟩))))⟩
  have hV : tr_V true (xt_b ce q) [s] := hs
  have hc : bo_su (bo_t 9 s []) (ge_f (ge_k (xt_b ce q s))) (ge_e (ge_k (xt_b ce q s)) - ge_f (ge_k (xt_b ce q s))) ≤ 1000 := by
    have h1 := bo_sub (bo_t 9 s []) hk
    have h2 := bo_po1 s hs
    have h3 : bo_po 10 s [] = 5 + bo_su (bo_t 9 s []) 0 4 := rfl
    omega
  rw [← xj_o_at hs ho] at hL h
  refine xj_all (post := post) (mv := mv) (pn := pn) (pc := pc) (pt := pt) (li0 := li0) (le0 := le0) (ta0 := ta0) (pa0 := pa0) (f := ge_f (ge_k (xt_b ce q s))) (e := ge_e (ge_k (xt_b ce q s))) hq hT 9 s [] hV rfl rfl rfl (ge_e (ge_k (xt_b ce q s)) - ge_f (ge_k (xt_b ce q s))) (ge_f (ge_k (xt_b ce q s))) true 0 1000001 (upd tr 0 (nI s)) (upd nw 0 (nI (ge_f (ge_k (xt_b ce q s))))) li le ta pa L (by omega) (Nat.le_refl _) ⟨pk_us, True.intro⟩ True.intro pk_us hR hL ?_ rfl ?_
  · show 0 + (_ + 1 + bo_su (bo_t 9 s []) _ _) ≤ 1000000
    omega
  · intro r' fu' tr' nw' li' le' ta' pa' k1 k2 k3 k4 k5
    have k6 : r' ≤ 0 + (ge_e (ge_k (xt_b ce q s)) - ge_f (ge_k (xt_b ce q s)) + 1 + bo_su (bo_t 9 s []) (ge_f (ge_k (xt_b ce q s))) (ge_e (ge_k (xt_b ce q s)) - ge_f (ge_k (xt_b ce q s)))) := k1
    obtain ⟨m, rfl⟩ : ∃ m, fu' = m + 1 := ⟨fu' - 1, by omega⟩
    have hp := h li' le' ta' pa' tr' nw' k5
    exact br_c (fun _ => hp) (fun _ => br_t (show nI 0 + (-1) < 0 by decide) hp)
def xs_o (b : Nat → Int32) (s w kk : Nat) : List (List Nat) := ((List.range' w kk).filter (fun w => b (ge_nr s w) == 0 && decide (ge_nr s w < 32))).map (fun w => [ge_nr s w, s])
theorem xs_at {b : Nat → Int32} {sd : Int32} {s : Nat} (hs : s < 32) (h : dr_ow (b s) = sd) : tr_at false b sd s = xs_o b s (ge_f (ge_k (b s))) (ge_e (ge_k (b s)) - ge_f (ge_k (b s))) := by
  rw [tr_at_st h, tr_ch_s hs, List.map_map]
  rfl
theorem xs_t {b : Nat → Int32} {s w kk : Nat} (h1 : b (ge_nr s w) = 0) (h2 : ge_nr s w < 32) : xs_o b s w (kk + 1) = [ge_nr s w, s] :: xs_o b s (w + 1) kk := by
  unfold xs_o
  rw [List.range'_succ, List.filter_cons_of_pos (by simp [h1, h2]), List.map_cons]
theorem xs_f {b : Nat → Int32} {s w kk : Nat} (h : ¬ (b (ge_nr s w) = 0 ∧ ge_nr s w < 32)) : xs_o b s w (kk + 1) = xs_o b s (w + 1) kk := by
  unfold xs_o
  rw [List.range'_succ, List.filter_cons_of_neg (by simpa using h)]
theorem xs_31 {post : SX → Prop} (mv pn pc : Int32) (ce ne fa nw pt : Nat → Int32) {li0 le0 ta0 pa0 : Nat → Int32} {q s e : Nat} (hq : q < 3) (hs : s < 32) (he : e ≤ 4) (hT : xt_T ne fa) : ∀ kk w (li le ta pa tr : Nat → Int32) (L : List (List Nat)), w + kk = e → tr 0 = nI s → xl_R q false L li0 le0 ta0 pa0 li le ta pa → (L ++ xs_o (xt_b ce q) s w kk).length ≤ 512 →
    (∀ li' le' ta' pa' tr', xl_R q false (L ++ xs_o (xt_b ce q) s w kk) li0 le0 ta0 pa0 li' le' ta' pa' → post (mv, pn, pc, ce, ne, fa, li', le', ta', pa', tr', nw, pt)) → wX_listSteps_31 post (nI q) (nI s) (nI e) (kk + 1) (nI w) mv pn pc ce ne fa li le ta pa tr nw pt := by
  intro kk
  induction kk with
  | zero =>
    intro w li le ta pa tr L hw h0 hR hL h
    refine pk_le e w (fun _ => ?_) (fun z => absurd z (by omega))
    refine h li le ta pa tr ?_
    rw [show xs_o (xt_b ce q) s w 0 = [] from rfl, List.append_nil]
    exact hR
  | succ kk ih =>
    intro w li le ta pa tr L hw h0 hR hL h
    refine pk_le e w (fun z => absurd z (by omega)) (fun _ => ?_)
    rw [xt_m4, nI_clamp (by omega), (hT s hs w (by omega)).1]
    refine ⟨vp_in_nI (by omega) (by omega), nm_e ?_⟩
    by_cases hn : ge_nr s w < 32
    · rw [xt_t hn]
      refine br_f (xt_ne hn) ?_
      rw [xt_m32, nI_clamp (by omega), ← xt_in (ce := ce) (q := q) hn]
      refine ⟨vp_in_nI (by omega) (by omega), br_c (fun z => nm_e ?_) (fun z => nm_r (nI_1 w) ?_)⟩
      · rw [xs_t z hn] at hL h
        simp only [List.length_append, List.length_cons] at hL
        refine xa_addMove mv pn pc ce ne fa li le ta pa (upd tr 1 (nI (ge_nr s w))) nw pt (n := 2) hq (by omega) hR.1 (by omega) ?_
        refine nm_r (nI_1 w) (ih (w + 1) _ _ _ _ _ (L ++ [[ge_nr s w, s]]) (by omega) ((pk_un (by omega)).trans h0) (xl_add hR (by omega) (by simp) ⟨pk_us, (pk_un (by simp)).trans h0, True.intro⟩ rfl) (by simp only [List.length_append, List.length_cons, List.length_nil]; omega) ?_)
        intro li' le' ta' pa' tr' hR'
        refine h li' le' ta' pa' tr' ?_
        rw [List.append_assoc] at hR'
        exact hR'
      · rw [xs_f (fun y => z y.1)] at hL h
        exact ih (w + 1) li le ta pa tr L (by omega) h0 hR hL h
    · rw [xt_f hn]
      rw [xs_f (fun y => hn y.2)] at hL h
      exact br_t rfl (nm_r (nI_1 w) (ih (w + 1) li le ta pa tr L (by omega) h0 hR hL h))
theorem xs_ls {post : SX → Prop} (mv pn pc : Int32) (ce ne fa li le ta pa tr nw pt : Nat → Int32) {li0 le0 ta0 pa0 : Nat → Int32} {q s : Nat} {sd : Int32} {L : List (List Nat)} (hq : q < 3) (hs : s < 32) (hT : xt_T ne fa) (ho : dr_ow (xt_b ce q s) = sd) (hR : xl_R q false L li0 le0 ta0 pa0 li le ta pa) (hL : (L ++ tr_at false (xt_b ce q) sd s).length ≤ 512)
    (h : ∀ li' le' ta' pa' tr', xl_R q false (L ++ tr_at false (xt_b ce q) sd s) li0 le0 ta0 pa0 li' le' ta' pa' → post (mv, pn, pc, ce, ne, fa, li', le', ta', pa', tr', nw, pt)) : wpX_listSteps post (mv, pn, pc, ce, ne, fa, li, le, ta, pa, tr, nw, pt) (nI q) (nI s) := by
  have hk := ge_k3 (xt_b ce q s)
  have hfe := ge_fe _ hk
  unfold wpX_listSteps
  dsimp only
  rw [xt_m32, nI_clamp (by omega), ← xt_in (ce := ce) (q := q) hs]
  rw [xs_at hs ho] at hL h
  refine ⟨vp_in_nI (by omega) (by omega), nm_e (xb_ew (nm_e (xb_fw ⟨ge_e (ge_k (xt_b ce q s)) - ge_f (ge_k (xt_b ce q s)) + 1, ?_⟩)))⟩
  exact xs_31 mv pn pc ce ne fa nw pt hq hs (by omega) hT _ _ li le ta pa _ L (by omega) pk_us hR hL h
theorem xm_76 {post : SX → Prop} (mv pn pc : Int32) (ce ne fa pt : Nat → Int32) {li0 le0 ta0 pa0 : Nat → Int32} {q : Nat} {sd : Int32} (hq : q < 3) (hT : xt_T ne fa) : ∀ d s (li le ta pa tr nw : Nat → Int32) (L : List (List Nat)), s + d = 32 → xl_R q false L li0 le0 ta0 pa0 li le ta pa → (L ++ tr_fr false (xt_b ce q) sd s).length ≤ 512 →
    (∀ li' le' ta' pa' tr' nw', xl_R q false (L ++ tr_fr false (xt_b ce q) sd s) li0 le0 ta0 pa0 li' le' ta' pa' → post (mv, pn, pc, ce, ne, fa, li', le', ta', pa', tr', nw', pt)) → wX_listMoves_76 post (nI q) sd (d + 1) (nI s) mv pn pc ce ne fa li le ta pa tr nw pt := by
  intro d
  induction d with
  | zero =>
    intro s li le ta pa tr nw L hs hR hL h
    obtain rfl : s = 32 := by omega
    rw [tr_fr_32 (Nat.le_refl _), List.append_nil] at h
    exact br_t (by decide) (h li le ta pa tr nw hR)
  | succ d ih =>
    intro s li le ta pa tr nw L hs hR hL h
    have hx : s < 32 := by omega
    refine br_f (nI_ge (b := 32) hx (by decide)) ?_
    rw [xt_m32, nI_clamp (by omega), ← xt_in (ce := ce) (q := q) hx]
    refine ⟨vp_in_nI (by omega) (by omega), xa_ow ?_⟩
    rw [tr_fr_s hx, ← List.append_assoc] at hL h
    refine br_c (fun z => ?_) (fun z => ?_)
    · refine xs_ls mv pn pc ce ne fa li le ta pa tr nw pt hq hx hT z hR (by rw [List.length_append] at hL; omega) ?_
      intro li' le' ta' pa' tr' hR'
      exact nm_r (nI_1 s) (ih (s + 1) li' le' ta' pa' tr' nw _ (by omega) hR' hL h)
    · rw [show tr_at false (xt_b ce q) sd s = [] from by unfold tr_at; rw [if_neg z], List.append_nil] at hL h
      exact nm_r (nI_1 s) (ih (s + 1) li le ta pa tr nw L (by omega) hR hL h)
theorem xm_28 {post : SX → Prop} (mv pn pc : Int32) (ce ne fa pt : Nat → Int32) {li0 le0 ta0 pa0 : Nat → Int32} {q : Nat} {sd : Int32} (hq : q < 3) (hT : xt_T ne fa) : ∀ d s (li le ta pa tr nw : Nat → Int32) (L : List (List Nat)), s + d = 32 → xl_R q true L li0 le0 ta0 pa0 li le ta pa → L ++ tr_fr true (xt_b ce q) sd s = tr_fr true (xt_b ce q) sd 0 →
    (∀ li' le' ta' pa' tr' nw', xl_R q (tr_mj (xt_b ce q) sd) (tr_ML (xt_b ce q) sd) li0 le0 ta0 pa0 li' le' ta' pa' → post (mv, pn, pc, ce, ne, fa, li', le', ta', pa', tr', nw', pt)) → wX_listMoves_28 post (nI q) sd (d + 1) (nI s) mv pn pc ce ne fa li le ta pa tr nw pt := by
  intro d
  induction d with
  | zero =>
    intro s li le ta pa tr nw L hs hR hL h
    obtain rfl : s = 32 := by omega
    rw [tr_fr_32 (Nat.le_refl _), List.append_nil] at hL
    refine br_t (by decide) ⟨vp_in_nI hq (by omega), ?_⟩
    rw [nI_clamp (by omega), hR.1]
    have hl := hR.2.1
    refine pk_le L.length 0 (fun z => ⟨32 + 1, ?_⟩) (fun z => ?_)
    · have hL0 : L = [] := List.length_eq_zero_iff.mp (by omega)
      subst hL0
      have em : tr_mj (xt_b ce q) sd = false := tr_mj_f hL.symm
      unfold tr_ML at h
      rw [em] at h
      have hR2 : xl_R q false [] li0 le0 ta0 pa0 li le ta pa := ⟨hR.1, hR.2.1, fun k p e => absurd e (by simp), hR.2.2.2⟩
      exact xm_76 mv pn pc ce ne fa pt hq hT 32 0 li le ta pa tr nw [] (by omega) hR2 (by rw [List.nil_append]; exact tr_fr_len 32 0 (by omega)) (by intro li' le' ta' pa' tr' nw' hr; rw [List.nil_append] at hr; exact h li' le' ta' pa' tr' nw' hr)
    · have em : tr_mj (xt_b ce q) sd = true := tr_mj_t (by rw [← hL]; intro y; rw [y] at z; simp at z)
      unfold tr_ML at h
      rw [em, ← hL] at h
      exact h li le ta pa tr nw hR
  | succ d ih =>
    intro s li le ta pa tr nw L hs hR hL h
    have hx : s < 32 := by omega
    refine br_f (nI_ge (b := 32) hx (by decide)) ?_
    rw [xt_m32, nI_clamp (by omega), ← xt_in (ce := ce) (q := q) hx]
    refine ⟨vp_in_nI (by omega) (by omega), xa_ow ?_⟩
    rw [tr_fr_s hx, ← List.append_assoc] at hL
    refine br_c (fun z => ?_) (fun z => ?_)
    · have hlen := tr_fr_len (j := true) (b := xt_b ce q) (sd := sd) 32 0 (by omega)
      rw [← hL, List.length_append] at hlen
      refine xb_lj mv pn pc ce ne fa li le ta pa tr nw pt hq hx hT z hR (by omega) ?_
      intro li' le' ta' pa' tr' nw' hR'
      exact nm_r (nI_1 s) (ih (s + 1) li' le' ta' pa' tr' nw' _ (by omega) hR' hL h)
    · rw [show tr_at true (xt_b ce q) sd s = [] from by unfold tr_at; rw [if_neg z], List.append_nil] at hL
      exact nm_r (nI_1 s) (ih (s + 1) li le ta pa tr nw L (by omega) hR hL h)
theorem xm_18 {post : SX → Prop} (mv pn pc : Int32) (ce ne fa li le ta pa tr nw pt : Nat → Int32) {q : Nat} {sd : Int32} (hq : q < 3) (hT : xt_T ne fa) (h : ∀ li' le' ta' pa' tr' nw', xl_R q (tr_mj (xt_b ce q) sd) (tr_ML (xt_b ce q) sd) li le ta pa li' le' ta' pa' → post (mv, pn, pc, ce, ne, fa, li', le', ta', pa', tr', nw', pt)) : wX_listMoves_18 post (nI q) sd mv pn pc ce ne fa li le ta pa tr nw pt := by
  refine ⟨vp_in_nI hq (by omega), ?_⟩
  rw [nI_clamp (by omega)]
  refine nm_e ⟨32 + 1, ?_⟩
  exact xm_28 mv pn pc ce ne fa pt hq hT 32 0 _ le ta pa tr nw [] (by omega) ⟨pk_us, by simp, fun k p e => absurd e (by simp), fun i hi => pk_un hi, fun _ _ => ⟨rfl, rfl⟩, fun _ _ => rfl⟩ (List.nil_append _) h
def xm_sd (q : Nat) (mv : Int32) : Int32 := if q = 1 then 1 - mv else mv
theorem xm_list {post : SX → Prop} (mv pn pc : Int32) (ce ne fa li le ta pa tr nw pt : Nat → Int32) {q : Nat} (hq : q < 3) (hT : xt_T ne fa) (h : ∀ li' le' ta' pa' tr' nw', xl_R q (tr_mj (xt_b ce q) (xm_sd q mv)) (tr_ML (xt_b ce q) (xm_sd q mv)) li le ta pa li' le' ta' pa' → post (mv, pn, pc, ce, ne, fa, li', le', ta', pa', tr', nw', pt)) : wpX_listMoves post (mv, pn, pc, ce, ne, fa, li, le, ta, pa, tr, nw, pt) (nI q) := by
  unfold wpX_listMoves
  dsimp only
  refine pk_eq q 1 (fun z => ?_) (fun z => ?_)
  · rw [show xm_sd q mv = 1 - mv from if_pos z] at h
    exact xm_18 mv pn pc ce ne fa li le ta pa tr nw pt hq hT h
  · rw [show xm_sd q mv = mv from if_neg z] at h
    exact xm_18 mv pn pc ce ne fa li le ta pa tr nw pt hq hT h
