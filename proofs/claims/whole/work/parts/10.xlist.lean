/-! the component: tables, canJump, addMove, the search -/
def xt_ti (n : Nat) : Int32 := if n < 32 then nI n else -1
def xt_T (ne fa : Nat → Int32) : Prop := ∀ s, s < 32 → ∀ w, w < 4 → ne (s * 4 + w) = xt_ti (ge_nr s w) ∧ fa (s * 4 + w) = xt_ti (ge_fa s w)
def xt_b (ce : Nat → Int32) (q : Nat) : Nat → Int32 := fun i => if i < 32 then ce (q * 32 + i) else 0
theorem xt_in {ce : Nat → Int32} {q i : Nat} (hi : i < 32) : xt_b ce q i = ce (q * 32 + i) := if_pos hi
theorem xt_t {n : Nat} (h : n < 32) : xt_ti n = nI n := if_pos h
theorem xt_f {n : Nat} (h : ¬ n < 32) : xt_ti n = -1 := if_neg h
theorem xt_ne {n : Nat} (h : n < 32) : ¬ nI n = -1 := (by decide +kernel : ∀ n, n < 32 → ¬ nI n = -1) n h
theorem xt_m32 (l i : Nat) : nI l * 32 + nI i = nI (l * 32 + i) := by
  rw [show nI l * (32 : Int32) = nI (l * 32) from pk_mul l 32, nI_add]
theorem xt_m4 (l i : Nat) : nI l * 4 + nI i = nI (l * 4 + i) := by
  rw [show nI l * (4 : Int32) = nI (l * 4) from pk_mul l 4, nI_add]
theorem xt_m512 (l i : Nat) : nI l * 512 + nI i = nI (l * 512 + i) := by
  rw [show nI l * (512 : Int32) = nI (l * 512) from pk_mul l 512, nI_add]
theorem xt_m10 (l i : Nat) : nI l * 10 + nI i = nI (l * 10 + i) := by
  rw [show nI l * (10 : Int32) = nI (l * 10) from pk_mul l 10, nI_add]
theorem xa_ow {post : Int32 → Prop} {x : Int32} (h : post (dr_ow x)) : wpX_ownerOf post x := by
  unfold dr_ow at h
  refine br_c (fun z => ?_) (fun z => br_c (fun z2 => ?_) (fun z2 => ?_))
  · rw [if_pos z] at h; exact h
  · rw [if_neg z, if_pos z2] at h; exact h
  · rw [if_neg z, if_neg z2] at h; exact h
theorem xa_canJump {post : Int32 → Prop} (mv pn pc : Int32) (ce ne fa li le ta pa tr nw pt : Nat → Int32) {q s w : Nat} {qq : List Nat} (hq : q < 3) (hT : xt_T ne fa) (hV : tr_V true (xt_b ce q) (s :: qq)) (hw : w < 4) (h0 : tr 0 = nI (tr_l (s :: qq))) (h : post (dr_bI (tr_cw (xt_b ce q) (s :: qq) w))) : wpX_canJump post (mv, pn, pc, ce, ne, fa, li, le, ta, pa, tr, nw, pt) (nI q) (nI (s * 4 + w)) (mk_ (s :: qq)) := by
  have hs := tr_V_hd hV
  have hl := tr_V_l hV
  have hB := tr_V_b hV
  obtain ⟨e1, e2⟩ := hT s hs w hw
  unfold wpX_canJump
  dsimp only
  rw [nI_clamp (by omega), e1, e2]
  refine ⟨vp_in_nI (by omega) (by omega), nm_e ⟨vp_in_nI (by omega) (by omega), nm_e ?_⟩⟩
  by_cases hf : ge_fa s w < 32
  · obtain ⟨hn, hm⟩ := ge_midT s hs w hw hf
    rw [xt_t hf, xt_t hn]
    refine br_f (xt_ne hf) ?_
    rw [mk_and hn, mk_bt hB _ hn, h0]
    cases hc : (tr_cr (s :: qq)).contains (ge_nr s w) with
    | true =>
      have hcm : ge_nr s w ∈ tr_cr (s :: qq) := by simpa using hc
      have e : tr_cw (xt_b ce q) (s :: qq) w = false := by simp [tr_cw, hcm]
      rw [e] at h
      exact br_f (by decide) h
    | false =>
      have hcm : ¬ ge_nr s w ∈ tr_cr (s :: qq) := by simpa using hc
      refine br_t rfl (nm_e ?_)
      rw [xt_m32, xt_m32, xt_m32, nI_clamp (by omega), nI_clamp (by omega), nI_clamp (by omega)]
      refine ⟨vp_in_nI (by omega) (by omega), xa_ow ⟨vp_in_nI (by omega) (by omega), xa_ow ?_⟩⟩
      rw [← xt_in (ce := ce) (q := q) hl, ← xt_in (ce := ce) (q := q) hn, ← xt_in (ce := ce) (q := q) hf]
      refine br_c (fun z => ?_) (fun z => ?_)
      · refine pk_eq (ge_fa s w) (tr_l (s :: qq)) (fun z2 => ?_) (fun z2 => ⟨vp_in_nI (by omega) (by omega), br_c (fun z3 => ?_) (fun z3 => ?_)⟩)
        · have e : tr_cw (xt_b ce q) (s :: qq) w = true := by simp [tr_cw, hcm, z, z2, hl]
          rw [e] at h
          exact h
        · have e : tr_cw (xt_b ce q) (s :: qq) w = true := by simp [tr_cw, hcm, z, z3, hf]
          rw [e] at h
          exact h
        · have e : tr_cw (xt_b ce q) (s :: qq) w = false := by simp [tr_cw, z2, z3]
          rw [e] at h
          exact h
      · have e : tr_cw (xt_b ce q) (s :: qq) w = false := by simp [tr_cw, z]
        rw [e] at h
        exact h
  · have e : tr_cw (xt_b ce q) (s :: qq) w = false := by simp [tr_cw, hf]
    rw [e] at h
    rw [xt_f hf]
    exact br_t rfl h
theorem xa_am {post : SX → Prop} (mv pn pc : Int32) (ce ne fa li le ta pa tr nw pt : Nat → Int32) {q n m c : Nat} (hq : q < 3) (hn : n ≤ 10) (hm : m < 1536) (hc : li q = nI c) (h : post (mv, pn, pc, ce, ne, fa, upd li q (nI (c + 1)), le, ta, cp_ pa (m * 10) n tr, tr, nw, pt)) : ∀ d i, i + d = n → wX_addMove_46 post (nI q) (nI n) (nI m) mv pn pc (d + 1) (nI i) ce ne fa li le ta (cp_ pa (m * 10) i tr) tr nw pt := by
  intro d
  induction d with
  | zero =>
    intro i hi
    obtain rfl : i = n := by omega
    refine pk_le i i (fun _ => ⟨vp_in_nI hq (by omega), vp_in_nI hq (by omega), ?_⟩) (fun z => absurd z (by omega))
    rw [nI_clamp (by omega), hc, nI_1]
    exact nm_e h
  | succ d ih =>
    intro i hi
    have h1 := ih (i + 1) (by omega)
    refine pk_le n i (fun z => absurd z (by omega)) (fun _ => ⟨vp_in_nI (by omega) (by omega), ?_⟩)
    rw [xt_m10, nI_clamp (by omega), nI_clamp (by omega)]
    exact ⟨vp_in_nI (by omega) (by omega), nm_r cp_s (nm_r (nI_1 i) h1)⟩
theorem xa_addMove {post : SX → Prop} (mv pn pc : Int32) (ce ne fa li le ta pa tr nw pt : Nat → Int32) {q n c : Nat} {x : Int32} (hq : q < 3) (hn : n ≤ 10) (hc : li q = nI c) (hc5 : c < 512) (h : post (mv, pn, pc, ce, ne, fa, upd li q (nI (c + 1)), upd le (q * 512 + c) (nI n), upd ta (q * 512 + c) x, cp_ pa ((q * 512 + c) * 10) n tr, tr, nw, pt)) : wpX_addMove post (mv, pn, pc, ce, ne, fa, li, le, ta, pa, tr, nw, pt) (nI q) (nI n) x := by
  unfold wpX_addMove
  dsimp only
  rw [nI_clamp (show q < 2 ^ 31 by omega), hc, xt_m512]
  refine ⟨vp_in_nI hq (by omega), pk_lt c 512 (fun _ => ⟨vp_in_nI hq (by omega), nm_e ?_⟩) (fun z => absurd z (by omega))⟩
  rw [nI_clamp (by omega)]
  refine ⟨vp_in_nI (by omega) (by omega), nm_e ⟨vp_in_nI (by omega) (by omega), nm_e ⟨n + 1, ?_⟩⟩⟩
  have k := xa_am mv pn pc ce ne fa li (upd le (q * 512 + c) (nI n)) (upd ta (q * 512 + c) x) pa tr nw pt (m := q * 512 + c) hq hn (by omega) hc h n 0 (by omega)
  rw [cp_0] at k
  exact k
/-! the list as it stands in the arrays -/
def xl_L (q : Nat) (j : Bool) (L : List (List Nat)) (le ta pa : Nat → Int32) : Prop := ∀ k p, L[k]? = some p → le (q * 512 + k) = nI p.length ∧ ta (q * 512 + k) = (if j = true then mk_ p else 0) ∧ tr_S (fun i => pa ((q * 512 + k) * 10 + i)) p ∧ p.length ≤ 10
def xl_R (q : Nat) (j : Bool) (L : List (List Nat)) (li0 le0 ta0 pa0 li le ta pa : Nat → Int32) : Prop :=
  li q = nI L.length ∧ L.length ≤ 512 ∧ xl_L q j L le ta pa ∧ (∀ i, i ≠ q → li i = li0 i) ∧ (∀ i, i < q * 512 ∨ q * 512 + 512 ≤ i → le i = le0 i ∧ ta i = ta0 i) ∧ (∀ i, i < q * 5120 ∨ q * 5120 + 5120 ≤ i → pa i = pa0 i)
theorem xl_add {q : Nat} {j : Bool} {L : List (List Nat)} {li0 le0 ta0 pa0 li le ta pa tr : Nat → Int32} {p : List Nat} {x : Int32} (h : xl_R q j L li0 le0 ta0 pa0 li le ta pa) (hc : L.length < 512) (hp : p.length ≤ 10) (hS : tr_S tr p) (hx : x = if j = true then mk_ p else 0) :
    xl_R q j (L ++ [p]) li0 le0 ta0 pa0 (upd li q (nI (L.length + 1))) (upd le (q * 512 + L.length) (nI p.length)) (upd ta (q * 512 + L.length) x) (cp_ pa ((q * 512 + L.length) * 10) p.length tr) := by
  obtain ⟨h1, h2, h3, h4, h5, h6⟩ := h
  refine ⟨by rw [pk_us, List.length_append]; rfl, by simp only [List.length_append, List.length_cons, List.length_nil]; omega, ?_, ?_, ?_, ?_⟩
  · intro k p' e
    rcases Nat.lt_or_ge k L.length with hk | hk
    · rw [List.getElem?_append_left hk] at e
      obtain ⟨g1, g2, g3, g4⟩ := h3 k p' e
      refine ⟨(pk_un (by omega)).trans g1, (pk_un (by omega)).trans g2, tr_S_congr (fun i hi => ?_) g3, g4⟩
      exact cp_out (by omega)
    · rw [List.getElem?_append_right hk] at e
      obtain rfl : k = L.length := by
        rcases Nat.lt_or_ge L.length k with hk2 | hk2
        · rw [List.getElem?_eq_none (by simp only [List.length_cons, List.length_nil]; omega)] at e
          exact absurd e (by simp)
        · omega
      rw [Nat.sub_self] at e
      obtain rfl : p = p' := by simpa using e
      exact ⟨pk_us, pk_us.trans hx, tr_S_congr (fun i hi => cp_in hi) hS, hp⟩
  · intro i hi
    exact (pk_un hi).trans (h4 i hi)
  · intro i hi
    obtain ⟨g1, g2⟩ := h5 i hi
    exact ⟨(pk_un (by omega)).trans g1, (pk_un (by omega)).trans g2⟩
  · intro i hi
    exact (cp_out (by omega)).trans (h6 i hi)
/-! the search through the jumps of one square -/
def xj_N (nw : Nat → Int32) : List Nat → Prop
  | t :: s :: q => (∃ w, w < 4 ∧ nw q.length = nI (w + 1) ∧ ge_fa s w = t) ∧ xj_N nw (s :: q)
  | _ => True
theorem xj_N_congr {nw nw' : Nat → Int32} : ∀ {p : List Nat}, (∀ i, i + 1 < p.length → nw' i = nw i) → xj_N nw p → xj_N nw' p
  | [], _, _ => True.intro
  | [_], _, _ => True.intro
  | t :: s :: q, hn, h => by
    simp only [List.length_cons] at hn
    obtain ⟨w, hw, e1, e2⟩ := h.1
    exact ⟨⟨w, hw, (hn _ (by omega)).trans e1, e2⟩, xj_N_congr (p := s :: q) (fun i hi => hn i (by simp only [List.length_cons] at hi; omega)) h.2⟩
def xj_c (b : Nat → Int32) (s : Nat) (qq : List Nat) (w kk : Nat) : List Nat := ((List.range' w kk).filter (tr_cw b (s :: qq))).map (ge_fa s)
def xj_o (b : Nat → Int32) (s : Nat) (qq : List Nat) (w kk : Nat) (ja : Bool) : List (List Nat) :=
  if ja = true ∧ xj_c b s qq w kk = [] then (if qq = [] then [] else [s :: qq]) else (xj_c b s qq w kk).flatMap (fun t => tr_lP true b (t :: s :: qq))
def bo_t (n s : Nat) (c : List Nat) (w : Nat) : Nat := if bo_op c s w = true then bo_po n (ge_fa s w) (ge_nr s w :: c) else 0
theorem xj_c_f {b : Nat → Int32} {s : Nat} {qq : List Nat} {w kk : Nat} (h : tr_cw b (s :: qq) w = false) : xj_c b s qq w (kk + 1) = xj_c b s qq (w + 1) kk := by
  unfold xj_c
  rw [List.range'_succ, List.filter_cons_of_neg (by rw [h]; decide)]
theorem xj_c_t {b : Nat → Int32} {s : Nat} {qq : List Nat} {w kk : Nat} (h : tr_cw b (s :: qq) w = true) : xj_c b s qq w (kk + 1) = ge_fa s w :: xj_c b s qq (w + 1) kk := by
  unfold xj_c
  rw [List.range'_succ, List.filter_cons_of_pos h, List.map_cons]
theorem xj_o_f {b : Nat → Int32} {s : Nat} {qq : List Nat} {w kk : Nat} {ja : Bool} (h : tr_cw b (s :: qq) w = false) : xj_o b s qq w (kk + 1) ja = xj_o b s qq (w + 1) kk ja := by
  unfold xj_o
  rw [xj_c_f h]
theorem xj_o_t {b : Nat → Int32} {s : Nat} {qq : List Nat} {w kk : Nat} {ja : Bool} (h : tr_cw b (s :: qq) w = true) : xj_o b s qq w (kk + 1) ja = tr_lP true b (ge_fa s w :: s :: qq) ++ xj_o b s qq (w + 1) kk false := by
  unfold xj_o
  rw [xj_c_t h, if_neg (by simp), if_neg (by simp), List.flatMap_cons]
theorem xj_o_lP {b : Nat → Int32} {s : Nat} {qq : List Nat} (hV : tr_V true b (s :: qq)) (hq : qq ≠ []) : xj_o b s qq (ge_f (ge_k (b (tr_l (s :: qq))))) (ge_e (ge_k (b (tr_l (s :: qq)))) - ge_f (ge_k (b (tr_l (s :: qq))))) true = tr_lP true b (s :: qq) := by
  have e : xj_c b s qq (ge_f (ge_k (b (tr_l (s :: qq))))) (ge_e (ge_k (b (tr_l (s :: qq)))) - ge_f (ge_k (b (tr_l (s :: qq))))) = tr_ch true b (s :: qq) 0 := (tr_ch_w (tr_V_hd hV)).symm
  unfold xj_o
  rw [e]
  by_cases hc : tr_ch true b (s :: qq) 0 = []
  · rw [if_pos ⟨rfl, hc⟩, if_neg hq, tr_lP_nil hc]
  · rw [if_neg (fun z => hc z.2), tr_lP_cons (tr_V_len hV) hc]
theorem xj_o_at {b : Nat → Int32} {s : Nat} {sd : Int32} (hs : s < 32) (h : dr_ow (b s) = sd) : xj_o b s [] (ge_f (ge_k (b s))) (ge_e (ge_k (b s)) - ge_f (ge_k (b s))) true = tr_at true b sd s := by
  have e : xj_c b s [] (ge_f (ge_k (b s))) (ge_e (ge_k (b s)) - ge_f (ge_k (b s))) = tr_ch true b [s] 0 := (tr_ch_w hs).symm
  unfold xj_o tr_at
  rw [e, if_pos h]
  by_cases hc : tr_ch true b [s] 0 = []
  · rw [if_pos ⟨rfl, hc⟩, if_pos rfl, if_pos hc]
  · rw [if_neg (fun z => hc z.2), if_neg hc, tr_lP_cons (by simp) hc]
theorem xj_cw_can {b : Nat → Int32} {s w : Nat} {qq : List Nat} (hV : tr_V true b (s :: qq)) (hf : ge_f (ge_k (b (tr_l (s :: qq)))) ≤ w) (he : w < ge_e (ge_k (b (tr_l (s :: qq))))) (h : tr_cw b (s :: qq) w = true) : tr_V true b (ge_fa s w :: s :: qq) := by
  have hm : ge_fa s w ∈ tr_ch true b (s :: qq) 0 := by
    rw [tr_ch_w (tr_V_hd hV), List.mem_map]
    exact ⟨w, List.mem_filter.mpr ⟨by rw [List.mem_range'_1]; omega, h⟩, rfl⟩
  obtain ⟨_, h1, h2⟩ := tr_ch_mem hm
  exact ⟨hV, h1, h2⟩
