/-! the reference's small methods -/
theorem ya_rI : ∀ s, s < 32 → nI s / 4 = nI (ge_r s) := by decide +kernel
theorem ya_cI0 : ∀ s, s < 32 → nI (ge_r s) - nI (ge_r s) / 2 * 2 = 0 → 2 * (nI s - nI s / 4 * 4) + 1 = nI (ge_c s) := by decide +kernel
theorem ya_cI1 : ∀ s, s < 32 → ¬ nI (ge_r s) - nI (ge_r s) / 2 * 2 = 0 → 2 * (nI s - nI s / 4 * 4) + 0 = nI (ge_c s) := by decide +kernel
theorem ya_rc8 : ∀ s, s < 32 → ge_r s < 8 ∧ ge_c s < 8 := by decide +kernel
theorem ya_row {post : Int32 → Prop} {v : SY} {s : Nat} (hs : s < 32) (h : post (nI (ge_r s))) : wpY_row post v (nI s) := by
  obtain ⟨mv, rm, sz, jm, bd, od, os, sq, ab, ap, az, aj⟩ := v
  refine ⟨by decide, ?_⟩
  rw [ya_rI s hs]
  exact h
theorem ya_col {post : Int32 → Prop} {v : SY} {s : Nat} (hs : s < 32) (h : post (nI (ge_c s))) : wpY_column post v (nI s) := by
  obtain ⟨mv, rm, sz, jm, bd, od, os, sq, ab, ap, az, aj⟩ := v
  refine ⟨by decide, ya_row hs ⟨by decide, br_c (fun h0 => ?_) (fun h0 => ?_)⟩⟩
  · rw [ya_cI0 s hs h0]; exact h
  · rw [ya_cI1 s hs h0]; exact h
def dr_5 (x : Int32) : Prop := x = 0 ∨ x = 1 ∨ x = 2 ∨ x = 3 ∨ x = 4
def dr_V (b : Nat → Int32) : Prop := ∀ i, dr_5 (b i)
theorem dr_ow0 : dr_ow 0 = -1 := by decide
theorem dr_ow1 : dr_ow 1 = 0 := by decide
theorem dr_ow2 : dr_ow 2 = 0 := by decide
theorem dr_ow3 : dr_ow 3 = 1 := by decide
theorem dr_ow4 : dr_ow 4 = 1 := by decide
theorem ya_side {post : Int32 → Prop} {v : SY} {x : Int32} (hx : dr_5 x) (h : post (dr_ow x)) : wpY_sideOf post v x := by
  obtain ⟨mv, rm, sz, jm, bd, od, os, sq, ab, ap, az, aj⟩ := v
  rcases hx with rfl | rfl | rfl | rfl | rfl
  · rw [dr_ow0] at h; exact br_f (by decide) (br_f (by decide) (br_f (by decide) (br_f (by decide) h)))
  · rw [dr_ow1] at h; exact br_t rfl h
  · rw [dr_ow2] at h; exact br_f (by decide) (br_t rfl h)
  · rw [dr_ow3] at h; exact br_f (by decide) (br_f (by decide) (br_t rfl h))
  · rw [dr_ow4] at h; exact br_f (by decide) (br_f (by decide) (br_f (by decide) (br_t rfl h)))
def dr_la (x : Int32) (s : Nat) : Bool := (x == 1 && ge_r s == 7) || (x == 3 && ge_r s == 0)
theorem ya_last {post : Int32 → Prop} {v : SY} {x : Int32} {s : Nat} (hx : dr_5 x) (hs : s < 32) (h : post (dr_bI (dr_la x s))) : wpY_lastRow post v x (nI s) := by
  obtain ⟨mv, rm, sz, jm, bd, od, os, sq, ab, ap, az, aj⟩ := v
  have r8 := (ya_rc8 s hs).1
  rcases hx with rfl | rfl | rfl | rfl | rfl
  · exact br_f (by decide) (br_f (by decide) h)
  · refine br_t rfl (ya_row hs (pk_eq (ge_r s) 7 (fun e => ?_) (fun e => ?_)))
    · simp only [dr_la, e] at h; exact h
    · refine br_f (by decide) ?_
      have e2 : dr_la 1 s = false := by simp [dr_la, e]
      rw [e2] at h; exact h
  · exact br_f (by decide) (br_f (by decide) h)
  · refine br_f (by decide) (br_t rfl (ya_row hs (pk_eq (ge_r s) 0 (fun e => ?_) (fun e => ?_))))
    · simp only [dr_la, e] at h; exact h
    · have e2 : dr_la 3 s = false := by simp [dr_la, e]
      rw [e2] at h; exact h
  · exact br_f (by decide) (br_f (by decide) h)
theorem ya_ah {post : Int32 → Prop} {v : SY} {x : Int32} {s t : Nat} (hs : s < 32) (ht : t < 32) (h : post (dr_bI (ge_ah (ge_k x) s t))) : wpY_ahead post v x (nI s) (nI t) := by
  obtain ⟨mv, rm, sz, jm, bd, od, os, sq, ab, ap, az, aj⟩ := v
  have r8 := (ya_rc8 s hs).1
  have t8 := (ya_rc8 t ht).1
  by_cases h1 : x = 1
  · subst h1
    refine br_t rfl (br_f (by decide) (br_t rfl (ya_row ht (ya_row hs (pk_le (ge_r t) (ge_r s) (fun e => ?_) (fun e => ?_))))))
    · have e2 : ge_ah (ge_k 1) s t = false := by simp [ge_ah, ge_k]; omega
      rw [e2] at h; exact h
    · have e2 : ge_ah (ge_k 1) s t = true := by simp [ge_ah, ge_k]; omega
      rw [e2] at h; exact h
  · by_cases h3 : x = 3
    · subst h3
      refine br_f (by decide) (br_t rfl (br_f (by decide) (br_f (by decide) (ya_row ht (ya_row hs (pk_le (ge_r s) (ge_r t) (fun e => ?_) (fun e => ?_)))))))
      · have e2 : ge_ah (ge_k 3) s t = false := by simp [ge_ah, ge_k]; omega
        rw [e2] at h; exact h
      · have e2 : ge_ah (ge_k 3) s t = true := by simp [ge_ah, ge_k]; omega
        rw [e2] at h; exact h
    · have e2 : ge_ah (ge_k x) s t = true := by simp [ge_ah, ge_k, h1, h3]
      rw [e2] at h
      exact br_f h1 (br_f h3 (br_t rfl h))
theorem ya_s2 : ∀ a, a < 8 → ∀ b, b < 8 → ((nI a - nI b = 2 ↔ a = b + 2) ∧ (nI a - nI b = -2 ↔ b = a + 2)) := by decide +kernel
theorem ya_s1 : ∀ a, a < 8 → ∀ b, b < 8 → ((nI a - nI b = 1 ↔ a = b + 1) ∧ (nI a - nI b = -1 ↔ b = a + 1)) := by decide +kernel
theorem ya_sl2 {post : Int32 → Prop} {v : SY} {s t : Nat} (hs : s < 32) (ht : t < 32) (h : post (dr_bI (ge_sl 2 s t))) : wpY_slant post v (nI s) (nI t) 2 := by
  obtain ⟨mv, rm, sz, jm, bd, od, os, sq, ab, ap, az, aj⟩ := v
  obtain ⟨s8, c8⟩ := ya_rc8 s hs
  obtain ⟨t8, d8⟩ := ya_rc8 t ht
  obtain ⟨e1, e2⟩ := ya_s2 _ s8 _ t8
  obtain ⟨e3, e4⟩ := ya_s2 _ c8 _ d8
  unfold wpY_slant
  dsimp only
  refine ya_row hs ?_
  refine ya_row ht ?_
  refine nm_e ?_
  refine ya_col hs ?_
  refine ya_col ht ?_
  refine nm_e ?_
  unfold wY_slant_39
  rw [e1, e2, e3, e4]
  have k : ∀ c, ge_sl 2 s t = c → post (dr_bI c) := fun c e => e ▸ h
  refine ⟨fun a => ⟨fun c => k true (by simp [ge_sl, a, c]), fun c => ⟨fun d => k true (by simp [ge_sl, a, d]), fun d => k false (by simp [ge_sl, c, d])⟩⟩, fun a => ⟨fun a2 => ⟨fun c => k true (by simp [ge_sl, a2, c]), fun c => ⟨fun d => k true (by simp [ge_sl, a2, d]), fun d => k false (by simp [ge_sl, c, d])⟩⟩, fun a2 => k false (by simp [ge_sl, a, a2])⟩⟩
theorem ya_sl1 {post : Int32 → Prop} {v : SY} {s t : Nat} (hs : s < 32) (ht : t < 32) (h : post (dr_bI (ge_sl 1 s t))) : wpY_slant post v (nI s) (nI t) 1 := by
  obtain ⟨mv, rm, sz, jm, bd, od, os, sq, ab, ap, az, aj⟩ := v
  obtain ⟨s8, c8⟩ := ya_rc8 s hs
  obtain ⟨t8, d8⟩ := ya_rc8 t ht
  obtain ⟨e1, e2⟩ := ya_s1 _ s8 _ t8
  obtain ⟨e3, e4⟩ := ya_s1 _ c8 _ d8
  unfold wpY_slant
  dsimp only
  refine ya_row hs ?_
  refine ya_row ht ?_
  refine nm_e ?_
  refine ya_col hs ?_
  refine ya_col ht ?_
  refine nm_e ?_
  unfold wY_slant_39
  rw [e1, e2, e3, e4]
  have k : ∀ c, ge_sl 1 s t = c → post (dr_bI c) := fun c e => e ▸ h
  refine ⟨fun a => ⟨fun c => k true (by simp [ge_sl, a, c]), fun c => ⟨fun d => k true (by simp [ge_sl, a, d]), fun d => k false (by simp [ge_sl, c, d])⟩⟩, fun a => ⟨fun a2 => ⟨fun c => k true (by simp [ge_sl, a2, c]), fun c => ⟨fun d => k true (by simp [ge_sl, a2, d]), fun d => k false (by simp [ge_sl, c, d])⟩⟩, fun a2 => k false (by simp [ge_sl, a, a2])⟩⟩
theorem ya_btw {post : Int32 → Prop} {v : SY} {s t : Nat} (hs : s < 32) (ht : t < 32) (h : post (nI (ge_mid s t))) : wpY_between post v (nI s) (nI t) := by
  obtain ⟨mv, rm, sz, jm, bd, od, os, sq, ab, ap, az, aj⟩ := v
  obtain ⟨s8, c8⟩ := ya_rc8 s hs
  obtain ⟨t8, d8⟩ := ya_rc8 t ht
  have e1 : (nI (ge_r s) + nI (ge_r t)) / 2 = nI ((ge_r s + ge_r t) / 2) := by rw [nI_add]; exact pk_div (d := 2) (by omega) (by omega) (by omega)
  have e2 : (nI (ge_c s) + nI (ge_c t)) / 2 = nI ((ge_c s + ge_c t) / 2) := by rw [nI_add]; exact pk_div (d := 2) (by omega) (by omega) (by omega)
  have e3 : nI ((ge_c s + ge_c t) / 2) / 2 = nI ((ge_c s + ge_c t) / 2 / 2) := pk_div (d := 2) (by omega) (by omega) (by omega)
  have e4 : (4 : Int32) * nI ((ge_r s + ge_r t) / 2) + nI ((ge_c s + ge_c t) / 2 / 2) = nI (ge_mid s t) := by
    rw [show (4 : Int32) * nI ((ge_r s + ge_r t) / 2) = nI (4 * ((ge_r s + ge_r t) / 2)) from pk_mul 4 _, nI_add]; rfl
  unfold wpY_between
  dsimp only
  refine ya_row hs ?_
  refine ya_row ht ?_
  refine ⟨by decide, nm_r e1 ?_⟩
  refine ya_col hs ?_
  refine ya_col ht ?_
  refine ⟨by decide, nm_r e2 ⟨by decide, ?_⟩⟩
  rw [e3, e4]
  exact h
/-! paths in the array squares -/
def tr_S (sq : Nat → Int32) : List Nat → Prop
  | [] => True
  | t :: q => sq q.length = nI t ∧ tr_S sq q
theorem tr_S_0 {sq : Nat → Int32} : ∀ {p : List Nat}, p ≠ [] → tr_S sq p → sq 0 = nI (tr_l p)
  | [], h, _ => absurd rfl h
  | [_], _, h => h.1
  | _ :: s :: q, _, h => tr_S_0 (p := s :: q) (by simp) h.2
theorem tr_S_upd {sq : Nat → Int32} {x : Int32} {n : Nat} : ∀ {p : List Nat}, p.length ≤ n → tr_S sq p → tr_S (upd sq n x) p
  | [], _, _ => True.intro
  | t :: q, hn, h => by
    simp only [List.length_cons] at hn
    exact ⟨(pk_un (by omega)).trans h.1, tr_S_upd (by omega) h.2⟩
theorem tr_S_cons {sq : Nat → Int32} {p : List Nat} {t : Nat} (h : tr_S sq p) : tr_S (upd sq p.length (nI t)) (t :: p) := ⟨pk_us, tr_S_upd (Nat.le_refl _) h⟩
theorem tr_S_at {sq : Nat → Int32} : ∀ {p : List Nat}, (∀ x, x ∈ p → x < 32) → tr_S sq p → ∀ i, i < p.length → sq i = nI (sq i).toNatClampNeg ∧ (sq i).toNatClampNeg < 32
  | [], _, _, _, hi => absurd hi (by simp)
  | t :: q, hb, h, i, hi => by
    simp only [List.length_cons] at hi
    have ht := hb t (by simp)
    rcases Nat.lt_or_ge i q.length with hq | hq
    · exact tr_S_at (fun x hx => hb x (by simp [hx])) h.2 i hq
    · obtain rfl : i = q.length := by omega
      rw [h.1, nI_clamp (by omega)]
      exact ⟨rfl, ht⟩
theorem tr_V_b {j : Bool} {b : Nat → Int32} : ∀ {p : List Nat}, tr_V j b p → ∀ x, x ∈ p → x < 32
  | [], h, _, _ => h.elim
  | [s], h, x, hx => by
    simp only [List.mem_singleton] at hx
    rw [hx]; exact h
  | t :: s :: q, h, x, hx => by
    rcases List.mem_cons.mp hx with rfl | hx
    · exact h.2.1
    · exact tr_V_b h.1 x hx
theorem tr_V_ne {j : Bool} {b : Nat → Int32} {p : List Nat} (h : tr_V j b p) : p ≠ [] := by
  cases p with
  | nil => exact h.elim
  | cons s q => simp
def ya_jf (g : Nat → Nat) (m : Nat) : Nat → Bool
  | 0 => false
  | i + 1 => ya_jf g m i || ge_mid (g i) (g (i + 1)) == m
theorem ya_jf_cr {sq : Nat → Int32} {m : Nat} : ∀ (q : List Nat) (s : Nat), (∀ x, x ∈ s :: q → x < 32) → tr_S sq (s :: q) → ya_jf (fun i => (sq i).toNatClampNeg) m q.length = (tr_cr (s :: q)).contains m := by
  intro q
  induction q with
  | nil => intro s _ _; rfl
  | cons s q ih =>
    intro t hb h
    have h1 := ih s (fun x hx => hb x (by simp [List.mem_cons.mp hx])) h.2
    have e1 : (sq (q.length + 1)).toNatClampNeg = t := by
      have := h.1
      simp only [List.length_cons] at this
      rw [this, nI_clamp (by have := hb t (by simp); omega)]
    have e2 : (sq q.length).toNatClampNeg = s := by rw [h.2.1, nI_clamp (by have := hb s (by simp); omega)]
    show (ya_jf _ m q.length || ge_mid (sq q.length).toNatClampNeg (sq (q.length + 1)).toNatClampNeg == m) = _
    rw [h1, e1, e2]
    show _ = (ge_mid s t :: tr_cr (s :: q)).contains m
    rw [List.contains_cons, Bool.or_comm]
    rw [BEq.comm]
theorem ya_nb (x : Bool) : narrow .boolean (.int (dr_bI x)) = .int (dr_bI x) := by cases x <;> rfl
theorem ya_jl {post : Int32 → Prop} (mv rm sz jm : Int32) (bd od os sq ab ap az aj : Nat → Int32) {m k : Nat} (hm : m < 32) (hk : k < 40) (hz : sz = nI (k + 1)) (hg : ∀ i, i ≤ k → sq i = nI (sq i).toNatClampNeg ∧ (sq i).toNatClampNeg < 32) (h : post (dr_bI (ya_jf (fun i => (sq i).toNatClampNeg) m k))) : ∀ d i, i + d = k → wY_jumped_4 post (nI m) mv rm sz jm bd od os sq ab ap az aj (d + 1) (dr_bI (ya_jf (fun i => (sq i).toNatClampNeg) m i)) (nI i) := by
  intro d
  induction d with
  | zero =>
    intro i hi
    obtain rfl : i = k := by omega
    exact pk_le (i + 1) (i + 1) (fun _ => ⟨ya_nb _, h⟩) (fun z => absurd z (by omega)) hz (nI_1 i)
  | succ d ih =>
    intro i hi
    refine pk_le (k + 1) (i + 1) (fun z => absurd z (by omega)) (fun _ => ?_) hz (nI_1 i)
    have h1 := ih (i + 1) (by omega)
    have e : ya_jf (fun i => (sq i).toNatClampNeg) m (i + 1) = (ya_jf (fun i => (sq i).toNatClampNeg) m i || ge_mid (sq i).toNatClampNeg (sq (i + 1)).toNatClampNeg == m) := rfl
    obtain ⟨ga, gb⟩ := hg i (by omega)
    obtain ⟨gc, gd⟩ := hg (i + 1) (by omega)
    cases hc : ya_jf (fun i => (sq i).toNatClampNeg) m i with
    | true =>
      rw [e, hc, Bool.true_or] at h1
      exact br_f (by decide) (nm_r (nI_1 i) h1)
    | false =>
      rw [e, hc, Bool.false_or] at h1
      refine br_t rfl ⟨vp_in_nI (by omega) (by omega), by rw [nI_1]; exact vp_in_nI (by omega) (by omega), ?_⟩
      rw [nI_1, nI_clamp (by omega), nI_clamp (by omega), ga, gc]
      refine ya_btw gb gd (pk_eq _ m (fun z => nm_e ?_) (fun z => nm_e ?_) rfl rfl (by have := ge_mid32 _ gb _ gd; omega) (by omega))
      · have z2 : (ge_mid (sq i).toNatClampNeg (sq (i + 1)).toNatClampNeg == m) = true := by simpa using z
        rw [z2] at h1
        exact h1
      · have z2 : (ge_mid (sq i).toNatClampNeg (sq (i + 1)).toNatClampNeg == m) = false := by simpa using z
        rw [z2] at h1
        exact h1
theorem ya_jumped {post : Int32 → Prop} (mv rm sz jm : Int32) (bd od os sq ab ap az aj : Nat → Int32) {q : List Nat} {s m : Nat} (hm : m < 32) (hl : q.length < 39) (hb : ∀ x, x ∈ s :: q → x < 32) (hS : tr_S sq (s :: q)) (h : post (dr_bI ((tr_cr (s :: q)).contains m))) : wpY_jumped post (mv, rm, nI (s :: q).length, jm, bd, od, os, sq, ab, ap, az, aj) (nI m) := by
  refine ⟨q.length + 1, ?_⟩
  rw [← ya_jf_cr q s hb hS] at h
  exact ya_jl mv rm (nI (q.length + 1)) jm bd od os sq ab ap az aj hm (by omega) rfl (fun i hi => tr_S_at hb hS i (by simp only [List.length_cons]; omega)) h q.length 0 (by omega)
