/-! the tree of moves -/
def dr_ow (x : Int32) : Int32 := if x = 0 then -1 else if 3 ≤ x then 1 else 0
def tr_cr : List Nat → List Nat
  | t :: s :: q => ge_mid s t :: tr_cr (s :: q)
  | _ => []
def tr_l : List Nat → Nat
  | [] => 0
  | [s] => s
  | _ :: s :: q => tr_l (s :: q)
def tr_can (j : Bool) (b : Nat → Int32) (p : List Nat) (t : Nat) : Bool :=
  match p with
  | [] => false
  | s :: q => if j then ((b t == 0 || t == tr_l (s :: q)) && (dr_ow (b (ge_mid s t)) == 1 - dr_ow (b (tr_l (s :: q)))) && !((tr_cr (s :: q)).contains (ge_mid s t))) && (ge_sl 2 s t && ge_ah (ge_k (b (tr_l (s :: q)))) s t)
    else (b t == 0 && q.isEmpty) && (ge_sl 1 s t && ge_ah (ge_k (b (tr_l (s :: q)))) s t)
def tr_ch (j : Bool) (b : Nat → Int32) (p : List Nat) (t : Nat) : List Nat := (List.range' t (32 - t)).filter (tr_can j b p)
def tr_lv (j : Bool) (b : Nat → Int32) : Nat → List Nat → List (List Nat)
  | 0, p => [p]
  | n + 1, p => if tr_ch j b p 0 = [] then [p] else (tr_ch j b p 0).flatMap (fun t => tr_lv j b n (t :: p))
def tr_lP (j : Bool) (b : Nat → Int32) (p : List Nat) : List (List Nat) := tr_lv j b (11 - p.length) p
def tr_at (j : Bool) (b : Nat → Int32) (sd : Int32) (s : Nat) : List (List Nat) := if dr_ow (b s) = sd then (if tr_ch j b [s] 0 = [] then [] else tr_lP j b [s]) else []
def tr_fr (j : Bool) (b : Nat → Int32) (sd : Int32) (s : Nat) : List (List Nat) := (List.range' s (32 - s)).flatMap (tr_at j b sd)
def tr_af (j : Bool) (b : Nat → Int32) (sd : Int32) : List Nat → List (List Nat)
  | [] => []
  | [s] => tr_fr j b sd (s + 1)
  | t :: s :: q => (tr_ch j b (s :: q) (t + 1)).flatMap (fun t' => tr_lP j b (t' :: s :: q)) ++ tr_af j b sd (s :: q)
def tr_mj (b : Nat → Int32) (sd : Int32) : Bool := decide (tr_fr true b sd 0 ≠ [])
def tr_ML (b : Nat → Int32) (sd : Int32) : List (List Nat) := tr_fr (tr_mj b sd) b sd 0
theorem tr_lP_nil {j : Bool} {b : Nat → Int32} {p : List Nat} (h : tr_ch j b p 0 = []) : tr_lP j b p = [p] := by
  unfold tr_lP
  cases 11 - p.length with
  | zero => rfl
  | succ n => unfold tr_lv; rw [if_pos h]
theorem tr_lP_cons {j : Bool} {b : Nat → Int32} {p : List Nat} (hp : p.length ≤ 10) (h : tr_ch j b p 0 ≠ []) : tr_lP j b p = (tr_ch j b p 0).flatMap (fun t => tr_lP j b (t :: p)) := by
  have e : 11 - p.length = (10 - p.length) + 1 := by omega
  unfold tr_lP
  rw [e, tr_lv, if_neg h]
  have e2 : 11 - (p.length + 1) = 10 - p.length := by omega
  simp only [List.length_cons, e2]
theorem tr_ch_32 {j : Bool} {b : Nat → Int32} {p : List Nat} {t : Nat} (h : 32 ≤ t) : tr_ch j b p t = [] := by
  unfold tr_ch
  rw [Nat.sub_eq_zero_of_le h]
  rfl
theorem tr_ch_t {j : Bool} {b : Nat → Int32} {p : List Nat} {t : Nat} (h : t < 32) (hc : tr_can j b p t = true) : tr_ch j b p t = t :: tr_ch j b p (t + 1) := by
  have e : 32 - t = (32 - (t + 1)) + 1 := by omega
  unfold tr_ch
  rw [e, List.range'_succ, List.filter_cons_of_pos hc]
theorem tr_ch_f {j : Bool} {b : Nat → Int32} {p : List Nat} {t : Nat} (h : t < 32) (hc : tr_can j b p t = false) : tr_ch j b p t = tr_ch j b p (t + 1) := by
  have e : 32 - t = (32 - (t + 1)) + 1 := by omega
  unfold tr_ch
  rw [e, List.range'_succ, List.filter_cons_of_neg (by rw [hc]; decide)]
theorem tr_fr_32 {j : Bool} {b : Nat → Int32} {sd : Int32} {s : Nat} (h : 32 ≤ s) : tr_fr j b sd s = [] := by
  unfold tr_fr
  rw [Nat.sub_eq_zero_of_le h]
  rfl
theorem tr_fr_s {j : Bool} {b : Nat → Int32} {sd : Int32} {s : Nat} (h : s < 32) : tr_fr j b sd s = tr_at j b sd s ++ tr_fr j b sd (s + 1) := by
  have e : 32 - s = (32 - (s + 1)) + 1 := by omega
  unfold tr_fr
  rw [e, List.range'_succ, List.flatMap_cons]
/-! valid paths -/
def tr_V (j : Bool) (b : Nat → Int32) : List Nat → Prop
  | [] => False
  | [s] => s < 32
  | t :: s :: q => tr_V j b (s :: q) ∧ t < 32 ∧ tr_can j b (s :: q) t = true
theorem tr_V_hd {j : Bool} {b : Nat → Int32} {t : Nat} {q : List Nat} (h : tr_V j b (t :: q)) : t < 32 := by
  cases q with
  | nil => exact h
  | cons s q => exact h.2.1
theorem tr_V_l {j : Bool} {b : Nat → Int32} : ∀ {p : List Nat}, tr_V j b p → tr_l p < 32
  | [], h => h.elim
  | [_], h => h
  | _ :: s :: q, h => tr_V_l (p := s :: q) h.1
def bo_fu : Nat → Nat → List Nat → Bool
  | 0, _, _ => true
  | n + 1, s, c => (List.range' 0 4).any (fun w => decide (ge_fa s w < 32) && !c.contains (ge_nr s w) && bo_fu n (ge_fa s w) (ge_nr s w :: c))
theorem bo_fu10 : ∀ s, s < 32 → bo_fu 10 s [] = false := by decide +kernel
theorem tr_can_geo {b : Nat → Int32} {s t : Nat} {q : List Nat} (h : tr_can true b (s :: q) t = true) : ge_sl 2 s t = true ∧ (tr_cr (s :: q)).contains (ge_mid s t) = false := by
  simp only [tr_can, if_true, Bool.and_eq_true, Bool.not_eq_true'] at h
  exact ⟨h.2.1, h.1.2⟩
theorem tr_V_fu {b : Nat → Int32} : ∀ (q : List Nat) (s : Nat), tr_V true b (s :: q) → (s :: q).length ≤ 10 ∧ bo_fu (11 - (s :: q).length) s (tr_cr (s :: q)) = false := by
  intro q
  induction q with
  | nil => intro s h; exact ⟨by simp, bo_fu10 s h⟩
  | cons s q ih =>
    intro t h
    obtain ⟨hl, hf⟩ := ih s h.1
    obtain ⟨g1, g2⟩ := tr_can_geo h.2.2
    obtain ⟨w, hw, ef, en⟩ := ge_way s (tr_V_hd h.1) t h.2.1 g1
    have e : 11 - (s :: q).length = (11 - (t :: s :: q).length) + 1 := by simp only [List.length_cons] at *; omega
    rw [e, bo_fu, List.any_eq_false] at hf
    have hh := hf w (by rw [List.mem_range'_1]; omega)
    rw [ef, en, g2, decide_eq_true h.2.1] at hh
    have h3 : bo_fu (11 - (t :: s :: q).length) t (tr_cr (t :: s :: q)) = false := by
      show bo_fu (11 - (t :: s :: q).length) t (ge_mid s t :: tr_cr (s :: q)) = false
      cases hb : bo_fu (11 - (t :: s :: q).length) t (ge_mid s t :: tr_cr (s :: q)) with
      | false => rfl
      | true => rw [hb] at hh; exact absurd rfl hh
    refine ⟨?_, h3⟩
    rcases Nat.lt_or_ge 10 (t :: s :: q).length with hx | hx
    · rw [Nat.sub_eq_zero_of_le hx] at h3
      exact absurd h3 (by simp [bo_fu])
    · exact hx
theorem tr_V_len {j : Bool} {b : Nat → Int32} {p : List Nat} (h : tr_V j b p) : p.length ≤ 10 := by
  cases j with
  | true =>
    cases p with
    | nil => exact h.elim
    | cons s q => exact (tr_V_fu q s h).1
  | false =>
    cases p with
    | nil => exact h.elim
    | cons t q =>
      cases q with
      | nil => simp
      | cons s q =>
        have h2 := h.2.2
        simp only [tr_can, Bool.false_eq_true, if_false, Bool.and_eq_true, List.isEmpty_iff] at h2
        have h3 : q = [] := by simpa using h2.1.2
        rw [h3]; simp
theorem tr_ch_mem {j : Bool} {b : Nat → Int32} {p : List Nat} {t0 t : Nat} (h : t ∈ tr_ch j b p t0) : t0 ≤ t ∧ t < 32 ∧ tr_can j b p t = true := by
  unfold tr_ch at h
  rw [List.mem_filter, List.mem_range'_1] at h
  exact ⟨h.1.1, by omega, h.2⟩
theorem tr_V_cons {j : Bool} {b : Nat → Int32} {p : List Nat} {t : Nat} (h : tr_V j b p) (ht : t < 32) (hc : tr_can j b p t = true) : tr_V j b (t :: p) := by
  cases p with
  | nil => exact h.elim
  | cons s q => exact ⟨h, ht, hc⟩
theorem tr_l_cons {p : List Nat} {t : Nat} (h : p ≠ []) : tr_l (t :: p) = tr_l p := by
  cases p with
  | nil => exact absurd rfl h
  | cons s q => rfl
theorem tr_af_cons {j : Bool} {b : Nat → Int32} {sd : Int32} {p : List Nat} {t : Nat} (h : p ≠ []) : tr_af j b sd (t :: p) = (tr_ch j b p (t + 1)).flatMap (fun t' => tr_lP j b (t' :: p)) ++ tr_af j b sd p := by
  cases p with
  | nil => exact absurd rfl h
  | cons s q => rfl
