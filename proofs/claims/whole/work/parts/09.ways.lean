/-! the ways of the component against the squares of the reference; how many moves and rounds there are -/
def tr_cw (b : Nat → Int32) (p : List Nat) (w : Nat) : Bool :=
  match p with
  | [] => false
  | s :: q => (((b (ge_fa s w) == 0 || ge_fa s w == tr_l (s :: q)) && (dr_ow (b (ge_nr s w)) == 1 - dr_ow (b (tr_l (s :: q)))) && !((tr_cr (s :: q)).contains (ge_nr s w)))) && decide (ge_fa s w < 32)
theorem tr_ch_w {b : Nat → Int32} {s : Nat} {q : List Nat} (hs : s < 32) : tr_ch true b (s :: q) 0 = ((List.range' (ge_f (ge_k (b (tr_l (s :: q))))) (ge_e (ge_k (b (tr_l (s :: q)))) - ge_f (ge_k (b (tr_l (s :: q)))))).filter (tr_cw b (s :: q))).map (ge_fa s) := by
  have hk := ge_k3 (b (tr_l (s :: q)))
  have hfe := ge_fe _ hk
  have e : tr_can true b (s :: q) = fun t => (fun t => (b t == 0 || t == tr_l (s :: q)) && (dr_ow (b (ge_mid s t)) == 1 - dr_ow (b (tr_l (s :: q)))) && !((tr_cr (s :: q)).contains (ge_mid s t))) t && (fun t => ge_sl 2 s t && ge_ah (ge_k (b (tr_l (s :: q)))) s t) t := by
    funext t
    simp only [tr_can, if_true]
  unfold tr_ch
  rw [e, ← List.filter_filter, ge_list2 _ hk s hs, List.filter_map, List.filter_filter]
  congr 1
  apply List.filter_congr
  intro w hw
  rw [List.mem_range'_1] at hw
  simp only [tr_cw, Function.comp_apply]
  by_cases hf : ge_fa s w < 32
  · rw [(ge_midT s hs w (by omega) hf).2]
  · simp [hf]
theorem tr_ch_s {b : Nat → Int32} {s : Nat} (hs : s < 32) : tr_ch false b [s] 0 = ((List.range' (ge_f (ge_k (b s))) (ge_e (ge_k (b s)) - ge_f (ge_k (b s)))).filter (fun w => b (ge_nr s w) == 0 && decide (ge_nr s w < 32))).map (ge_nr s) := by
  have hk := ge_k3 (b s)
  have e : tr_can false b [s] = fun t => (fun t => b t == 0) t && (fun t => ge_sl 1 s t && ge_ah (ge_k (b s)) s t) t := by
    funext t
    simp [tr_can, tr_l]
  unfold tr_ch
  rw [e, ← List.filter_filter, ge_list1 _ hk s hs, List.filter_map, List.filter_filter]
  congr 1
def bo_op (c : List Nat) (s w : Nat) : Bool := decide (ge_fa s w < 32) && !c.contains (ge_nr s w)
def bo_su (g : Nat → Nat) (w k : Nat) : Nat := ((List.range' w k).map g).sum
def bo_lf : Nat → Nat → List Nat → Nat
  | 0, _, _ => 1
  | n + 1, s, c => max 1 (bo_su (fun w => if bo_op c s w = true then bo_lf n (ge_fa s w) (ge_nr s w :: c) else 0) 0 4)
def bo_po : Nat → Nat → List Nat → Nat
  | 0, _, _ => 0
  | n + 1, s, c => 5 + bo_su (fun w => if bo_op c s w = true then bo_po n (ge_fa s w) (ge_nr s w :: c) else 0) 0 4
theorem bo_lf16 : ∀ s, s < 32 → bo_lf 10 s [] ≤ 16 := by decide +kernel
theorem bo_po1 : ∀ s, s < 32 → bo_po 10 s [] ≤ 1000 := by decide +kernel
theorem bo_s0 (g : Nat → Nat) (w : Nat) : bo_su g w 0 = 0 := rfl
theorem bo_ss (g : Nat → Nat) (w k : Nat) : bo_su g w (k + 1) = g w + bo_su g (w + 1) k := by
  unfold bo_su
  rw [List.range'_succ, List.map_cons, List.sum_cons]
theorem bo_sub (g : Nat → Nat) {k : Nat} (hk : k < 3) : bo_su g (ge_f k) (ge_e k - ge_f k) ≤ bo_su g 0 4 := by
  have h4 : bo_su g 0 4 = g 0 + (g 1 + (g 2 + (g 3 + 0))) := rfl
  have h2 : bo_su g 2 2 = g 2 + (g 3 + 0) := rfl
  have h0 : bo_su g 0 2 = g 0 + (g 1 + 0) := rfl
  obtain rfl | rfl | rfl : k = 0 ∨ k = 1 ∨ k = 2 := by omega
  · exact Nat.le_refl _
  · show bo_su g 2 2 ≤ _
    omega
  · show bo_su g 0 2 ≤ _
    omega
theorem bo_fl (f : Nat → Bool) (g g' : Nat → Nat) : ∀ R : List Nat, (∀ w, w ∈ R → f w = true → g w ≤ g' w) → ((R.filter f).map g).sum ≤ (R.map g').sum := by
  intro R
  induction R with
  | nil => intro _; exact Nat.le_refl _
  | cons w R ih =>
    intro h
    have h1 := ih (fun x hx => h x (List.mem_cons_of_mem _ hx))
    rw [List.map_cons, List.sum_cons]
    cases hf : f w with
    | true =>
      have h2 := h w (by simp) hf
      rw [List.filter_cons_of_pos hf, List.map_cons, List.sum_cons]
      omega
    | false =>
      rw [List.filter_cons_of_neg (by rw [hf]; decide)]
      omega
theorem tr_cw_op {b : Nat → Int32} {s w : Nat} {q : List Nat} (h : tr_cw b (s :: q) w = true) : ge_fa s w < 32 ∧ (tr_cr (s :: q)).contains (ge_nr s w) = false ∧ bo_op (tr_cr (s :: q)) s w = true := by
  simp only [tr_cw, Bool.and_eq_true, Bool.not_eq_true', decide_eq_true_eq] at h
  refine ⟨h.2, h.1.2, ?_⟩
  unfold bo_op
  rw [h.1.2, decide_eq_true h.2]
  rfl
theorem bo_len {b : Nat → Int32} : ∀ n s (q : List Nat), s < 32 → (tr_lv true b n (s :: q)).length ≤ bo_lf n s (tr_cr (s :: q)) := by
  intro n
  induction n with
  | zero => intro s q _; exact Nat.le_refl _
  | succ n ih =>
    intro s q hs
    have hk := ge_k3 (b (tr_l (s :: q)))
    have hfe := ge_fe _ hk
    unfold tr_lv bo_lf
    by_cases hc : tr_ch true b (s :: q) 0 = []
    · rw [if_pos hc]
      exact Nat.le_max_left _ _
    · rw [if_neg hc, List.length_flatMap, tr_ch_w hs, List.map_map]
      refine Nat.le_trans ?_ (Nat.le_max_right _ _)
      refine Nat.le_trans (bo_fl _ _ (fun w => if bo_op (tr_cr (s :: q)) s w = true then bo_lf n (ge_fa s w) (ge_nr s w :: tr_cr (s :: q)) else 0) _ ?_) (bo_sub _ hk)
      intro w hw hcw
      rw [List.mem_range'_1] at hw
      obtain ⟨h1, h2, h3⟩ := tr_cw_op hcw
      rw [if_pos h3]
      have h4 := ih (ge_fa s w) (s :: q) h1
      rw [show tr_cr (ge_fa s w :: s :: q) = ge_nr s w :: tr_cr (s :: q) from by
        show ge_mid s (ge_fa s w) :: tr_cr (s :: q) = _
        rw [(ge_midT s hs w (by omega) h1).2]] at h4
      exact h4
theorem tr_at_st {b : Nat → Int32} {sd : Int32} {s : Nat} (h : dr_ow (b s) = sd) : tr_at false b sd s = (tr_ch false b [s] 0).map (fun t => [t, s]) := by
  unfold tr_at
  rw [if_pos h]
  by_cases hc : tr_ch false b [s] 0 = []
  · rw [if_pos hc, hc]; rfl
  · rw [if_neg hc, tr_lP_cons (by simp) hc]
    rw [show (fun t => tr_lP false b [t, s]) = (fun t => [[t, s]]) from by funext t; exact tr_lP_nil yc_st2]
    generalize tr_ch false b [s] 0 = l
    induction l with
    | nil => rfl
    | cons t l ih => rw [List.flatMap_cons, List.map_cons, ← ih]; rfl
theorem tr_at_len {j : Bool} {b : Nat → Int32} {sd : Int32} {s : Nat} (hs : s < 32) : (tr_at j b sd s).length ≤ 16 := by
  by_cases h : dr_ow (b s) = sd
  · cases j with
    | true =>
      unfold tr_at
      rw [if_pos h]
      split
      · simp
      · exact Nat.le_trans (bo_len 10 s [] hs) (bo_lf16 s hs)
    | false =>
      rw [tr_at_st h, List.length_map, tr_ch_s hs, List.length_map]
      refine Nat.le_trans (List.length_filter_le _ _) ?_
      rw [List.length_range']
      have := ge_fe _ (ge_k3 (b s))
      omega
  · unfold tr_at
    rw [if_neg h]
    simp
theorem tr_fr_len {j : Bool} {b : Nat → Int32} {sd : Int32} : ∀ d s, s + d = 32 → (tr_fr j b sd s).length ≤ 16 * d := by
  intro d
  induction d with
  | zero =>
    intro s hs
    rw [tr_fr_32 (by omega)]
    simp
  | succ d ih =>
    intro s hs
    have h1 := ih (s + 1) (by omega)
    have h2 := tr_at_len (j := j) (b := b) (sd := sd) (s := s) (by omega)
    rw [tr_fr_s (by omega), List.length_append]
    omega
/-! the set of squares jumped over -/
def mk_ : List Nat → Int32
  | t :: s :: q => mk_ (s :: q) ||| ((1 : Int32) <<< (nI (ge_mid s t) &&& 31))
  | _ => 0
theorem mk_1 : ∀ m, m < 32 → ∀ i, i < 32 → bt ((1 : Int32) <<< (nI m &&& 31)) i = decide (i = m) := by decide +kernel
theorem mk_bt : ∀ {p : List Nat}, (∀ x, x ∈ p → x < 32) → ∀ i, i < 32 → bt (mk_ p) i = (tr_cr p).contains i
  | [], _, i, _ => b_0 i
  | [_], _, i, _ => b_0 i
  | t :: s :: q, hb, i, hi => by
    have h1 := mk_bt (p := s :: q) (fun y hy => hb y (List.mem_cons_of_mem _ hy)) i hi
    have hm := ge_mid32 s (hb s (by simp)) t (hb t (by simp))
    show bt (mk_ (s :: q) ||| _) i = (ge_mid s t :: tr_cr (s :: q)).contains i
    rw [b_or, h1, mk_1 _ hm i hi, List.contains_cons, Bool.or_comm]
    congr 1
theorem mk_and {x : Int32} {m : Nat} (hm : m < 32) : (x &&& ((1 : Int32) <<< (nI m &&& 31))) = 0 ↔ bt x m = false := by
  constructor
  · intro h
    have h1 : bt (x &&& ((1 : Int32) <<< (nI m &&& 31))) m = false := by rw [h]; exact b_0 m
    rw [b_and, mk_1 m hm m hm] at h1
    simpa using h1
  · intro h
    apply b_ext
    intro i hi
    rw [b_and, mk_1 m hm i hi, b_0]
    by_cases e : i = m
    · rw [e, h]; rfl
    · simp [e]
theorem mk_del {x : Int32} {m : Nat} (hm : m < 32) (h : bt x m = false) : (x ||| ((1 : Int32) <<< (nI m &&& 31))) &&& (((1 : Int32) <<< (nI m &&& 31)) ^^^ (-1)) = x := by
  apply b_ext
  intro i hi
  rw [b_and, b_or, b_xor, mk_1 m hm i hi, b_m1 i hi]
  by_cases e : i = m
  · rw [e, h]; simp
  · simp [e]
theorem mk_ne {p : List Nat} (hb : ∀ x, x ∈ p → x < 32) (h2 : 2 ≤ p.length) : mk_ p ≠ 0 := by
  intro e
  match p, h2 with
  | t :: s :: q, _ =>
    have hm := ge_mid32 s (hb s (by simp)) t (hb t (by simp))
    have h := mk_bt hb _ hm
    rw [e, b_0] at h
    have h2 : (tr_cr (t :: s :: q)).contains (ge_mid s t) = true := by
      show (ge_mid s t :: tr_cr (s :: q)).contains (ge_mid s t) = true
      simp
    rw [h2] at h
    exact absurd h (by decide)
