section
/-! rows of kit/rows (pasted) -/
theorem pk_us {f : Nat → Int32} {k : Nat} {x : Int32} : upd f k x k = x := if_pos rfl
theorem pk_un {f : Nat → Int32} {k j : Nat} {x : Int32} (h : j ≠ k) : upd f k x j = f j := if_neg h
theorem pk_sub {a b : Nat} (h : b ≤ a) : nI a - nI b = nI (a - b) := by
  obtain ⟨c, rfl⟩ : ∃ c, a = c + b := ⟨a - b, by omega⟩
  rw [← nI_add, Int32.add_sub_cancel, Nat.add_sub_cancel]
theorem pk_m1 (n : Nat) : nI (n + 1) + (-1) = nI n := by
  rw [← nI_1, Int32.add_assoc, show (1 : Int32) + (-1) = 0 from rfl, Int32.add_zero]
theorem pk_mul (a b : Nat) : nI a * nI b = nI (a * b) := (Int32.ofNat_mul a b).symm
theorem pk_div {a d : Nat} (ha : a < 2 ^ 31) (h0 : 0 < d) (hd : d < 2 ^ 31) : nI a / nI d = nI (a / d) := by
  apply Int32.toInt_inj.mp
  rw [lg_idiv_nonneg (by rw [nI_toInt ha]; omega) (by rw [nI_toInt hd]; omega), nI_toInt ha, nI_toInt hd, nI_toInt (Nat.lt_of_le_of_lt (Nat.div_le_self a d) ha)]
  first | rfl | exact (Int.natCast_ediv _ _).symm
theorem pk_rem {a d : Nat} (ha : a < 2 ^ 31) (h0 : 0 < d) (hd : d < 2 ^ 31) : nI a - nI a / nI d * nI d = nI (a % d) := by
  rw [pk_div ha h0 hd, pk_mul, pk_sub (Nat.div_mul_le_self a d)]
  exact congrArg nI (by have := Nat.div_add_mod' a d; omega)
theorem pk_ix (x : Int32) {n : Nat} (hn : n < 2 ^ 31) : x < 0 ∨ nI n ≤ x ∨ ∃ j : Nat, j < n ∧ x = nI j := by
  by_cases h : x < 0
  · exact Or.inl h
  · obtain ⟨j, hj, rfl⟩ := nI_of h
    by_cases h2 : j < n
    · exact Or.inr (Or.inr ⟨j, h2, rfl⟩)
    · exact Or.inr (Or.inl (nI_le (by omega) hj))
theorem pk_le {x y : Int32} {A B : Prop} (a b : Nat) (f : a ≤ b → A) (g : b < a → B) (hx : x = nI a := by rfl) (hy : y = nI b := by rfl) (ha : a < 2 ^ 31 := by omega) (hb : b < 2 ^ 31 := by omega) : (x ≤ y → A) ∧ (¬ x ≤ y → B) := by
  subst hx hy
  rw [nI_leI ha hb]
  exact ⟨f, fun z => g (by omega)⟩
theorem pk_lt {x y : Int32} {A B : Prop} (a b : Nat) (f : a < b → A) (g : b ≤ a → B) (hx : x = nI a := by rfl) (hy : y = nI b := by rfl) (ha : a < 2 ^ 31 := by omega) (hb : b < 2 ^ 31 := by omega) : (x < y → A) ∧ (¬ x < y → B) := by
  subst hx hy
  rw [nI_ltI ha hb]
  exact ⟨f, fun z => g (by omega)⟩
theorem pk_eq {x y : Int32} {A B : Prop} (a b : Nat) (f : a = b → A) (g : a ≠ b → B) (hx : x = nI a := by rfl) (hy : y = nI b := by rfl) (ha : a < 2 ^ 31 := by omega) (hb : b < 2 ^ 31 := by omega) : (x = y → A) ∧ (¬ x = y → B) := by
  subst hx hy
  rw [nI_eq ha hb]
  exact ⟨f, g⟩
theorem pk_in {x : Int32} (n N : Nat) (h : n < N) (hx : x = nI n := by rfl) (hN : N < 2 ^ 31 := by omega) : vp_in x N := by
  subst hx
  exact vp_in_nI h hN
theorem pk_cl {x : Int32} (n : Nat) (hx : x = nI n := by rfl) (h : n < 2 ^ 31 := by omega) : x.toNatClampNeg = n := by
  subst hx
  exact nI_clamp h
theorem pk_loop {σ : Type} (W : Nat → Nat → σ → Prop) (I : Nat → σ → Prop) (e i0 : Nat) (s : σ) (hi : i0 ≤ e) (h0 : I i0 s) (hx : ∀ n s, I e s → W (n + 1) e s)
    (hs : ∀ n i s, i < e → I i s → (∀ s', I (i + 1) s' → W n (i + 1) s') → W (n + 1) i s) : ∃ n, W n i0 s :=
  ⟨e + 1, loop_i W I e hx hs (e + 1) i0 s hi (by omega) h0⟩
def bt (x : Int32) (i : Nat) : Bool := x.toBitVec.getLsbD i
theorem b_ext {x y : Int32} (h : ∀ i, i < 32 → bt x i = bt y i) : x = y := Int32.toBitVec_inj.mp (BitVec.eq_of_getLsbD_eq (fun i hi => h i hi))
theorem b_or (x y : Int32) (i : Nat) : bt (x ||| y) i = (bt x i || bt y i) := by unfold bt; rw [Int32.toBitVec_or, BitVec.getLsbD_or]
theorem b_and (x y : Int32) (i : Nat) : bt (x &&& y) i = (bt x i && bt y i) := by unfold bt; rw [Int32.toBitVec_and, BitVec.getLsbD_and]
theorem b_xor (x y : Int32) (i : Nat) : bt (x ^^^ y) i = (bt x i ^^ bt y i) := by unfold bt; rw [Int32.toBitVec_xor, BitVec.getLsbD_xor]
theorem b_big {x : Int32} {i : Nat} (h : 32 ≤ i) : bt x i = false := BitVec.getLsbD_of_ge _ _ h
theorem b_m1 : ∀ i, i < 32 → bt (-1) i = true := by decide +kernel
theorem b_0 (i : Nat) : bt 0 i = false := BitVec.getLsbD_zero
theorem s_l : ∀ n, n < 32 → ((nI n &&& 31).toBitVec.smod 32).toNat = n := by decide +kernel
theorem b_shl (n : Nat) (hn : n < 32) (x : Int32) {i : Nat} (hi : i < 32) : bt (x <<< (nI n &&& 31)) i = (decide (n ≤ i) && bt x (i - n)) := by
  unfold bt
  rw [Int32.toBitVec_shiftLeft]
  show (x.toBitVec <<< ((nI n &&& 31).toBitVec.smod 32).toNat).getLsbD i = _
  rw [s_l n hn, BitVec.getLsbD_shiftLeft]
  rcases Nat.lt_or_ge i n with h | h
  · simp [h, Nat.not_le.mpr h]
  · simp [hi, h, Nat.not_lt.mpr h]
/-! the geometry of the board, by naturals -/
def dr_bI (x : Bool) : Int32 := if x then 1 else 0
theorem dr_bt : dr_bI true = 1 := rfl
theorem dr_bf : dr_bI false = 0 := rfl
def ge_r (s : Nat) : Nat := s / 4
def ge_c (s : Nat) : Nat := 2 * (s % 4) + (1 - s / 4 % 2)
def ge_tb (n s w : Nat) : Nat :=
  if 8 ≤ (if w < 2 then ge_r s + 8 - n else ge_r s + 8 + n) ∧ (if w < 2 then ge_r s + 8 - n else ge_r s + 8 + n) < 16 ∧ 8 ≤ (if w % 2 = 0 then ge_c s + 8 - n else ge_c s + 8 + n) ∧ (if w % 2 = 0 then ge_c s + 8 - n else ge_c s + 8 + n) < 16
  then ((if w < 2 then ge_r s + 8 - n else ge_r s + 8 + n) - 8) * 4 + ((if w % 2 = 0 then ge_c s + 8 - n else ge_c s + 8 + n) - 8) / 2 else 32
def ge_nr (s w : Nat) : Nat := ge_tb 1 s w
def ge_fa (s w : Nat) : Nat := ge_tb 2 s w
def ge_mid (s t : Nat) : Nat := 4 * ((ge_r s + ge_r t) / 2) + (ge_c s + ge_c t) / 2 / 2
def ge_sl (n s t : Nat) : Bool := (ge_r s == ge_r t + n || ge_r t == ge_r s + n) && (ge_c s == ge_c t + n || ge_c t == ge_c s + n)
def ge_ah (k s t : Nat) : Bool := if k = 1 then decide (ge_r s < ge_r t) else if k = 2 then decide (ge_r t < ge_r s) else true
def ge_k (x : Int32) : Nat := if x = 1 then 1 else if x = 3 then 2 else 0
def ge_f (k : Nat) : Nat := if k = 1 then 2 else 0
def ge_e (k : Nat) : Nat := if k = 2 then 2 else 4
theorem ge_k3 (x : Int32) : ge_k x < 3 := by unfold ge_k; split <;> (try split) <;> omega
theorem ge_list2 : ∀ k, k < 3 → ∀ s, s < 32 → (List.range' 0 32).filter (fun t => ge_sl 2 s t && ge_ah k s t) = ((List.range' (ge_f k) (ge_e k - ge_f k)).filter (fun w => decide (ge_fa s w < 32))).map (ge_fa s) := by decide +kernel
theorem ge_list1 : ∀ k, k < 3 → ∀ s, s < 32 → (List.range' 0 32).filter (fun t => ge_sl 1 s t && ge_ah k s t) = ((List.range' (ge_f k) (ge_e k - ge_f k)).filter (fun w => decide (ge_nr s w < 32))).map (ge_nr s) := by decide +kernel
theorem ge_midT : ∀ s, s < 32 → ∀ w, w < 4 → ge_fa s w < 32 → ge_nr s w < 32 ∧ ge_mid s (ge_fa s w) = ge_nr s w := by decide +kernel
theorem ge_way : ∀ s, s < 32 → ∀ t, t < 32 → ge_sl 2 s t = true → ∃ w, w < 4 ∧ ge_fa s w = t ∧ ge_nr s w = ge_mid s t := by decide +kernel
theorem ge_mid32 : ∀ s, s < 32 → ∀ t, t < 32 → ge_mid s t < 32 := by decide +kernel
theorem ge_tbI1 : ∀ s, s < 32 → ∀ w, w < 4 → ge_nr s w ≤ 32 ∧ ge_fa s w ≤ 32 := by decide +kernel
theorem ge_fe (k : Nat) (hk : k < 3) : ge_f k < ge_e k ∧ ge_e k ≤ 4 ∧ ge_e k - ge_f k ≤ 4 := by
  unfold ge_f ge_e
  split <;> split <;> omega
end
section
/-! the tree of moves -/
def dr_ow (x : Int32) : Int32 := if x = 0 then -1 else if 3 ≤ x then 1 else 0
def tr_cr : List Nat → List Nat
  | t :: s :: q => ge_mid s t :: tr_cr (s :: q)
  | _ => []
def tr_l : List Nat → Nat
  | [] => 0
  | [s] => s
  | _ :: s :: q => tr_l (s :: q)
def tr_can (j : Bool) (b : Nat → Int32) (p : List Nat) (t : Nat) : Bool :=
  match p with
  | [] => false
  | s :: q => if j then ((b t == 0 || t == tr_l (s :: q)) && (dr_ow (b (ge_mid s t)) == 1 - dr_ow (b (tr_l (s :: q)))) && !((tr_cr (s :: q)).contains (ge_mid s t))) && (ge_sl 2 s t && ge_ah (ge_k (b (tr_l (s :: q)))) s t)
    else (b t == 0 && q.isEmpty) && (ge_sl 1 s t && ge_ah (ge_k (b (tr_l (s :: q)))) s t)
def tr_ch (j : Bool) (b : Nat → Int32) (p : List Nat) (t : Nat) : List Nat := (List.range' t (32 - t)).filter (tr_can j b p)
def tr_lv (j : Bool) (b : Nat → Int32) : Nat → List Nat → List (List Nat)
  | 0, p => [p]
  | n + 1, p => if tr_ch j b p 0 = [] then [p] else (tr_ch j b p 0).flatMap (fun t => tr_lv j b n (t :: p))
def tr_lP (j : Bool) (b : Nat → Int32) (p : List Nat) : List (List Nat) := tr_lv j b (11 - p.length) p
def tr_at (j : Bool) (b : Nat → Int32) (sd : Int32) (s : Nat) : List (List Nat) := if dr_ow (b s) = sd then (if tr_ch j b [s] 0 = [] then [] else tr_lP j b [s]) else []
def tr_fr (j : Bool) (b : Nat → Int32) (sd : Int32) (s : Nat) : List (List Nat) := (List.range' s (32 - s)).flatMap (tr_at j b sd)
def tr_af (j : Bool) (b : Nat → Int32) (sd : Int32) : List Nat → List (List Nat)
  | [] => []
  | [s] => tr_fr j b sd (s + 1)
  | t :: s :: q => (tr_ch j b (s :: q) (t + 1)).flatMap (fun t' => tr_lP j b (t' :: s :: q)) ++ tr_af j b sd (s :: q)
def tr_mj (b : Nat → Int32) (sd : Int32) : Bool := decide (tr_fr true b sd 0 ≠ [])
def tr_ML (b : Nat → Int32) (sd : Int32) : List (List Nat) := tr_fr (tr_mj b sd) b sd 0
theorem tr_lP_nil {j : Bool} {b : Nat → Int32} {p : List Nat} (h : tr_ch j b p 0 = []) : tr_lP j b p = [p] := by
  unfold tr_lP
  cases 11 - p.length with
  | zero => rfl
  | succ n => unfold tr_lv; rw [if_pos h]
theorem tr_lP_cons {j : Bool} {b : Nat → Int32} {p : List Nat} (hp : p.length ≤ 10) (h : tr_ch j b p 0 ≠ []) : tr_lP j b p = (tr_ch j b p 0).flatMap (fun t => tr_lP j b (t :: p)) := by
  have e : 11 - p.length = (10 - p.length) + 1 := by omega
  unfold tr_lP
  rw [e, tr_lv, if_neg h]
  have e2 : 11 - (p.length + 1) = 10 - p.length := by omega
  simp only [List.length_cons, e2]
theorem tr_ch_32 {j : Bool} {b : Nat → Int32} {p : List Nat} {t : Nat} (h : 32 ≤ t) : tr_ch j b p t = [] := by
  unfold tr_ch
  rw [Nat.sub_eq_zero_of_le h]
  rfl
theorem tr_ch_t {j : Bool} {b : Nat → Int32} {p : List Nat} {t : Nat} (h : t < 32) (hc : tr_can j b p t = true) : tr_ch j b p t = t :: tr_ch j b p (t + 1) := by
  have e : 32 - t = (32 - (t + 1)) + 1 := by omega
  unfold tr_ch
  rw [e, List.range'_succ, List.filter_cons_of_pos hc]
theorem tr_ch_f {j : Bool} {b : Nat → Int32} {p : List Nat} {t : Nat} (h : t < 32) (hc : tr_can j b p t = false) : tr_ch j b p t = tr_ch j b p (t + 1) := by
  have e : 32 - t = (32 - (t + 1)) + 1 := by omega
  unfold tr_ch
  rw [e, List.range'_succ, List.filter_cons_of_neg (by rw [hc]; decide)]
theorem tr_fr_32 {j : Bool} {b : Nat → Int32} {sd : Int32} {s : Nat} (h : 32 ≤ s) : tr_fr j b sd s = [] := by
  unfold tr_fr
  rw [Nat.sub_eq_zero_of_le h]
  rfl
theorem tr_fr_s {j : Bool} {b : Nat → Int32} {sd : Int32} {s : Nat} (h : s < 32) : tr_fr j b sd s = tr_at j b sd s ++ tr_fr j b sd (s + 1) := by
  have e : 32 - s = (32 - (s + 1)) + 1 := by omega
  unfold tr_fr
  rw [e, List.range'_succ, List.flatMap_cons]
/-! valid paths -/
def tr_V (j : Bool) (b : Nat → Int32) : List Nat → Prop
  | [] => False
  | [s] => s < 32
  | t :: s :: q => tr_V j b (s :: q) ∧ t < 32 ∧ tr_can j b (s :: q) t = true
theorem tr_V_hd {j : Bool} {b : Nat → Int32} {t : Nat} {q : List Nat} (h : tr_V j b (t :: q)) : t < 32 := by
  cases q with
  | nil => exact h
  | cons s q => exact h.2.1
theorem tr_V_l {j : Bool} {b : Nat → Int32} : ∀ {p : List Nat}, tr_V j b p → tr_l p < 32
  | [], h => h.elim
  | [_], h => h
  | _ :: s :: q, h => tr_V_l (p := s :: q) h.1
def bo_fu : Nat → Nat → List Nat → Bool
  | 0, _, _ => true
  | n + 1, s, c => (List.range' 0 4).any (fun w => decide (ge_fa s w < 32) && !c.contains (ge_nr s w) && bo_fu n (ge_fa s w) (ge_nr s w :: c))
theorem bo_fu10 : ∀ s, s < 32 → bo_fu 10 s [] = false := by decide +kernel
theorem tr_can_geo {b : Nat → Int32} {s t : Nat} {q : List Nat} (h : tr_can true b (s :: q) t = true) : ge_sl 2 s t = true ∧ (tr_cr (s :: q)).contains (ge_mid s t) = false := by
  simp only [tr_can, if_true, Bool.and_eq_true, Bool.not_eq_true'] at h
  exact ⟨h.2.1, h.1.2⟩
theorem tr_V_fu {b : Nat → Int32} : ∀ (q : List Nat) (s : Nat), tr_V true b (s :: q) → (s :: q).length ≤ 10 ∧ bo_fu (11 - (s :: q).length) s (tr_cr (s :: q)) = false := by
  intro q
  induction q with
  | nil => intro s h; exact ⟨by simp, bo_fu10 s h⟩
  | cons s q ih =>
    intro t h
    obtain ⟨hl, hf⟩ := ih s h.1
    obtain ⟨g1, g2⟩ := tr_can_geo h.2.2
    obtain ⟨w, hw, ef, en⟩ := ge_way s (tr_V_hd h.1) t h.2.1 g1
    have e : 11 - (s :: q).length = (11 - (t :: s :: q).length) + 1 := by simp only [List.length_cons] at *; omega
    rw [e, bo_fu, List.any_eq_false] at hf
    have hh := hf w (by rw [List.mem_range'_1]; omega)
    rw [ef, en, g2, decide_eq_true h.2.1] at hh
    have h3 : bo_fu (11 - (t :: s :: q).length) t (tr_cr (t :: s :: q)) = false := by
      show bo_fu (11 - (t :: s :: q).length) t (ge_mid s t :: tr_cr (s :: q)) = false
      cases hb : bo_fu (11 - (t :: s :: q).length) t (ge_mid s t :: tr_cr (s :: q)) with
      | false => rfl
      | true => rw [hb] at hh; exact absurd rfl hh
    refine ⟨?_, h3⟩
    rcases Nat.lt_or_ge 10 (t :: s :: q).length with hx | hx
    · rw [Nat.sub_eq_zero_of_le hx] at h3
      exact absurd h3 (by simp [bo_fu])
    · exact hx
theorem tr_V_len {j : Bool} {b : Nat → Int32} {p : List Nat} (h : tr_V j b p) : p.length ≤ 10 := by
  cases j with
  | true =>
    cases p with
    | nil => exact h.elim
    | cons s q => exact (tr_V_fu q s h).1
  | false =>
    cases p with
    | nil => exact h.elim
    | cons t q =>
      cases q with
      | nil => simp
      | cons s q =>
        have h2 := h.2.2
        simp only [tr_can, Bool.false_eq_true, if_false, Bool.and_eq_true, List.isEmpty_iff] at h2
        have h3 : q = [] := by simpa using h2.1.2
        rw [h3]; simp
theorem tr_ch_mem {j : Bool} {b : Nat → Int32} {p : List Nat} {t0 t : Nat} (h : t ∈ tr_ch j b p t0) : t0 ≤ t ∧ t < 32 ∧ tr_can j b p t = true := by
  unfold tr_ch at h
  rw [List.mem_filter, List.mem_range'_1] at h
  exact ⟨h.1.1, by omega, h.2⟩
theorem tr_V_cons {j : Bool} {b : Nat → Int32} {p : List Nat} {t : Nat} (h : tr_V j b p) (ht : t < 32) (hc : tr_can j b p t = true) : tr_V j b (t :: p) := by
  cases p with
  | nil => exact h.elim
  | cons s q => exact ⟨h, ht, hc⟩
theorem tr_l_cons {p : List Nat} {t : Nat} (h : p ≠ []) : tr_l (t :: p) = tr_l p := by
  cases p with
  | nil => exact absurd rfl h
  | cons s q => rfl
theorem tr_af_cons {j : Bool} {b : Nat → Int32} {sd : Int32} {p : List Nat} {t : Nat} (h : p ≠ []) : tr_af j b sd (t :: p) = (tr_ch j b p (t + 1)).flatMap (fun t' => tr_lP j b (t' :: p)) ++ tr_af j b sd p := by
  cases p with
  | nil => exact absurd rfl h
  | cons s q => rfl
end
section
/-! the reference's small methods -/
theorem ya_rI : ∀ s, s < 32 → nI s / 4 = nI (ge_r s) := by decide +kernel
theorem ya_cI0 : ∀ s, s < 32 → nI (ge_r s) - nI (ge_r s) / 2 * 2 = 0 → 2 * (nI s - nI s / 4 * 4) + 1 = nI (ge_c s) := by decide +kernel
theorem ya_cI1 : ∀ s, s < 32 → ¬ nI (ge_r s) - nI (ge_r s) / 2 * 2 = 0 → 2 * (nI s - nI s / 4 * 4) + 0 = nI (ge_c s) := by decide +kernel
theorem ya_rc8 : ∀ s, s < 32 → ge_r s < 8 ∧ ge_c s < 8 := by decide +kernel
theorem ya_row {post : Int32 → Prop} {v : SY} {s : Nat} (hs : s < 32) (h : post (nI (ge_r s))) : wpY_row post v (nI s) := by
  obtain ⟨mv, rm, sz, jm, bd, od, os, sq, ab, ap, az, aj⟩ := v
  refine ⟨by decide, ?_⟩
  rw [ya_rI s hs]
  exact h
theorem ya_col {post : Int32 → Prop} {v : SY} {s : Nat} (hs : s < 32) (h : post (nI (ge_c s))) : wpY_column post v (nI s) := by
  obtain ⟨mv, rm, sz, jm, bd, od, os, sq, ab, ap, az, aj⟩ := v
  refine ⟨by decide, ya_row hs ⟨by decide, br_c (fun h0 => ?_) (fun h0 => ?_)⟩⟩
  · rw [ya_cI0 s hs h0]; exact h
  · rw [ya_cI1 s hs h0]; exact h
def dr_5 (x : Int32) : Prop := x = 0 ∨ x = 1 ∨ x = 2 ∨ x = 3 ∨ x = 4
def dr_V (b : Nat → Int32) : Prop := ∀ i, dr_5 (b i)
theorem dr_ow0 : dr_ow 0 = -1 := by decide
theorem dr_ow1 : dr_ow 1 = 0 := by decide
theorem dr_ow2 : dr_ow 2 = 0 := by decide
theorem dr_ow3 : dr_ow 3 = 1 := by decide
theorem dr_ow4 : dr_ow 4 = 1 := by decide
theorem ya_side {post : Int32 → Prop} {v : SY} {x : Int32} (hx : dr_5 x) (h : post (dr_ow x)) : wpY_sideOf post v x := by
  obtain ⟨mv, rm, sz, jm, bd, od, os, sq, ab, ap, az, aj⟩ := v
  rcases hx with rfl | rfl | rfl | rfl | rfl
  · rw [dr_ow0] at h; exact br_f (by decide) (br_f (by decide) (br_f (by decide) (br_f (by decide) h)))
  · rw [dr_ow1] at h; exact br_t rfl h
  · rw [dr_ow2] at h; exact br_f (by decide) (br_t rfl h)
  · rw [dr_ow3] at h; exact br_f (by decide) (br_f (by decide) (br_t rfl h))
  · rw [dr_ow4] at h; exact br_f (by decide) (br_f (by decide) (br_f (by decide) (br_t rfl h)))
def dr_la (x : Int32) (s : Nat) : Bool := (x == 1 && ge_r s == 7) || (x == 3 && ge_r s == 0)
theorem ya_last {post : Int32 → Prop} {v : SY} {x : Int32} {s : Nat} (hx : dr_5 x) (hs : s < 32) (h : post (dr_bI (dr_la x s))) : wpY_lastRow post v x (nI s) := by
  obtain ⟨mv, rm, sz, jm, bd, od, os, sq, ab, ap, az, aj⟩ := v
  have r8 := (ya_rc8 s hs).1
  rcases hx with rfl | rfl | rfl | rfl | rfl
  · exact br_f (by decide) (br_f (by decide) h)
  · refine br_t rfl (ya_row hs (pk_eq (ge_r s) 7 (fun e => ?_) (fun e => ?_)))
    · simp only [dr_la, e] at h; exact h
    · refine br_f (by decide) ?_
      have e2 : dr_la 1 s = false := by simp [dr_la, e]
      rw [e2] at h; exact h
  · exact br_f (by decide) (br_f (by decide) h)
  · refine br_f (by decide) (br_t rfl (ya_row hs (pk_eq (ge_r s) 0 (fun e => ?_) (fun e => ?_))))
    · simp only [dr_la, e] at h; exact h
    · have e2 : dr_la 3 s = false := by simp [dr_la, e]
      rw [e2] at h; exact h
  · exact br_f (by decide) (br_f (by decide) h)
theorem ya_ah {post : Int32 → Prop} {v : SY} {x : Int32} {s t : Nat} (hs : s < 32) (ht : t < 32) (h : post (dr_bI (ge_ah (ge_k x) s t))) : wpY_ahead post v x (nI s) (nI t) := by
  obtain ⟨mv, rm, sz, jm, bd, od, os, sq, ab, ap, az, aj⟩ := v
  have r8 := (ya_rc8 s hs).1
  have t8 := (ya_rc8 t ht).1
  by_cases h1 : x = 1
  · subst h1
    refine br_t rfl (br_f (by decide) (br_t rfl (ya_row ht (ya_row hs (pk_le (ge_r t) (ge_r s) (fun e => ?_) (fun e => ?_))))))
    · have e2 : ge_ah (ge_k 1) s t = false := by simp [ge_ah, ge_k]; omega
      rw [e2] at h; exact h
    · have e2 : ge_ah (ge_k 1) s t = true := by simp [ge_ah, ge_k]; omega
      rw [e2] at h; exact h
  · by_cases h3 : x = 3
    · subst h3
      refine br_f (by decide) (br_t rfl (br_f (by decide) (br_f (by decide) (ya_row ht (ya_row hs (pk_le (ge_r s) (ge_r t) (fun e => ?_) (fun e => ?_)))))))
      · have e2 : ge_ah (ge_k 3) s t = false := by simp [ge_ah, ge_k]; omega
        rw [e2] at h; exact h
      · have e2 : ge_ah (ge_k 3) s t = true := by simp [ge_ah, ge_k]; omega
        rw [e2] at h; exact h
    · have e2 : ge_ah (ge_k x) s t = true := by simp [ge_ah, ge_k, h1, h3]
      rw [e2] at h
      exact br_f h1 (br_f h3 (br_t rfl h))
theorem ya_s2 : ∀ a, a < 8 → ∀ b, b < 8 → ((nI a - nI b = 2 ↔ a = b + 2) ∧ (nI a - nI b = -2 ↔ b = a + 2)) := by decide +kernel
theorem ya_s1 : ∀ a, a < 8 → ∀ b, b < 8 → ((nI a - nI b = 1 ↔ a = b + 1) ∧ (nI a - nI b = -1 ↔ b = a + 1)) := by decide +kernel
theorem ya_sl2 {post : Int32 → Prop} {v : SY} {s t : Nat} (hs : s < 32) (ht : t < 32) (h : post (dr_bI (ge_sl 2 s t))) : wpY_slant post v (nI s) (nI t) 2 := by
  obtain ⟨mv, rm, sz, jm, bd, od, os, sq, ab, ap, az, aj⟩ := v
  obtain ⟨s8, c8⟩ := ya_rc8 s hs
  obtain ⟨t8, d8⟩ := ya_rc8 t ht
  obtain ⟨e1, e2⟩ := ya_s2 _ s8 _ t8
  obtain ⟨e3, e4⟩ := ya_s2 _ c8 _ d8
  unfold wpY_slant
  dsimp only
  refine ya_row hs ?_
  refine ya_row ht ?_
  refine nm_e ?_
  refine ya_col hs ?_
  refine ya_col ht ?_
  refine nm_e ?_
  unfold wY_slant_39
  rw [e1, e2, e3, e4]
  have k : ∀ c, ge_sl 2 s t = c → post (dr_bI c) := fun c e => e ▸ h
  refine ⟨fun a => ⟨fun c => k true (by simp [ge_sl, a, c]), fun c => ⟨fun d => k true (by simp [ge_sl, a, d]), fun d => k false (by simp [ge_sl, c, d])⟩⟩, fun a => ⟨fun a2 => ⟨fun c => k true (by simp [ge_sl, a2, c]), fun c => ⟨fun d => k true (by simp [ge_sl, a2, d]), fun d => k false (by simp [ge_sl, c, d])⟩⟩, fun a2 => k false (by simp [ge_sl, a, a2])⟩⟩
theorem ya_sl1 {post : Int32 → Prop} {v : SY} {s t : Nat} (hs : s < 32) (ht : t < 32) (h : post (dr_bI (ge_sl 1 s t))) : wpY_slant post v (nI s) (nI t) 1 := by
  obtain ⟨mv, rm, sz, jm, bd, od, os, sq, ab, ap, az, aj⟩ := v
  obtain ⟨s8, c8⟩ := ya_rc8 s hs
  obtain ⟨t8, d8⟩ := ya_rc8 t ht
  obtain ⟨e1, e2⟩ := ya_s1 _ s8 _ t8
  obtain ⟨e3, e4⟩ := ya_s1 _ c8 _ d8
  unfold wpY_slant
  dsimp only
  refine ya_row hs ?_
  refine ya_row ht ?_
  refine nm_e ?_
  refine ya_col hs ?_
  refine ya_col ht ?_
  refine nm_e ?_
  unfold wY_slant_39
  rw [e1, e2, e3, e4]
  have k : ∀ c, ge_sl 1 s t = c → post (dr_bI c) := fun c e => e ▸ h
  refine ⟨fun a => ⟨fun c => k true (by simp [ge_sl, a, c]), fun c => ⟨fun d => k true (by simp [ge_sl, a, d]), fun d => k false (by simp [ge_sl, c, d])⟩⟩, fun a => ⟨fun a2 => ⟨fun c => k true (by simp [ge_sl, a2, c]), fun c => ⟨fun d => k true (by simp [ge_sl, a2, d]), fun d => k false (by simp [ge_sl, c, d])⟩⟩, fun a2 => k false (by simp [ge_sl, a, a2])⟩⟩
theorem ya_btw {post : Int32 → Prop} {v : SY} {s t : Nat} (hs : s < 32) (ht : t < 32) (h : post (nI (ge_mid s t))) : wpY_between post v (nI s) (nI t) := by
  obtain ⟨mv, rm, sz, jm, bd, od, os, sq, ab, ap, az, aj⟩ := v
  obtain ⟨s8, c8⟩ := ya_rc8 s hs
  obtain ⟨t8, d8⟩ := ya_rc8 t ht
  have e1 : (nI (ge_r s) + nI (ge_r t)) / 2 = nI ((ge_r s + ge_r t) / 2) := by rw [nI_add]; exact pk_div (d := 2) (by omega) (by omega) (by omega)
  have e2 : (nI (ge_c s) + nI (ge_c t)) / 2 = nI ((ge_c s + ge_c t) / 2) := by rw [nI_add]; exact pk_div (d := 2) (by omega) (by omega) (by omega)
  have e3 : nI ((ge_c s + ge_c t) / 2) / 2 = nI ((ge_c s + ge_c t) / 2 / 2) := pk_div (d := 2) (by omega) (by omega) (by omega)
  have e4 : (4 : Int32) * nI ((ge_r s + ge_r t) / 2) + nI ((ge_c s + ge_c t) / 2 / 2) = nI (ge_mid s t) := by
    rw [show (4 : Int32) * nI ((ge_r s + ge_r t) / 2) = nI (4 * ((ge_r s + ge_r t) / 2)) from pk_mul 4 _, nI_add]; rfl
  unfold wpY_between
  dsimp only
  refine ya_row hs ?_
  refine ya_row ht ?_
  refine ⟨by decide, nm_r e1 ?_⟩
  refine ya_col hs ?_
  refine ya_col ht ?_
  refine ⟨by decide, nm_r e2 ⟨by decide, ?_⟩⟩
  rw [e3, e4]
  exact h
/-! paths in the array squares -/
def tr_S (sq : Nat → Int32) : List Nat → Prop
  | [] => True
  | t :: q => sq q.length = nI t ∧ tr_S sq q
theorem tr_S_0 {sq : Nat → Int32} : ∀ {p : List Nat}, p ≠ [] → tr_S sq p → sq 0 = nI (tr_l p)
  | [], h, _ => absurd rfl h
  | [_], _, h => h.1
  | _ :: s :: q, _, h => tr_S_0 (p := s :: q) (by simp) h.2
theorem tr_S_upd {sq : Nat → Int32} {x : Int32} {n : Nat} : ∀ {p : List Nat}, p.length ≤ n → tr_S sq p → tr_S (upd sq n x) p
  | [], _, _ => True.intro
  | t :: q, hn, h => by
    simp only [List.length_cons] at hn
    exact ⟨(pk_un (by omega)).trans h.1, tr_S_upd (by omega) h.2⟩
theorem tr_S_cons {sq : Nat → Int32} {p : List Nat} {t : Nat} (h : tr_S sq p) : tr_S (upd sq p.length (nI t)) (t :: p) := ⟨pk_us, tr_S_upd (Nat.le_refl _) h⟩
theorem tr_S_at {sq : Nat → Int32} : ∀ {p : List Nat}, (∀ x, x ∈ p → x < 32) → tr_S sq p → ∀ i, i < p.length → sq i = nI (sq i).toNatClampNeg ∧ (sq i).toNatClampNeg < 32
  | [], _, _, _, hi => absurd hi (by simp)
  | t :: q, hb, h, i, hi => by
    simp only [List.length_cons] at hi
    have ht := hb t (by simp)
    rcases Nat.lt_or_ge i q.length with hq | hq
    · exact tr_S_at (fun x hx => hb x (by simp [hx])) h.2 i hq
    · obtain rfl : i = q.length := by omega
      rw [h.1, nI_clamp (by omega)]
      exact ⟨rfl, ht⟩
theorem tr_V_b {j : Bool} {b : Nat → Int32} : ∀ {p : List Nat}, tr_V j b p → ∀ x, x ∈ p → x < 32
  | [], h, _, _ => h.elim
  | [s], h, x, hx => by
    simp only [List.mem_singleton] at hx
    rw [hx]; exact h
  | t :: s :: q, h, x, hx => by
    rcases List.mem_cons.mp hx with rfl | hx
    · exact h.2.1
    · exact tr_V_b h.1 x hx
theorem tr_V_ne {j : Bool} {b : Nat → Int32} {p : List Nat} (h : tr_V j b p) : p ≠ [] := by
  cases p with
  | nil => exact h.elim
  | cons s q => simp
def ya_jf (g : Nat → Nat) (m : Nat) : Nat → Bool
  | 0 => false
  | i + 1 => ya_jf g m i || ge_mid (g i) (g (i + 1)) == m
theorem ya_jf_cr {sq : Nat → Int32} {m : Nat} : ∀ (q : List Nat) (s : Nat), (∀ x, x ∈ s :: q → x < 32) → tr_S sq (s :: q) → ya_jf (fun i => (sq i).toNatClampNeg) m q.length = (tr_cr (s :: q)).contains m := by
  intro q
  induction q with
  | nil => intro s _ _; rfl
  | cons s q ih =>
    intro t hb h
    have h1 := ih s (fun x hx => hb x (by simp [List.mem_cons.mp hx])) h.2
    have e1 : (sq (q.length + 1)).toNatClampNeg = t := by
      have := h.1
      simp only [List.length_cons] at this
      rw [this, nI_clamp (by have := hb t (by simp); omega)]
    have e2 : (sq q.length).toNatClampNeg = s := by rw [h.2.1, nI_clamp (by have := hb s (by simp); omega)]
    show (ya_jf _ m q.length || ge_mid (sq q.length).toNatClampNeg (sq (q.length + 1)).toNatClampNeg == m) = _
    rw [h1, e1, e2]
    show _ = (ge_mid s t :: tr_cr (s :: q)).contains m
    rw [List.contains_cons, Bool.or_comm]
    rw [BEq.comm]
theorem ya_nb (x : Bool) : narrow .boolean (.int (dr_bI x)) = .int (dr_bI x) := by cases x <;> rfl
theorem ya_jl {post : Int32 → Prop} (mv rm sz jm : Int32) (bd od os sq ab ap az aj : Nat → Int32) {m k : Nat} (hm : m < 32) (hk : k < 40) (hz : sz = nI (k + 1)) (hg : ∀ i, i ≤ k → sq i = nI (sq i).toNatClampNeg ∧ (sq i).toNatClampNeg < 32) (h : post (dr_bI (ya_jf (fun i => (sq i).toNatClampNeg) m k))) : ∀ d i, i + d = k → wY_jumped_4 post (nI m) mv rm sz jm bd od os sq ab ap az aj (d + 1) (dr_bI (ya_jf (fun i => (sq i).toNatClampNeg) m i)) (nI i) := by
  intro d
  induction d with
  | zero =>
    intro i hi
    obtain rfl : i = k := by omega
    exact pk_le (i + 1) (i + 1) (fun _ => ⟨ya_nb _, h⟩) (fun z => absurd z (by omega)) hz (nI_1 i)
  | succ d ih =>
    intro i hi
    refine pk_le (k + 1) (i + 1) (fun z => absurd z (by omega)) (fun _ => ?_) hz (nI_1 i)
    have h1 := ih (i + 1) (by omega)
    have e : ya_jf (fun i => (sq i).toNatClampNeg) m (i + 1) = (ya_jf (fun i => (sq i).toNatClampNeg) m i || ge_mid (sq i).toNatClampNeg (sq (i + 1)).toNatClampNeg == m) := rfl
    obtain ⟨ga, gb⟩ := hg i (by omega)
    obtain ⟨gc, gd⟩ := hg (i + 1) (by omega)
    cases hc : ya_jf (fun i => (sq i).toNatClampNeg) m i with
    | true =>
      rw [e, hc, Bool.true_or] at h1
      exact br_f (by decide) (nm_r (nI_1 i) h1)
    | false =>
      rw [e, hc, Bool.false_or] at h1
      refine br_t rfl ⟨vp_in_nI (by omega) (by omega), by rw [nI_1]; exact vp_in_nI (by omega) (by omega), ?_⟩
      rw [nI_1, nI_clamp (by omega), nI_clamp (by omega), ga, gc]
      refine ya_btw gb gd (pk_eq _ m (fun z => nm_e ?_) (fun z => nm_e ?_) rfl rfl (by have := ge_mid32 _ gb _ gd; omega) (by omega))
      · have z2 : (ge_mid (sq i).toNatClampNeg (sq (i + 1)).toNatClampNeg == m) = true := by simpa using z
        rw [z2] at h1
        exact h1
      · have z2 : (ge_mid (sq i).toNatClampNeg (sq (i + 1)).toNatClampNeg == m) = false := by simpa using z
        rw [z2] at h1
        exact h1
theorem ya_jumped {post : Int32 → Prop} (mv rm sz jm : Int32) (bd od os sq ab ap az aj : Nat → Int32) {q : List Nat} {s m : Nat} (hm : m < 32) (hl : q.length < 39) (hb : ∀ x, x ∈ s :: q → x < 32) (hS : tr_S sq (s :: q)) (h : post (dr_bI ((tr_cr (s :: q)).contains m))) : wpY_jumped post (mv, rm, nI (s :: q).length, jm, bd, od, os, sq, ab, ap, az, aj) (nI m) := by
  refine ⟨q.length + 1, ?_⟩
  rw [← ya_jf_cr q s hb hS] at h
  exact ya_jl mv rm (nI (q.length + 1)) jm bd od os sq ab ap az aj hm (by omega) rfl (fun i hi => tr_S_at hb hS i (by simp only [List.length_cons]; omega)) h q.length 0 (by omega)
end
section
/-! the reference: canJump, canStep, onward, extend, beginFrom, first, next -/
theorem yc_laf : ∀ s, s < 32 → ∀ t, t < 32 → (ge_r s = 7 → ge_ah 1 s t = false) ∧ (ge_r s = 0 → ge_ah 2 s t = false) := by decide +kernel
theorem yc_la {x : Int32} {s t : Nat} (hs : s < 32) (ht : t < 32) (h : dr_la x s = true) : ge_ah (ge_k x) s t = false := by
  unfold dr_la at h
  rcases Bool.or_eq_true_iff.mp h with h | h
  · obtain ⟨h1, h2⟩ := Bool.and_eq_true_iff.mp h
    have e : x = 1 := by simpa using h1
    subst e
    exact (yc_laf s hs t ht).1 (by simpa using h2)
  · obtain ⟨h1, h2⟩ := Bool.and_eq_true_iff.mp h
    have e : x = 3 := by simpa using h1
    subst e
    exact (yc_laf s hs t ht).2 (by simpa using h2)
theorem yc_82 {post : Int32 → Prop} (mv rm sz jm : Int32) (bd od os sq ab ap az aj : Nat → Int32) {q : List Nat} {s t : Nat} (hb : dr_V bd) (hV : tr_V true bd (s :: q)) (hS : tr_S sq (s :: q)) (ht : t < 32) (h0 : (bd t == 0 || t == tr_l (s :: q)) = true) (h1 : ge_sl 2 s t = true) (h2 : ge_ah (ge_k (bd (tr_l (s :: q)))) s t = true) (h : post (dr_bI (tr_can true bd (s :: q) t))) : wY_canJump_82 post (nI t) (bd (tr_l (s :: q))) (nI s) mv rm (nI (s :: q).length) jm bd od os sq ab ap az aj := by
  have hs := tr_V_hd hV
  have hm := ge_mid32 s hs t ht
  have hl := tr_V_len hV
  simp only [List.length_cons] at hl
  have e : tr_can true bd (s :: q) t = ((dr_ow (bd (ge_mid s t)) == 1 - dr_ow (bd (tr_l (s :: q)))) && !((tr_cr (s :: q)).contains (ge_mid s t))) := by
    simp only [tr_can, if_true, h0, h1, h2, Bool.true_and, Bool.and_true]
  rw [e] at h
  unfold wY_canJump_82
  refine ya_btw hs ht ?_
  refine ⟨vp_in_nI hm (by omega), ?_⟩
  rw [nI_clamp (by omega)]
  refine ya_side (hb _) ?_
  refine ya_side (hb _) ?_
  refine br_c (fun z => ?_) (fun z => ?_)
  · rw [beq_iff_eq.mpr z, Bool.true_and] at h
    refine ya_jumped mv rm sz jm bd od os sq ab ap az aj hm (by omega) (tr_V_b hV) hS ?_
    cases hc : (tr_cr (s :: q)).contains (ge_mid s t) with
    | true => rw [hc] at h; exact br_f (by decide) h
    | false => rw [hc] at h; exact br_t rfl h
  · rw [beq_eq_false_iff_ne.mpr z, Bool.false_and] at h
    exact h
theorem yc_41 {post : Int32 → Prop} (mv rm sz jm : Int32) (bd od os sq ab ap az aj : Nat → Int32) {q : List Nat} {s t : Nat} (hb : dr_V bd) (hV : tr_V true bd (s :: q)) (hS : tr_S sq (s :: q)) (ht : t < 32) (h : post (dr_bI (tr_can true bd (s :: q) t))) : wY_canJump_41 post (nI t) (bd (tr_l (s :: q))) (nI s) mv rm (nI (s :: q).length) jm bd od os sq ab ap az aj := by
  have hs := tr_V_hd hV
  have hl := tr_V_l hV
  unfold wY_canJump_41
  refine ya_sl2 hs ht ?_
  cases h1 : ge_sl 2 s t with
  | false =>
    have e : tr_can true bd (s :: q) t = false := by simp [tr_can, h1]
    rw [e] at h
    exact br_t rfl h
  | true =>
    refine br_f (by decide) ?_
    refine ya_ah hs ht ?_
    cases h2 : ge_ah (ge_k (bd (tr_l (s :: q)))) s t with
    | false =>
      have e : tr_can true bd (s :: q) t = false := by simp [tr_can, h2]
      rw [e] at h
      exact br_t rfl h
    | true =>
      refine br_f (by decide) ⟨vp_in_nI ht (by omega), ?_⟩
      rw [nI_clamp (by omega), tr_S_0 (by simp) hS]
      refine br_c (fun z => ?_) (fun z => ?_)
      · exact yc_82 mv rm sz jm bd od os sq ab ap az aj hb hV hS ht (by simp [z]) h1 h2 h
      · refine pk_eq t (tr_l (s :: q)) (fun z2 => ?_) (fun z2 => ?_)
        · exact yc_82 mv rm sz jm bd od os sq ab ap az aj hb hV hS ht (by simp [z2]) h1 h2 h
        · have e : tr_can true bd (s :: q) t = false := by simp [tr_can, z, z2]
          rw [e] at h
          exact h
theorem yc_canJump {post : Int32 → Prop} (mv rm sz jm : Int32) (bd od os sq ab ap az aj : Nat → Int32) {p : List Nat} {t : Nat} (hb : dr_V bd) (hV : tr_V true bd p) (hS : tr_S sq p) (ht : t < 32) (h : post (dr_bI (tr_can true bd p t))) : wpY_canJump post (mv, rm, nI p.length, jm, bd, od, os, sq, ab, ap, az, aj) (nI t) := by
  cases p with
  | nil => exact hV.elim
  | cons s q =>
    have hs := tr_V_hd hV
    have hl := tr_V_l hV
    have hn := tr_V_len hV
    have e0 := tr_S_0 (by simp) hS
    have e1 : nI (s :: q).length - 1 = nI q.length := nI_pred _
    simp only [List.length_cons] at hn
    unfold wpY_canJump
    dsimp only
    rw [e0, e1, nI_clamp (by omega), nI_clamp (by omega), hS.1]
    refine ⟨vp_in_nI hl (by omega), nm_e ⟨vp_in_nI (by omega) (by omega), nm_e ?_⟩⟩
    refine br_c (fun _ => ?_) (fun _ => ?_)
    · exact yc_41 mv rm sz jm bd od os sq ab ap az aj hb hV hS ht h
    · refine ya_last (hb _) hs ?_
      cases hc : dr_la (bd (tr_l (s :: q))) s with
      | false => exact br_t rfl (yc_41 mv rm sz jm bd od os sq ab ap az aj hb hV hS ht h)
      | true =>
        have e : tr_can true bd (s :: q) t = false := by simp [tr_can, yc_la hs ht hc]
        rw [e] at h
        exact br_f (by decide) h
theorem yc_canStep {post : Int32 → Prop} (mv rm sz jm : Int32) (bd od os sq ab ap az aj : Nat → Int32) {p : List Nat} {t : Nat} (hV : tr_V false bd p) (hS : tr_S sq p) (ht : t < 32) (h : post (dr_bI (tr_can false bd p t))) : wpY_canStep post (mv, rm, nI p.length, jm, bd, od, os, sq, ab, ap, az, aj) (nI t) := by
  cases p with
  | nil => exact hV.elim
  | cons s q =>
    have hs := tr_V_hd hV
    have hl := tr_V_l hV
    have hn := tr_V_len hV
    have e0 := tr_S_0 (by simp) hS
    simp only [List.length_cons] at hn
    unfold wpY_canStep
    dsimp only
    rw [e0, nI_clamp (by omega), nI_clamp (by omega)]
    refine ⟨vp_in_nI hl (by omega), nm_e ?_⟩
    refine pk_eq (s :: q).length 1 (fun z => ?_) (fun z => ?_) rfl rfl (by simp only [List.length_cons]; omega) (by omega)
    · have hq : q = [] := by simpa using z
      subst hq
      refine ⟨vp_in_nI ht (by omega), br_c (fun z0 => ?_) (fun z0 => ?_)⟩
      · refine ya_sl1 hl ht ?_
        cases h1 : ge_sl 1 (tr_l [s]) t with
        | false =>
          have e : tr_can false bd [s] t = false := by simp [tr_can, show ge_sl 1 s t = false from h1]
          rw [e] at h
          exact br_t rfl h
        | true =>
          refine br_f (by decide) ?_
          refine ya_ah hl ht ?_
          cases h2 : ge_ah (ge_k (bd (tr_l [s]))) (tr_l [s]) t with
          | false =>
            have e : tr_can false bd [s] t = false := by simp [tr_can, show ge_ah (ge_k (bd (tr_l [s]))) s t = false from h2]
            rw [e] at h
            exact br_t rfl h
          | true =>
            have e : tr_can false bd [s] t = true := by simp [tr_can, show ge_ah (ge_k (bd (tr_l [s]))) s t = true from h2, show ge_sl 1 s t = true from h1, z0]
            rw [e] at h
            exact br_f (by decide) h
      · have e : tr_can false bd [s] t = false := by simp [tr_can, z0]
        rw [e] at h
        exact h
    · have hq : q ≠ [] := by
        intro hq
        rw [hq] at z
        exact z rfl
      have e : tr_can false bd (s :: q) t = false := by simp [tr_can, hq]
      rw [e] at h
      exact h
theorem yc_ow {post : Int32 → Prop} (mv rm sz jm : Int32) (bd od os sq ab ap az aj : Nat → Int32) {j : Bool} {p : List Nat} (hb : dr_V bd) (hV : tr_V j bd p) (hS : tr_S sq p) : ∀ d t, t + d = 32 → post (nI ((tr_ch j bd p t).headD 32)) → wY_onward_2 post mv rm (nI p.length) (dr_bI j) bd od os sq ab ap az aj (d + 1) (nI t) := by
  intro d
  induction d with
  | zero =>
    intro t ht h
    obtain rfl : t = 32 := by omega
    rw [tr_ch_32 (Nat.le_refl _)] at h
    exact br_t (by decide) h
  | succ d ih =>
    intro t ht h
    have hx : t < 32 := by omega
    refine br_f (nI_ge (b := 32) hx (by decide)) ?_
    have h1 := ih (t + 1) (by omega)
    cases hc : tr_can j bd p t with
    | true =>
      rw [tr_ch_t hx hc] at h
      cases j with
      | true =>
        refine br_f (by decide) (yc_canJump mv rm sz (dr_bI true) bd od os sq ab ap az aj hb hV hS hx ?_)
        rw [hc]
        exact br_f (by decide) h
      | false =>
        refine br_t rfl (yc_canStep mv rm sz (dr_bI false) bd od os sq ab ap az aj hV hS hx ?_)
        rw [hc]
        exact br_f (by decide) h
    | false =>
      rw [tr_ch_f hx hc] at h
      cases j with
      | true =>
        refine br_f (by decide) (yc_canJump mv rm sz (dr_bI true) bd od os sq ab ap az aj hb hV hS hx ?_)
        rw [hc]
        exact br_t rfl (nm_r (nI_1 t) (h1 h))
      | false =>
        refine br_t rfl (yc_canStep mv rm sz (dr_bI false) bd od os sq ab ap az aj hV hS hx ?_)
        rw [hc]
        exact br_t rfl (nm_r (nI_1 t) (h1 h))
theorem yc_onward {post : Int32 → Prop} (mv rm sz jm : Int32) (bd od os sq ab ap az aj : Nat → Int32) {j : Bool} {p : List Nat} {t : Nat} (hb : dr_V bd) (hV : tr_V j bd p) (hS : tr_S sq p) (ht : t ≤ 32) (h : post (nI ((tr_ch j bd p t).headD 32))) : wpY_onward post (mv, rm, nI p.length, dr_bI j, bd, od, os, sq, ab, ap, az, aj) (nI t) := ⟨32 - t + 1, yc_ow mv rm sz jm bd od os sq ab ap az aj hb hV hS (32 - t) t (by omega) h⟩
theorem yc_st2 {b : Nat → Int32} {s t : Nat} {q : List Nat} : tr_ch false b (t :: s :: q) 0 = [] := by
  unfold tr_ch
  rw [List.filter_eq_nil_iff]
  intro x _
  simp [tr_can]
theorem yc_next {j : Bool} {b : Nat → Int32} {p : List Nat} {u t : Nat} {C : List Nat} (e : tr_ch j b p u = t :: C) : u ≤ t ∧ t < 32 ∧ tr_can j b p t = true ∧ C = tr_ch j b p (t + 1) := by
  have h := tr_ch_mem (show t ∈ tr_ch j b p u by rw [e]; simp)
  refine ⟨h.1, h.2.1, h.2.2, ?_⟩
  have g : ∀ d u, u + d = 32 → tr_ch j b p u = t :: C → C = tr_ch j b p (t + 1) := by
    intro d
    induction d with
    | zero =>
      intro u hu e
      rw [tr_ch_32 (by omega)] at e
      exact absurd e (by simp)
    | succ d ih =>
      intro u hu e
      cases hc : tr_can j b p u with
      | true =>
        rw [tr_ch_t (by omega) hc] at e
        obtain ⟨e1, e2⟩ := List.cons.inj e
        rw [← e1]; exact e2.symm
      | false =>
        rw [tr_ch_f (by omega) hc] at e
        exact ih (u + 1) (by omega) e
  exact g (32 - u) u (by omega) e
end
section
/-! the reference: extend, beginFrom, first, next -/
theorem yd_ex {post : SY → Prop} (mv rm jm : Int32) (bd od os ab ap az aj : Nat → Int32) {j : Bool} {sd : Int32} (hb : dr_V bd) (hj : jm = dr_bI j) : ∀ d (p : List Nat) (sq : Nat → Int32), p.length + d = 11 → tr_V j bd p → tr_S sq p →
    (∀ p' rest sq', tr_lP j bd p = p' :: rest → tr_af j bd sd p' = rest ++ tr_af j bd sd p → tr_V j bd p' → tr_S sq' p' → (tr_ch j bd p 0 = [] → p' = p) → (tr_ch j bd p 0 ≠ [] → p.length < p'.length) → p.length ≤ p'.length → post (mv, rm, nI p'.length, jm, bd, od, os, sq', ab, ap, az, aj)) →
    wY_extend_6 post mv rm jm (d + 1) (nI ((tr_ch j bd p 0).headD 32)) (nI p.length) bd od os sq ab ap az aj := by
  subst hj
  intro d
  induction d with
  | zero =>
    intro p sq hd hV
    have := tr_V_len hV
    omega
  | succ d ih =>
    intro p sq hd hV hS h
    have hn := tr_V_len hV
    have hp := tr_V_ne hV
    cases hc : tr_ch j bd p 0 with
    | nil => exact br_t (by decide) (h p [] sq (tr_lP_nil hc) rfl hV hS (fun _ => rfl) (fun z => absurd hc z) (Nat.le_refl _))
    | cons t C =>
      obtain ⟨_, ht, hcan, hC⟩ := yc_next hc
      have hV2 := tr_V_cons hV ht hcan
      have hS2 : tr_S (upd sq p.length (nI t)) (t :: p) := tr_S_cons hS
      have h1 := ih (t :: p) (upd sq p.length (nI t)) (by simp only [List.length_cons]; omega) hV2 hS2 (by
        intro p' rest sq' e1 e2 e3 e4 _ _ e6
        simp only [List.length_cons] at e6
        refine h p' (rest ++ C.flatMap (fun t' => tr_lP j bd (t' :: p))) sq' ?_ ?_ e3 e4 (fun z => absurd z (by rw [hc]; simp)) (fun _ => by omega) (by omega)
        · rw [tr_lP_cons hn (by rw [hc]; simp), hc, List.flatMap_cons, e1, List.cons_append]
        · rw [e2, tr_af_cons hp, ← hC, List.append_assoc])
      refine br_f (nI_ge (b := 32) ht (by decide)) (br_f (nI_ge (b := 40) (by omega) (by decide)) ⟨vp_in_nI (by omega) (by omega), ?_⟩)
      rw [nI_clamp (by omega)]
      refine nm_e (nm_r (nI_1 _) ?_)
      cases j with
      | true =>
        refine br_f (by decide) ?_
        exact yc_onward mv rm (nI (p.length + 1)) (dr_bI true) bd od os (upd sq p.length (nI t)) ab ap az aj (t := 0) hb hV2 hS2 (by omega) h1
      | false =>
        refine br_t rfl ?_
        cases p with
        | nil => exact absurd rfl hp
        | cons s q =>
          rw [yc_st2] at h1
          exact h1
theorem yd_extend {post : SY → Prop} (mv rm sz jm : Int32) (bd od os sq ab ap az aj : Nat → Int32) {j : Bool} {sd : Int32} {p : List Nat} (hb : dr_V bd) (hV : tr_V j bd p) (hS : tr_S sq p)
    (h : ∀ p' rest sq', tr_lP j bd p = p' :: rest → tr_af j bd sd p' = rest ++ tr_af j bd sd p → tr_V j bd p' → tr_S sq' p' → (tr_ch j bd p 0 = [] → p' = p) → (tr_ch j bd p 0 ≠ [] → p.length < p'.length) → p.length ≤ p'.length → post (mv, rm, nI p'.length, dr_bI j, bd, od, os, sq', ab, ap, az, aj)) :
    wpY_extend post (mv, rm, nI p.length, dr_bI j, bd, od, os, sq, ab, ap, az, aj) := by
  have hn := tr_V_len hV
  unfold wpY_extend
  dsimp only
  refine yc_onward mv rm sz jm bd od os sq ab ap az aj (t := 0) hb hV hS (by omega) ?_
  exact ⟨11 - p.length + 1, yd_ex mv rm (dr_bI j) bd od os ab ap az aj (sd := sd) hb rfl (11 - p.length) p sq (by omega) hV hS h⟩
def tr_E (j : Bool) (b : Nat → Int32) (sd : Int32) (L : List (List Nat)) (on sz : Int32) (sq : Nat → Int32) : Prop :=
  (L = [] ∧ on = 0) ∨ (∃ p rest, L = p :: rest ∧ on = 1 ∧ tr_af j b sd p = rest ∧ tr_V j b p ∧ tr_S sq p ∧ sz = nI p.length ∧ 2 ≤ p.length)
theorem yd_bf {post : Int32 → SY → Prop} (mv rm jm : Int32) (bd od os ab ap az aj : Nat → Int32) {j : Bool} (hb : dr_V bd) (hj : jm = dr_bI j) : ∀ d s (sz : Int32) (sq : Nat → Int32), s + d = 32 →
    (∀ on sz' sq', tr_E j bd mv (tr_fr j bd mv s) on sz' sq' → post on (mv, rm, sz', jm, bd, od, os, sq', ab, ap, az, aj)) → wY_beginFrom_2 post (d + 1) (nI s) mv rm sz jm bd od os sq ab ap az aj := by
  subst hj
  intro d
  induction d with
  | zero =>
    intro s sz sq hs h
    obtain rfl : s = 32 := by omega
    exact br_t (by decide) (h 0 sz sq (Or.inl ⟨tr_fr_32 (Nat.le_refl _), rfl⟩))
  | succ d ih =>
    intro s sz sq hs h
    have hx : s < 32 := by omega
    refine br_f (nI_ge (b := 32) hx (by decide)) ⟨vp_in_nI hx (by omega), ?_⟩
    rw [nI_clamp (by omega)]
    refine ya_side (hb _) ?_
    rw [tr_fr_s hx] at h
    refine br_c (fun z => ?_) (fun z => ?_)
    · refine nm_e ?_
      have hV : tr_V j bd [s] := hx
      have hS : tr_S (upd sq 0 (nI s)) [s] := ⟨pk_us, True.intro⟩
      refine yd_extend mv rm 1 (dr_bI j) bd od os (upd sq 0 (nI s)) ab ap az aj (sd := mv) (p := [s]) hb hV hS ?_
      intro p' rest sq' e1 e2 e3 e4 e5 e6 e7
      have hn := tr_V_len e3
      refine pk_le p'.length 1 (fun y => nm_r (nI_1 s) ?_) (fun y => ?_)
      · have hc : tr_ch j bd [s] 0 = [] := by
          cases hc : tr_ch j bd [s] 0 with
          | nil => rfl
          | cons t C =>
            have := e6 (by rw [hc]; simp)
            simp only [List.length_cons, List.length_nil] at this
            omega
        refine ih (s + 1) _ sq' (by omega) ?_
        have ea : tr_at j bd mv s = [] := by unfold tr_at; rw [if_pos z, if_pos hc]
        rw [ea, List.nil_append] at h
        exact h
      · have hc : tr_ch j bd [s] 0 ≠ [] := by
          intro hc
          have := e5 hc
          rw [this] at y
          simp at y
        have ea : tr_at j bd mv s = p' :: rest := by unfold tr_at; rw [if_pos z, if_neg hc]; exact e1
        refine h 1 _ sq' (Or.inr ⟨p', rest ++ tr_fr j bd mv (s + 1), ?_, rfl, e2, e3, e4, rfl, by omega⟩)
        rw [ea]; rfl
    · refine nm_r (nI_1 s) (ih (s + 1) sz sq (by omega) ?_)
      have ea : tr_at j bd mv s = [] := by unfold tr_at; rw [if_neg z]
      rw [ea, List.nil_append] at h
      exact h
theorem yd_begin {post : Int32 → SY → Prop} (mv rm sz jm : Int32) (bd od os sq ab ap az aj : Nat → Int32) {j : Bool} {s : Nat} (hb : dr_V bd) (hs : s ≤ 32) (h : ∀ on sz' sq', tr_E j bd mv (tr_fr j bd mv s) on sz' sq' → post on (mv, rm, sz', dr_bI j, bd, od, os, sq', ab, ap, az, aj)) : wpY_beginFrom post (mv, rm, sz, dr_bI j, bd, od, os, sq, ab, ap, az, aj) (nI s) :=
  ⟨32 - s + 1, yd_bf mv rm (dr_bI j) bd od os ab ap az aj hb rfl (32 - s) s sz sq (by omega) h⟩
theorem tr_E_on {j : Bool} {b : Nat → Int32} {sd : Int32} {L : List (List Nat)} {on sz : Int32} {sq : Nat → Int32} (h : tr_E j b sd L on sz sq) : (L = [] ∧ on = 0) ∨ (L ≠ [] ∧ on = 1) := by
  rcases h with ⟨a, c⟩ | ⟨p, rest, a, c, _⟩
  · exact Or.inl ⟨a, c⟩
  · exact Or.inr ⟨by rw [a]; simp, c⟩
theorem tr_mj_t {b : Nat → Int32} {sd : Int32} (h : tr_fr true b sd 0 ≠ []) : tr_mj b sd = true := by unfold tr_mj; exact decide_eq_true h
theorem tr_mj_f {b : Nat → Int32} {sd : Int32} (h : tr_fr true b sd 0 = []) : tr_mj b sd = false := by unfold tr_mj; rw [h]; rfl
theorem yd_first {post : Int32 → SY → Prop} (mv rm sz jm : Int32) (bd od os sq ab ap az aj : Nat → Int32) (hb : dr_V bd) (h : ∀ on sz' sq', tr_E (tr_mj bd mv) bd mv (tr_ML bd mv) on sz' sq' → post on (mv, rm, sz', dr_bI (tr_mj bd mv), bd, od, os, sq', ab, ap, az, aj)) : wpY_first post (mv, rm, sz, jm, bd, od, os, sq, ab, ap, az, aj) := by
  unfold wpY_first
  dsimp only
  refine yd_begin mv rm sz 1 bd od os sq ab ap az aj (j := true) (s := 0) hb (by omega) ?_
  intro on sz' sq' hE
  dsimp only
  rcases tr_E_on hE with ⟨z, rfl⟩ | ⟨z, rfl⟩
  · refine br_t rfl ?_
    refine yd_begin mv rm sz' 0 bd od os sq' ab ap az aj (j := false) (s := 0) hb (by omega) ?_
    intro on sz'' sq'' hE2
    dsimp only
    have h1 := h on sz'' sq''
    unfold tr_ML at h1
    rw [tr_mj_f z] at h1
    have hn : narrow .boolean (.int on) = .int on := by
      rcases tr_E_on hE2 with ⟨_, rfl⟩ | ⟨_, rfl⟩ <;> rfl
    exact ⟨hn, h1 hE2⟩
  · refine br_f (by decide) ?_
    have h1 := h 1 sz' sq'
    unfold tr_ML at h1
    rw [tr_mj_t z] at h1
    exact h1 hE
theorem yd_nx {post : Int32 → SY → Prop} (mv rm jm : Int32) (bd od os sq ab ap az aj : Nat → Int32) {j : Bool} (hb : dr_V bd) (hj : jm = dr_bI j) : ∀ (p : List Nat), tr_V j bd p → tr_S sq p →
    (∀ on sz' sq', tr_E j bd mv (tr_af j bd mv p) on sz' sq' → post on (mv, rm, sz', jm, bd, od, os, sq', ab, ap, az, aj)) → wY_next_0 post mv rm jm bd od os sq ab ap az aj (p.length + 1) (nI p.length) := by
  subst hj
  intro p
  induction p with
  | nil => intro hV; exact hV.elim
  | cons t p ih =>
    intro hV hS h
    have ht := tr_V_hd hV
    have hn := tr_V_len hV
    simp only [List.length_cons] at hn
    cases p with
    | nil =>
      refine br_t (show nI 1 ≤ 1 by decide) ?_
      rw [show sq 0 = nI t from hS.1, nI_1 t]
      refine yd_begin mv rm _ (dr_bI j) bd od os sq ab ap az aj (j := j) (s := t + 1) hb (by omega) ?_
      intro on sz' sq' hE
      dsimp only
      have hn : narrow .boolean (.int on) = .int on := by
        rcases tr_E_on hE with ⟨_, rfl⟩ | ⟨_, rfl⟩ <;> rfl
      exact ⟨hn, h on sz' sq' hE⟩
    | cons s q =>
      simp only [List.length_cons] at hn
      have e1 : nI (t :: s :: q).length - 1 = nI (s :: q).length := nI_pred _
      have hs := hS.1
      refine pk_le (t :: s :: q).length 1 (fun y => absurd y (by simp)) (fun _ => ?_) rfl rfl (by simp only [List.length_cons]; omega) (by omega)
      rw [e1, nI_clamp (by simp only [List.length_cons]; omega), hs]
      refine ⟨vp_in_nI (by simp only [List.length_cons]; omega) (by omega), nm_e (nm_e ?_)⟩
      rw [nI_1 t]
      refine yc_onward mv rm (nI (s :: q).length) (dr_bI j) bd od os sq ab ap az aj (t := t + 1) hb hV.1 hS.2 (by omega) ?_
      rw [tr_af_cons (by simp)] at h
      cases hc : tr_ch j bd (s :: q) (t + 1) with
      | nil =>
        rw [hc, List.flatMap_nil, List.nil_append] at h
        exact br_t (by decide) (ih hV.1 hS.2 h)
      | cons u C =>
        obtain ⟨_, hu, hcan, hC⟩ := yc_next hc
        rw [hc, List.flatMap_cons] at h
        have hV2 := tr_V_cons hV.1 hu hcan
        have hS2 : tr_S (upd sq (s :: q).length (nI u)) (u :: s :: q) := tr_S_cons hS.2
        refine br_f (nI_ge (b := 32) hu (by decide)) ⟨vp_in_nI (by simp only [List.length_cons]; omega) (by omega), nm_e (nm_r (nI_1 _) ?_)⟩
        rw [nI_clamp (by simp only [List.length_cons]; omega)]
        cases j with
        | true =>
          refine br_f (by decide) ?_
          refine yd_extend mv rm (nI (u :: s :: q).length) (dr_bI true) bd od os (upd sq (s :: q).length (nI u)) ab ap az aj (sd := mv) (p := u :: s :: q) hb hV2 hS2 ?_
          intro p' rest sq' f1 f2 f3 f4 f5 f6 f7
          dsimp only
          refine h 1 _ sq' (Or.inr ⟨p', rest ++ C.flatMap (fun t' => tr_lP true bd (t' :: s :: q)) ++ tr_af true bd mv (s :: q), ?_, rfl, ?_, f3, f4, rfl, ?_⟩)
          · rw [f1]; simp
          · rw [f2, tr_af_cons (by simp), ← hC, List.append_assoc]
          · simp only [List.length_cons] at f7; omega
        | false =>
          refine br_t rfl ?_
          refine h 1 _ _ (Or.inr ⟨u :: s :: q, C.flatMap (fun t' => tr_lP false bd (t' :: s :: q)) ++ tr_af false bd mv (s :: q), ?_, rfl, ?_, hV2, hS2, rfl, by simp⟩)
          · rw [tr_lP_nil yc_st2]; simp
          · rw [tr_af_cons (by simp), ← hC]
theorem yd_next {post : Int32 → SY → Prop} (mv rm sz jm : Int32) (bd od os sq ab ap az aj : Nat → Int32) {j : Bool} {on : Int32} {p : List Nat} {rest : List (List Nat)} (hb : dr_V bd) (hE : tr_E j bd mv (p :: rest) on sz sq) (h : ∀ on' sz' sq', tr_E j bd mv rest on' sz' sq' → post on' (mv, rm, sz', dr_bI j, bd, od, os, sq', ab, ap, az, aj)) : wpY_next post (mv, rm, sz, dr_bI j, bd, od, os, sq, ab, ap, az, aj) := by
  rcases hE with ⟨z, _⟩ | ⟨p1, r1, z, _, h1, h2, h3, h4, _⟩
  · exact absurd z (by simp)
  · obtain ⟨rfl, rfl⟩ := List.cons.inj z
    subst h4
    rw [← h1] at h
    exact ⟨p.length + 1, yd_nx mv rm (dr_bI j) bd od os sq ab ap az aj hb rfl p h2 h3 h⟩
end
section
/-! copies -/
def cp_ (d : Nat → Int32) (o k : Nat) (g : Nat → Int32) : Nat → Int32 := fun i => if o ≤ i ∧ i < o + k then g (i - o) else d i
theorem cp_0 {d g : Nat → Int32} {o : Nat} : cp_ d o 0 g = d := by
  funext i
  unfold cp_
  rw [if_neg (by omega)]
theorem cp_s {d g : Nat → Int32} {o k : Nat} : upd (cp_ d o k g) (o + k) (g k) = cp_ d o (k + 1) g := by
  funext i
  unfold cp_ upd
  by_cases h : i = o + k
  · subst h
    rw [if_pos rfl, if_pos (by omega), Nat.add_sub_cancel_left]
  · rw [if_neg h]
    dsimp only
    by_cases h2 : o ≤ i ∧ i < o + k
    · rw [if_pos h2, if_pos (by omega)]
    · rw [if_neg h2, if_neg (by omega)]
theorem cp_in {d g : Nat → Int32} {o k i : Nat} (h : i < k) : cp_ d o k g (o + i) = g i := by
  unfold cp_
  rw [if_pos (by omega), Nat.add_sub_cancel_left]
theorem cp_in0 {d g : Nat → Int32} {k i : Nat} (h : i < k) : cp_ d 0 k g i = g i := by
  unfold cp_
  rw [if_pos (by omega), Nat.sub_zero]
theorem cp_out {d g : Nat → Int32} {o k i : Nat} (h : i < o ∨ o + k ≤ i) : cp_ d o k g i = d i := by
  unfold cp_
  rw [if_neg (by omega)]
theorem cp_eq {d g b : Nat → Int32} {k : Nat} (h1 : ∀ i, i < k → g i = b i) (h2 : ∀ i, k ≤ i → d i = b i) : cp_ d 0 k g = b := by
  funext i
  rcases Nat.lt_or_ge i k with h | h
  · rw [cp_in0 h, h1 i h]
  · rw [cp_out (by omega), h2 i h]
theorem tr_S_congr {sq sq' : Nat → Int32} : ∀ {p : List Nat}, (∀ i, i < p.length → sq' i = sq i) → tr_S sq p → tr_S sq' p
  | [], _, _ => True.intro
  | t :: q, hn, h => by
    simp only [List.length_cons] at hn
    exact ⟨(hn _ (by omega)).trans h.1, tr_S_congr (fun i hi => hn i (by omega)) h.2⟩
/-! a move carried out -/
def tr_ap (j : Bool) (b : Nat → Int32) (p : List Nat) : Nat → Int32 := fun i =>
  if i = p.headD 0 then (if dr_la (b (tr_l p)) (p.headD 0) = true then b (tr_l p) + 1 else b (tr_l p))
  else if i = tr_l p then 0 else if j = true ∧ (tr_cr p).contains i = true then 0 else b i
theorem tr_ap_cons (j : Bool) (b : Nat → Int32) (s : Nat) (q : List Nat) : tr_ap j b (s :: q) = fun i =>
  if i = s then (if dr_la (b (tr_l (s :: q))) s = true then b (tr_l (s :: q)) + 1 else b (tr_l (s :: q)))
  else if i = tr_l (s :: q) then 0 else if j = true ∧ (tr_cr (s :: q)).contains i = true then 0 else b i := rfl
def tr_tk (j : Bool) (p : List Nat) : Int32 := if j = true then nI (p.length - 1) else 0
theorem tr_5up {x : Int32} {s : Nat} (hx : dr_5 x) (h : dr_la x s = true) : dr_5 (x + 1) := by
  rcases hx with rfl | rfl | rfl | rfl | rfl
  · simp [dr_la] at h
  · exact Or.inr (Or.inr (Or.inl (by decide)))
  · simp [dr_la] at h
  · exact Or.inr (Or.inr (Or.inr (Or.inr (by decide))))
  · simp [dr_la] at h
theorem tr_ap_V {j : Bool} {b : Nat → Int32} {p : List Nat} (hb : dr_V b) : dr_V (tr_ap j b p) := by
  intro i
  unfold tr_ap
  split
  · split
    · rename_i h; exact tr_5up (hb _) h
    · exact hb _
  · split
    · exact Or.inl rfl
    · split
      · exact Or.inl rfl
      · exact hb _
theorem tr_cr_32 : ∀ {p : List Nat}, (∀ x, x ∈ p → x < 32) → ∀ x, x ∈ tr_cr p → x < 32
  | [], _, x, hx => absurd hx (by simp [tr_cr])
  | [_], _, x, hx => absurd hx (by simp [tr_cr])
  | t :: s :: q, hb, x, hx => by
    rcases List.mem_cons.mp hx with rfl | hx
    · exact ge_mid32 s (hb s (by simp)) t (hb t (by simp))
    · exact tr_cr_32 (p := s :: q) (fun y hy => hb y (List.mem_cons_of_mem _ hy)) x hx
theorem tr_ap_hi {j : Bool} {b : Nat → Int32} {p : List Nat} (hV : tr_V j b p) {i : Nat} (hi : 32 ≤ i) : tr_ap j b p i = b i := by
  have hl := tr_V_l hV
  cases p with
  | nil => exact hV.elim
  | cons s q =>
    have hs := tr_V_hd hV
    unfold tr_ap
    rw [if_neg (by simp only [List.headD_cons]; omega), if_neg (by omega), if_neg]
    intro h
    have := tr_cr_32 (tr_V_b hV) i (by simpa using h.2)
    omega
theorem ye_106 {post : Int32 → SY → Prop} (mv rm sz jm : Int32) (bd od os sq ab ap az aj : Nat → Int32) {z : Int32} {j : Bool} {k s : Nat} (hs : s < 32) (h : post (if j = true then nI k else 0) (1 - mv, rm, nI (k + 1), dr_bI j, upd bd s z, od, os, sq, ab, ap, az, aj)) : wY_carryOut_106 post z (nI s) mv rm (nI (k + 1)) (dr_bI j) bd od os sq ab ap az aj := by
  refine ⟨vp_in_nI hs (by omega), ?_⟩
  rw [nI_clamp (by omega)]
  refine nm_e (nm_e ?_)
  cases j with
  | true =>
    refine br_f (by decide) ?_
    rw [nI_pred]
    exact h
  | false => exact br_t rfl h
theorem ye_85 {post : Int32 → SY → Prop} (mv rm sz jm : Int32) (bd od os sq ab ap az aj : Nat → Int32) {x : Int32} {j : Bool} {k s : Nat} (hx : dr_5 x) (hs : s < 32) (h : post (if j = true then nI k else 0) (1 - mv, rm, nI (k + 1), dr_bI j, upd bd s (if dr_la x s = true then x + 1 else x), od, os, sq, ab, ap, az, aj)) : wY_carryOut_85 post x (nI s) mv rm (nI (k + 1)) (dr_bI j) bd od os sq ab ap az aj := by
  unfold wY_carryOut_85
  refine ya_last hx hs ?_
  cases hc : dr_la x s with
  | true =>
    rw [hc] at h
    exact br_f (by decide) (ye_106 mv rm sz jm bd od os sq ab ap az aj hs h)
  | false =>
    rw [hc] at h
    exact br_t rfl (ye_106 mv rm sz jm bd od os sq ab ap az aj hs h)
theorem ye_38 {post : Int32 → SY → Prop} (mv rm sz jm : Int32) (bd od os sq ab ap az aj : Nat → Int32) {x y : Int32} {k : Nat} (hk : k < 39) (hg : ∀ i, i ≤ k → sq i = nI (sq i).toNatClampNeg ∧ (sq i).toNatClampNeg < 32)
    (h : wY_carryOut_85 post x y mv rm (nI (k + 1)) (dr_bI true) (fun m => if ya_jf (fun i => (sq i).toNatClampNeg) m k = true then 0 else bd m) od os sq ab ap az aj) :
    ∀ d i, i + d = k → wY_carryOut_38 post x y mv rm (nI (k + 1)) (dr_bI true) (d + 1) (nI i) (fun m => if ya_jf (fun i => (sq i).toNatClampNeg) m i = true then 0 else bd m) od os sq ab ap az aj := by
  intro d
  induction d with
  | zero =>
    intro i hi
    obtain rfl : i = k := by omega
    exact pk_le (i + 1) (i + 1) (fun _ => h) (fun z => absurd z (by omega)) rfl (nI_1 i)
  | succ d ih =>
    intro i hi
    refine pk_le (k + 1) (i + 1) (fun z => absurd z (by omega)) (fun _ => ?_) rfl (nI_1 i)
    have h1 := ih (i + 1) (by omega)
    obtain ⟨ga, gb⟩ := hg i (by omega)
    obtain ⟨gc, gd⟩ := hg (i + 1) (by omega)
    have hm := ge_mid32 _ gb _ gd
    refine br_f (by decide) ⟨vp_in_nI (by omega) (by omega), by rw [nI_1]; exact vp_in_nI (by omega) (by omega), ?_⟩
    rw [nI_1 i, nI_clamp (by omega), nI_clamp (by omega), ga, gc]
    refine ya_btw gb gd ⟨vp_in_nI hm (by omega), nm_r ?_ (nm_e h1)⟩
    rw [nI_clamp (by omega)]
    funext m
    unfold upd
    simp only [ya_jf, Bool.or_eq_true, beq_iff_eq]
    by_cases z : m = ge_mid (sq i).toNatClampNeg (sq (i + 1)).toNatClampNeg
    · rw [if_pos (Or.inr z.symm), if_pos z]
    · rw [if_neg z]
      by_cases z2 : ya_jf (fun i => (sq i).toNatClampNeg) m i = true
      · rw [if_pos z2, if_pos (Or.inl z2)]
      · rw [if_neg z2, if_neg (by intro w; rcases w with w | w; exact z2 w; exact z w.symm)]
theorem ye_carry {post : Int32 → SY → Prop} (mv rm sz jm : Int32) (bd od os sq ab ap az aj : Nat → Int32) {j : Bool} {p : List Nat} (hb : dr_V bd) (hV : tr_V j bd p) (hS : tr_S sq p) (h : post (tr_tk j p) (1 - mv, rm, nI p.length, dr_bI j, tr_ap j bd p, od, os, sq, ab, ap, az, aj)) : wpY_carryOut post (mv, rm, nI p.length, dr_bI j, bd, od, os, sq, ab, ap, az, aj) := by
  cases p with
  | nil => exact hV.elim
  | cons s q =>
    have hs := tr_V_hd hV
    have hl := tr_V_l hV
    have hn := tr_V_len hV
    have e0 := tr_S_0 (by simp) hS
    have e1 : nI (s :: q).length - 1 = nI q.length := nI_pred _
    have hB := tr_V_b hV
    simp only [List.length_cons] at hn
    unfold wpY_carryOut
    dsimp only
    rw [e0, e1, nI_clamp (by omega), nI_clamp (by omega), hS.1]
    refine ⟨vp_in_nI hl (by omega), nm_e ⟨vp_in_nI (by omega) (by omega), nm_e ⟨vp_in_nI hl (by omega), nm_e ?_⟩⟩⟩
    cases j with
    | true =>
      refine ⟨q.length + 1, ?_⟩
      have k := ye_38 (post := post) mv rm sz jm (upd bd (tr_l (s :: q)) 0) od os sq ab ap az aj (x := bd (tr_l (s :: q))) (y := nI s) (k := q.length) (by omega) (fun i hi => tr_S_at hB hS i (by simp only [List.length_cons]; omega)) (by
        refine ye_85 mv rm sz jm _ od os sq ab ap az aj (j := true) (k := q.length) (hb _) hs ?_
        have e : upd (fun m => if ya_jf (fun i => (sq i).toNatClampNeg) m q.length = true then 0 else upd bd (tr_l (s :: q)) 0 m) s (if dr_la (bd (tr_l (s :: q))) s = true then bd (tr_l (s :: q)) + 1 else bd (tr_l (s :: q))) = tr_ap true bd (s :: q) := by
          funext m
          rw [show (fun m => if ya_jf (fun i => (sq i).toNatClampNeg) m q.length = true then 0 else upd bd (tr_l (s :: q)) 0 m) = (fun m => if (tr_cr (s :: q)).contains m = true then 0 else upd bd (tr_l (s :: q)) 0 m) from by funext m; rw [ya_jf_cr q s hB hS]]
          rw [tr_ap_cons]
          unfold upd
          dsimp only
          by_cases z : m = s
          · rw [if_pos z, if_pos z]
          · rw [if_neg z, if_neg z]
            by_cases z2 : m = tr_l (s :: q)
            · rw [if_pos z2, if_pos z2]; split <;> rfl
            · rw [if_neg z2, if_neg z2]
              by_cases z4 : (tr_cr (s :: q)).contains m = true
              · rw [if_pos z4, if_pos ⟨rfl, z4⟩]
              · rw [if_neg z4, if_neg (fun w => z4 w.2)]
        rw [e]
        exact h) q.length 0 (by omega)
      have e3 : (fun m => if ya_jf (fun i => (sq i).toNatClampNeg) m 0 = true then 0 else upd bd (tr_l (s :: q)) 0 m) = upd bd (tr_l (s :: q)) 0 := by
        funext m
        rw [if_neg (by simp [ya_jf])]
      rw [e3] at k
      exact k
    | false =>
      refine ⟨1, ?_⟩
      have k : wY_carryOut_85 post (bd (tr_l (s :: q))) (nI s) mv rm (nI (q.length + 1)) (dr_bI false) (upd bd (tr_l (s :: q)) 0) od os sq ab ap az aj := by
        refine ye_85 mv rm sz jm _ od os sq ab ap az aj (j := false) (k := q.length) (hb _) hs ?_
        have e : upd (upd bd (tr_l (s :: q)) 0) s (if dr_la (bd (tr_l (s :: q))) s = true then bd (tr_l (s :: q)) + 1 else bd (tr_l (s :: q))) = tr_ap false bd (s :: q) := by
          funext m
          rw [tr_ap_cons]
          unfold upd
          simp
        rw [e]
        exact h
      exact br_c (fun _ => k) (fun _ => br_t rfl k)
end
section
/-! the reference: find, moves, remember, putAside, putBack, twice, plays -/
theorem tr_E_n {j : Bool} {b : Nat → Int32} {sd : Int32} {L : List (List Nat)} {on sz : Int32} {sq : Nat → Int32} (h : tr_E j b sd L on sz sq) : narrow .boolean (.int on) = .int on := by
  rcases tr_E_on h with ⟨_, rfl⟩ | ⟨_, rfl⟩ <;> rfl
theorem yf_fl {post : Int32 → SY → Prop} (mv rm jm : Int32) (bd od os ab ap az aj : Nat → Int32) {j : Bool} {m : Nat} (hm : m < 2 ^ 31) (hb : dr_V bd) (hj : jm = dr_bI j) : ∀ d i (L : List (List Nat)) (on sz : Int32) (sq : Nat → Int32), i + d = m → tr_E j bd mv L on sz sq → (∀ on' sz' sq', tr_E j bd mv (L.drop d) on' sz' sq' → post on' (mv, rm, sz', jm, bd, od, os, sq', ab, ap, az, aj)) → wY_find_19 post (nI m) (d + 1) on (nI i) mv rm sz jm bd od os sq ab ap az aj := by
  subst hj
  intro d
  induction d with
  | zero =>
    intro i L on sz sq hi hE h
    obtain rfl : i = m := by omega
    exact pk_le i i (fun _ => ⟨tr_E_n hE, h on sz sq hE⟩) (fun z => absurd z (by omega))
  | succ d ih =>
    intro i L on sz sq hi hE h
    refine pk_le m i (fun z => absurd z (by omega)) (fun _ => ?_)
    cases L with
    | nil =>
      rcases tr_E_on hE with ⟨_, rfl⟩ | ⟨z, _⟩
      · exact br_t rfl ⟨rfl, h 0 sz sq hE⟩
      · exact absurd rfl z
    | cons p rest =>
      rcases tr_E_on hE with ⟨z, _⟩ | ⟨_, rfl⟩
      · exact absurd z (by simp)
      · refine br_f (by decide) ?_
        refine yd_next mv rm sz (dr_bI j) bd od os sq ab ap az aj hb hE ?_
        intro on' sz' sq' hE'
        exact nm_r (nI_1 i) (ih (i + 1) rest on' sz' sq' (by omega) hE' h)
theorem yf_find {post : Int32 → SY → Prop} (mv rm sz jm : Int32) (bd od os sq ab ap az aj : Nat → Int32) {m : Nat} (hm : m < 2 ^ 31) (hb : dr_V bd) (h : ∀ on sz' sq', tr_E (tr_mj bd mv) bd mv ((tr_ML bd mv).drop m) on sz' sq' → post on (mv, rm, sz', dr_bI (tr_mj bd mv), bd, od, os, sq', ab, ap, az, aj)) : wpY_find post (mv, rm, sz, jm, bd, od, os, sq, ab, ap, az, aj) (nI m) := by
  unfold wpY_find
  dsimp only
  refine br_f (nI_pos hm) ?_
  refine yd_first mv rm sz jm bd od os sq ab ap az aj hb ?_
  intro on sz' sq' hE
  dsimp only
  have k := fun on h1 => yf_fl (post := post) mv rm (dr_bI (tr_mj bd mv)) bd od os ab ap az aj (m := m) hm hb rfl m 0 (tr_ML bd mv) on sz' sq' (by omega) h1 h
  rcases tr_E_on hE with ⟨_, rfl⟩ | ⟨_, rfl⟩
  · exact br_t rfl ⟨m + 1, k 0 hE⟩
  · exact br_f (by decide) ⟨m + 1, k 1 hE⟩
theorem yf_findN {post : Int32 → SY → Prop} (mv rm sz jm : Int32) (bd od os sq ab ap az aj : Nat → Int32) {k : Int32} (hk : k < 0) (h : post 0 (mv, rm, sz, jm, bd, od, os, sq, ab, ap, az, aj)) : wpY_find post (mv, rm, sz, jm, bd, od, os, sq, ab, ap, az, aj) k := by
  unfold wpY_find
  dsimp only
  exact br_t hk ⟨1, br_t (Int32.le_of_lt hk) ⟨rfl, h⟩⟩
theorem yf_ml {post : Int32 → SY → Prop} (mv rm jm : Int32) (bd od os ab ap az aj : Nat → Int32) {j : Bool} (hb : dr_V bd) (hj : jm = dr_bI j) : ∀ (L : List (List Nat)) (x : Nat) (on sz : Int32) (sq : Nat → Int32), tr_E j bd mv L on sz sq → (∀ sz' sq', post (nI (x + L.length)) (mv, rm, sz', jm, bd, od, os, sq', ab, ap, az, aj)) → wY_moves_7 post (L.length + 1) (nI x) on mv rm sz jm bd od os sq ab ap az aj := by
  subst hj
  intro L
  induction L with
  | nil =>
    intro x on sz sq hE h
    rcases tr_E_on hE with ⟨_, rfl⟩ | ⟨z, _⟩
    · exact br_t rfl (h sz sq)
    · exact absurd rfl z
  | cons p rest ih =>
    intro x on sz sq hE h
    rcases tr_E_on hE with ⟨z, _⟩ | ⟨_, rfl⟩
    · exact absurd z (by simp)
    · refine br_f (by decide) (nm_r (nI_1 x) ?_)
      refine yd_next mv rm sz (dr_bI j) bd od os sq ab ap az aj hb hE ?_
      intro on' sz' sq' hE'
      refine ih (x + 1) on' sz' sq' hE' ?_
      intro sz'' sq''
      have := h sz'' sq''
      rw [List.length_cons, ← Nat.add_assoc, Nat.add_right_comm] at this
      exact this
theorem yf_moves {post : Int32 → SY → Prop} (mv rm sz jm : Int32) (bd od os sq ab ap az aj : Nat → Int32) (hb : dr_V bd) (h : ∀ sz' jm' sq', post (nI (tr_ML bd mv).length) (mv, rm, sz', jm', bd, od, os, sq', ab, ap, az, aj)) : wpY_moves post (mv, rm, sz, jm, bd, od, os, sq, ab, ap, az, aj) := by
  unfold wpY_moves
  dsimp only
  refine yd_first mv rm sz jm bd od os sq ab ap az aj hb ?_
  intro on sz' sq' hE
  refine ⟨(tr_ML bd mv).length + 1, yf_ml mv rm (dr_bI (tr_mj bd mv)) bd od os ab ap az aj hb rfl (tr_ML bd mv) 0 on sz' sq' hE ?_⟩
  intro sz'' sq''
  rw [Nat.zero_add]
  exact h sz'' _ sq''
def tr_mt (j : Bool) : Int32 → List (List Nat) → Int32
  | x, [] => x
  | x, p :: L => tr_mt j (if tr_tk j p ≤ x then x else tr_tk j p) L
def tr_mo : Int32 → List (List Nat) → Int32
  | x, [] => x
  | x, p :: L => tr_mo (x ||| ((1 : Int32) <<< (nI (tr_l p) &&& 31))) L
def tr_sm (f : List Nat → Int32) : Int32 → List (List Nat) → Int32
  | x, [] => x
  | x, p :: L => tr_sm f (x + f p) L
theorem tr_E_sz {j : Bool} {b : Nat → Int32} {sd : Int32} {p : List Nat} {L : List (List Nat)} {on sz : Int32} {sq : Nat → Int32} (h : tr_E j b sd (p :: L) on sz sq) : tr_V j b p ∧ tr_S sq p ∧ sz = nI p.length ∧ 2 ≤ p.length ∧ on = 1 := by
  rcases h with ⟨a, c⟩ | ⟨p1, rest, a, c, d, e, f, g, k⟩
  · exact absurd a (by simp)
  · obtain ⟨rfl, rfl⟩ := List.cons.inj a
    exact ⟨e, f, g, k, c⟩
theorem yf_tl {post : Int32 → SY → Prop} (mv rm jm : Int32) (bd od os ab ap az aj : Nat → Int32) {j : Bool} (hb : dr_V bd) (hj : jm = dr_bI j) : ∀ (L : List (List Nat)) (x on sz : Int32) (sq : Nat → Int32), 0 ≤ x → tr_E j bd mv L on sz sq → (∀ sz' sq', post (tr_mt j x L) (mv, rm, sz', jm, bd, od, os, sq', ab, ap, az, aj)) → wY_mostTaken_7 post (L.length + 1) x on mv rm sz jm bd od os sq ab ap az aj := by
  subst hj
  intro L
  induction L with
  | nil =>
    intro x on sz sq hx hE h
    rcases tr_E_on hE with ⟨_, rfl⟩ | ⟨z, _⟩
    · exact br_t rfl (h sz sq)
    · exact absurd rfl z
  | cons p rest ih =>
    intro x on sz sq hx hE h
    obtain ⟨hV, hS, hz, h2, rfl⟩ := tr_E_sz hE
    have hn := tr_V_len hV
    obtain ⟨k, hk⟩ : ∃ k, p.length = k + 1 := ⟨p.length - 1, by omega⟩
    refine br_f (by decide) ?_
    have nx : ∀ x', 0 ≤ x' → x' = (if tr_tk j p ≤ x then x else tr_tk j p) → wpY_next (fun r_16 u => match u with | (f_mover_17, f_remembered_18, f_size_19, f_jumps_20, a_board_21, a_olds_22, a_oldSides_23, a_squares_24, a_asideBoards_25, a_asidePaths_26, a_asideSizes_27, a_asideJumps_28) => (wY_mostTaken_7 post (rest.length + 1) x' r_16 f_mover_17 f_remembered_18 f_size_19 f_jumps_20 a_board_21 a_olds_22 a_oldSides_23 a_squares_24 a_asideBoards_25 a_asidePaths_26 a_asideSizes_27 a_asideJumps_28)) (mv, rm, sz, dr_bI j, bd, od, os, sq, ab, ap, az, aj) := by
      intro x' hx' ex'
      refine yd_next mv rm sz (dr_bI j) bd od os sq ab ap az aj hb hE ?_
      intro on' sz' sq' hE'
      dsimp only
      refine ih x' on' sz' sq' hx' hE' ?_
      intro sz'' sq''
      rw [ex']
      exact h sz'' sq''
    cases j with
    | false =>
      refine br_t rfl ?_
      exact nx x hx (by simp [tr_tk, hx])
    | true =>
      refine br_f (by decide) ?_
      have e : sz - 1 = nI k := by rw [hz, hk, nI_pred]
      have e2 : tr_tk true p = nI k := by simp [tr_tk, hk]
      rw [e]
      rw [e2] at nx
      refine br_c (fun z => ?_) (fun z => ?_)
      · exact nx x hx (if_pos z).symm
      · exact nx (nI k) (nI_pos' (by omega)) (if_neg z).symm
theorem yf_most {post : Int32 → SY → Prop} (mv rm sz jm : Int32) (bd od os sq ab ap az aj : Nat → Int32) (hb : dr_V bd) (h : ∀ sz' jm' sq', post (tr_mt (tr_mj bd mv) 0 (tr_ML bd mv)) (mv, rm, sz', jm', bd, od, os, sq', ab, ap, az, aj)) : wpY_mostTaken post (mv, rm, sz, jm, bd, od, os, sq, ab, ap, az, aj) := by
  unfold wpY_mostTaken
  dsimp only
  refine yd_first mv rm sz jm bd od os sq ab ap az aj hb ?_
  intro on sz' sq' hE
  exact ⟨(tr_ML bd mv).length + 1, yf_tl mv rm (dr_bI (tr_mj bd mv)) bd od os ab ap az aj hb rfl (tr_ML bd mv) 0 on sz' sq' (by decide) hE (fun sz'' sq'' => h sz'' _ sq'')⟩
theorem yf_ol {post : Int32 → SY → Prop} (mv rm jm : Int32) (bd od os ab ap az aj : Nat → Int32) {j : Bool} (hb : dr_V bd) (hj : jm = dr_bI j) : ∀ (L : List (List Nat)) (x on sz : Int32) (sq : Nat → Int32), tr_E j bd mv L on sz sq → (∀ sz' sq', post (tr_mo x L) (mv, rm, sz', jm, bd, od, os, sq', ab, ap, az, aj)) → wY_movable_7 post (L.length + 1) x on mv rm sz jm bd od os sq ab ap az aj := by
  subst hj
  intro L
  induction L with
  | nil =>
    intro x on sz sq hE h
    rcases tr_E_on hE with ⟨_, rfl⟩ | ⟨z, _⟩
    · exact br_t rfl (h sz sq)
    · exact absurd rfl z
  | cons p rest ih =>
    intro x on sz sq hE h
    obtain ⟨hV, hS, hz, h2, rfl⟩ := tr_E_sz hE
    refine br_f (by decide) ?_
    rw [tr_S_0 (tr_V_ne hV) hS]
    refine nm_e ?_
    refine yd_next mv rm sz (dr_bI j) bd od os sq ab ap az aj hb hE ?_
    intro on' sz' sq' hE'
    exact ih _ on' sz' sq' hE' h
theorem yf_mova {post : Int32 → SY → Prop} (mv rm sz jm : Int32) (bd od os sq ab ap az aj : Nat → Int32) (hb : dr_V bd) (h : ∀ sz' jm' sq', post (tr_mo 0 (tr_ML bd mv)) (mv, rm, sz', jm', bd, od, os, sq', ab, ap, az, aj)) : wpY_movable post (mv, rm, sz, jm, bd, od, os, sq, ab, ap, az, aj) := by
  unfold wpY_movable
  dsimp only
  refine yd_first mv rm sz jm bd od os sq ab ap az aj hb ?_
  intro on sz' sq' hE
  exact ⟨(tr_ML bd mv).length + 1, yf_ol mv rm (dr_bI (tr_mj bd mv)) bd od os ab ap az aj hb rfl (tr_ML bd mv) 0 on sz' sq' hE (fun sz'' sq'' => h sz'' _ sq'')⟩
theorem yf_must {post : Int32 → SY → Prop} (mv rm sz jm : Int32) (bd od os sq ab ap az aj : Nat → Int32) (hb : dr_V bd) (h : ∀ sz' jm' sq', post (dr_bI (tr_mj bd mv)) (mv, rm, sz', jm', bd, od, os, sq', ab, ap, az, aj)) : wpY_mustJump post (mv, rm, sz, jm, bd, od, os, sq, ab, ap, az, aj) := by
  unfold wpY_mustJump
  dsimp only
  refine yd_first mv rm sz jm bd od os sq ab ap az aj hb ?_
  intro on sz' sq' hE
  dsimp only
  cases hj : tr_mj bd mv with
  | false =>
    rw [hj] at h
    exact br_c (fun _ => h _ _ _) (fun _ => br_t rfl (h _ _ _))
  | true =>
    rw [hj] at h
    have hne : tr_ML bd mv ≠ [] := by
      unfold tr_ML
      rw [hj]
      unfold tr_mj at hj
      exact of_decide_eq_true hj
    rcases tr_E_on hE with ⟨z, _⟩ | ⟨_, rfl⟩
    · exact absurd z hne
    · exact br_f (by decide) (br_f (by decide) (h _ _ _))
end
section
/-! the reference: putAside, putBack, twice, plays, remember, back -/
theorem yg_nar (j : Bool) : vp_nar .boolean (dr_bI j) = dr_bI j := by cases j <;> rfl
theorem yg_fit (j : Bool) : fits .boolean (.int (dr_bI j)) = true := by cases j <;> rfl
theorem yg_m32 (l i : Nat) : (32 : Int32) * nI l + nI i = nI (32 * l + i) := by
  rw [show (32 : Int32) * nI l = nI (32 * l) from pk_mul 32 l, nI_add]
theorem yg_m40 (l i : Nat) : (40 : Int32) * nI l + nI i = nI (40 * l + i) := by
  rw [show (40 : Int32) * nI l = nI (40 * l) from pk_mul 40 l, nI_add]
theorem yg_pa2 {post : SY → Prop} (mv rm sz jm : Int32) (bd od os sq ab ap az aj : Nat → Int32) {j : Bool} {l n : Nat} (hl : l < 2) (hn : n ≤ 40) (h : post (mv, rm, nI n, dr_bI j, bd, od, os, sq, ab, cp_ ap (40 * l) n sq, upd az l (nI n), upd aj l (dr_bI j))) : ∀ d i, i + d = n → wY_putAside_33 post (nI l) mv rm (nI n) (dr_bI j) (d + 1) (nI i) bd od os sq ab (cp_ ap (40 * l) i sq) az aj := by
  intro d
  induction d with
  | zero =>
    intro i hi
    obtain rfl : i = n := by omega
    refine pk_le i i (fun _ => ⟨vp_in_nI hl (by omega), ?_⟩) (fun z => absurd z (by omega))
    rw [nI_clamp (by omega), yg_nar]
    exact nm_e ⟨vp_in_nI hl (by omega), nm_e h⟩
  | succ d ih =>
    intro i hi
    have h1 := ih (i + 1) (by omega)
    refine pk_le n i (fun z => absurd z (by omega)) (fun _ => ⟨vp_in_nI (by omega) (by omega), ?_⟩)
    rw [yg_m40, nI_clamp (by omega), nI_clamp (by omega)]
    exact ⟨vp_in_nI (by omega) (by omega), nm_r cp_s (nm_r (nI_1 i) h1)⟩
theorem yg_pa1 {post : SY → Prop} (mv rm sz jm : Int32) (bd od os sq ab ap az aj : Nat → Int32) {j : Bool} {l n : Nat} (hl : l < 2) (hn : n ≤ 40) (h : post (mv, rm, nI n, dr_bI j, bd, od, os, sq, cp_ ab (32 * l) 32 bd, cp_ ap (40 * l) n sq, upd az l (nI n), upd aj l (dr_bI j))) : ∀ d i, i + d = 32 → wY_putAside_2 post (nI l) mv rm (nI n) (dr_bI j) (d + 1) (nI i) bd od os sq (cp_ ab (32 * l) i bd) ap az aj := by
  intro d
  induction d with
  | zero =>
    intro i hi
    obtain rfl : i = 32 := by omega
    refine br_t (by decide) ⟨n + 1, ?_⟩
    have k := yg_pa2 mv rm sz jm bd od os sq (cp_ ab (32 * l) 32 bd) ap az aj hl hn h n 0 (by omega)
    rw [cp_0] at k
    exact k
  | succ d ih =>
    intro i hi
    have h1 := ih (i + 1) (by omega)
    refine br_f (nI_ge (b := 32) (by omega) (by decide)) ⟨vp_in_nI (by omega) (by omega), ?_⟩
    rw [yg_m32, nI_clamp (by omega), nI_clamp (by omega)]
    exact ⟨vp_in_nI (by omega) (by omega), nm_r cp_s (nm_r (nI_1 i) h1)⟩
theorem yg_putAside {post : SY → Prop} (mv rm sz jm : Int32) (bd od os sq ab ap az aj : Nat → Int32) {j : Bool} {l n : Nat} (hl : l < 2) (hn : n ≤ 40) (h : post (mv, rm, nI n, dr_bI j, bd, od, os, sq, cp_ ab (32 * l) 32 bd, cp_ ap (40 * l) n sq, upd az l (nI n), upd aj l (dr_bI j))) : wpY_putAside post (mv, rm, nI n, dr_bI j, bd, od, os, sq, ab, ap, az, aj) (nI l) := by
  refine ⟨32 + 1, ?_⟩
  have k := yg_pa1 mv rm sz jm bd od os sq ab ap az aj hl hn h 32 0 (by omega)
  rw [cp_0] at k
  exact k
theorem yg_pb2 {post : SY → Prop} (mv rm sz jm : Int32) (bd od os sq ab ap az aj : Nat → Int32) {j : Bool} {l n : Nat} (hl : l < 2) (hn : n ≤ 40) (hj : aj l = dr_bI j) (h : post (1 - mv, rm, nI n, dr_bI j, bd, od, os, cp_ sq 0 n (fun i => ap (40 * l + i)), ab, ap, az, aj)) : ∀ d i, i + d = n → wY_putBack_43 post (nI l) mv rm (nI n) jm (d + 1) (nI i) bd od os (cp_ sq 0 i (fun i => ap (40 * l + i))) ab ap az aj := by
  intro d
  induction d with
  | zero =>
    intro i hi
    obtain rfl : i = n := by omega
    refine pk_le i i (fun _ => ⟨vp_in_nI hl (by omega), ?_⟩) (fun z => absurd z (by omega))
    rw [nI_clamp (by omega), hj]
    exact nm_e ⟨ya_nb _, yg_fit _, nm_e h⟩
  | succ d ih =>
    intro i hi
    have h1 := ih (i + 1) (by omega)
    refine pk_le n i (fun z => absurd z (by omega)) (fun _ => ?_)
    rw [yg_m40, nI_clamp (by omega), nI_clamp (by omega)]
    refine ⟨vp_in_nI (by omega) (by omega), vp_in_nI (by omega) (by omega), nm_r ?_ (nm_r (nI_1 i) h1)⟩
    have e := cp_s (d := sq) (o := 0) (k := i) (g := fun i => ap (40 * l + i))
    rw [Nat.zero_add] at e
    exact e
theorem yg_pb1 {post : SY → Prop} (mv rm sz jm : Int32) (bd od os sq ab ap az aj : Nat → Int32) {j : Bool} {l n : Nat} (hl : l < 2) (hn : n ≤ 40) (hz : az l = nI n) (hj : aj l = dr_bI j) (h : post (1 - mv, rm, nI n, dr_bI j, cp_ bd 0 32 (fun i => ab (32 * l + i)), od, os, cp_ sq 0 n (fun i => ap (40 * l + i)), ab, ap, az, aj)) : ∀ d i, i + d = 32 → wY_putBack_2 post (nI l) mv rm sz jm (d + 1) (nI i) (cp_ bd 0 i (fun i => ab (32 * l + i))) od os sq ab ap az aj := by
  intro d
  induction d with
  | zero =>
    intro i hi
    obtain rfl : i = 32 := by omega
    refine br_t (by decide) ⟨vp_in_nI hl (by omega), ?_⟩
    rw [nI_clamp (by omega), hz]
    refine nm_e ⟨n + 1, ?_⟩
    have k := yg_pb2 mv rm sz jm (cp_ bd 0 32 (fun i => ab (32 * l + i))) od os sq ab ap az aj hl hn hj h n 0 (by omega)
    rw [cp_0] at k
    exact k
  | succ d ih =>
    intro i hi
    have h1 := ih (i + 1) (by omega)
    refine br_f (nI_ge (b := 32) (by omega) (by decide)) ?_
    rw [yg_m32, nI_clamp (by omega), nI_clamp (by omega)]
    refine ⟨vp_in_nI (by omega) (by omega), vp_in_nI (by omega) (by omega), nm_r ?_ (nm_r (nI_1 i) h1)⟩
    have e := cp_s (d := bd) (o := 0) (k := i) (g := fun i => ab (32 * l + i))
    rw [Nat.zero_add] at e
    exact e
theorem yg_putBack {post : SY → Prop} (mv rm sz jm : Int32) (bd od os sq ab ap az aj : Nat → Int32) {j : Bool} {l n : Nat} (hl : l < 2) (hn : n ≤ 40) (hz : az l = nI n) (hj : aj l = dr_bI j) (h : post (1 - mv, rm, nI n, dr_bI j, cp_ bd 0 32 (fun i => ab (32 * l + i)), od, os, cp_ sq 0 n (fun i => ap (40 * l + i)), ab, ap, az, aj)) : wpY_putBack post (mv, rm, sz, jm, bd, od, os, sq, ab, ap, az, aj) (nI l) := by
  refine ⟨32 + 1, ?_⟩
  have k := yg_pb1 mv rm sz jm bd od os sq ab ap az aj hl hn hz hj h 32 0 (by omega)
  rw [cp_0] at k
  exact k
/-! what a move aside and back gives -/
def yg_F (ab ap az aj ab' ap' az' aj' : Nat → Int32) : Prop := (∀ i, i < 32 → ab' i = ab i) ∧ (∀ i, i < 40 → ap' i = ap i) ∧ az' 0 = az 0 ∧ aj' 0 = aj 0
theorem yg_mm (x : Int32) : 1 - (1 - x) = x := by grind
theorem yg_bd {j : Bool} {b ab : Nat → Int32} {p : List Nat} (l : Nat) (hV : tr_V j b p) (h : ∀ i, i < 32 → ab (32 * l + i) = b i) : cp_ (tr_ap j b p) 0 32 (fun i => ab (32 * l + i)) = b := cp_eq h (fun _ hi => tr_ap_hi hV hi)
def tr_c1 (b : Nat → Int32) (sd : Int32) : Int32 := nI (tr_ML b sd).length
def tr_c2 (b : Nat → Int32) (sd : Int32) : Int32 := tr_sm (fun p => tr_c1 (tr_ap (tr_mj b sd) b p) (1 - sd)) 0 (tr_ML b sd)
def tr_c3 (b : Nat → Int32) (sd : Int32) : Int32 := tr_sm (fun p => tr_c2 (tr_ap (tr_mj b sd) b p) (1 - sd)) 0 (tr_ML b sd)
theorem tr_E_sq {j : Bool} {b : Nat → Int32} {sd : Int32} {p : List Nat} {L : List (List Nat)} {on sz : Int32} {sq sq' : Nat → Int32} (h : tr_E j b sd (p :: L) on sz sq) (hq : ∀ i, i < p.length → sq' i = sq i) : tr_E j b sd (p :: L) on sz sq' := by
  rcases h with ⟨a, c⟩ | ⟨p1, rest, a, c, d, e, f, g, k⟩
  · exact absurd a (by simp)
  · obtain ⟨rfl, rfl⟩ := List.cons.inj a
    exact Or.inr ⟨p, L, rfl, c, d, e, tr_S_congr hq f, g, k⟩
theorem yg_tw {post : Int32 → SY → Prop} (mv rm jm : Int32) (bd od os : Nat → Int32) {j : Bool} (hb : dr_V bd) (hj : jm = dr_bI j) : ∀ (L : List (List Nat)) (x on sz : Int32) (sq ab ap az aj : Nat → Int32), tr_E j bd mv L on sz sq → (∀ sz' sq' ab' ap' az' aj', yg_F ab ap az aj ab' ap' az' aj' → post (tr_sm (fun p => tr_c1 (tr_ap j bd p) (1 - mv)) x L) (mv, rm, sz', jm, bd, od, os, sq', ab', ap', az', aj')) → wY_twice_7 post (L.length + 1) x on mv rm sz jm bd od os sq ab ap az aj := by
  subst hj
  intro L
  induction L with
  | nil =>
    intro x on sz sq ab ap az aj hE h
    rcases tr_E_on hE with ⟨_, rfl⟩ | ⟨z, _⟩
    · exact br_t rfl (h sz sq ab ap az aj ⟨fun _ _ => rfl, fun _ _ => rfl, rfl, rfl⟩)
    · exact absurd rfl z
  | cons p rest ih =>
    intro x on sz sq ab ap az aj hE h
    obtain ⟨hV, hS, hz, h2, rfl⟩ := tr_E_sz hE
    have hn := tr_V_len hV
    refine br_f (by decide) ?_
    subst hz
    refine yg_putAside mv rm 0 0 bd od os sq ab ap az aj (l := 1) (n := p.length) (j := j) (by omega) (by omega) ?_
    refine ye_carry mv rm 0 0 bd od os sq _ _ _ _ (j := j) hb hV hS ?_
    refine yf_moves (1 - mv) rm _ _ (tr_ap j bd p) od os sq _ _ _ _ (tr_ap_V hb) ?_
    intro sz' jm' sq'
    refine nm_e ?_
    refine yg_putBack (1 - mv) rm sz' jm' (tr_ap j bd p) od os sq' _ _ _ _ (l := 1) (n := p.length) (j := j) (by omega) (by omega) pk_us pk_us ?_
    have eb : cp_ (tr_ap j bd p) 0 32 (fun i => cp_ ab (32 * 1) 32 bd (32 * 1 + i)) = bd := yg_bd 1 hV (fun i hi => cp_in hi)
    rw [eb, yg_mm]
    refine yd_next mv rm _ 0 bd od os _ _ _ _ _ (j := j) hb (tr_E_sq hE (fun i hi => (cp_in0 hi).trans (cp_in hi))) ?_
    intro on' sz'' sq'' hE'
    refine ih _ on' sz'' sq'' _ _ _ _ hE' ?_
    intro sz3 sq3 ab3 ap3 az3 aj3 hF
    refine h sz3 sq3 ab3 ap3 az3 aj3 ?_
    obtain ⟨f1, f2, f3, f4⟩ := hF
    refine ⟨fun i hi => (f1 i hi).trans (cp_out (by omega)), fun i hi => (f2 i hi).trans (cp_out (by omega)), f3.trans (pk_un (by omega)), f4.trans (pk_un (by omega))⟩
theorem yg_twice {post : Int32 → SY → Prop} (mv rm sz jm : Int32) (bd od os sq ab ap az aj : Nat → Int32) (hb : dr_V bd) (h : ∀ sz' jm' sq' ab' ap' az' aj', yg_F ab ap az aj ab' ap' az' aj' → post (tr_c2 bd mv) (mv, rm, sz', jm', bd, od, os, sq', ab', ap', az', aj')) : wpY_twice post (mv, rm, sz, jm, bd, od, os, sq, ab, ap, az, aj) := by
  unfold wpY_twice
  dsimp only
  refine yd_first mv rm sz jm bd od os sq ab ap az aj hb ?_
  intro on sz' sq' hE
  exact ⟨(tr_ML bd mv).length + 1, yg_tw mv rm (dr_bI (tr_mj bd mv)) bd od os hb rfl (tr_ML bd mv) 0 on sz' sq' ab ap az aj hE (fun sz'' sq'' ab' ap' az' aj' hF => h sz'' _ sq'' ab' ap' az' aj' hF)⟩
def tr_cd (d : Int32) (b : Nat → Int32) (sd : Int32) : Int32 := if d = 2 then tr_c1 b sd else tr_c2 b sd
theorem yg_67 {post : Int32 → SY → Prop} {J : Int32 → Int32 → Int32 → Int32 → Int32 → Int32 → (Nat → Int32) → (Nat → Int32) → (Nat → Int32) → (Nat → Int32) → (Nat → Int32) → (Nat → Int32) → (Nat → Int32) → (Nat → Int32) → Prop} {d x z : Int32} (mv rm : Int32) (bd od os sq ab ap az aj : Nat → Int32) {j : Bool} {p : List Nat} {rest : List (List Nat)} (sz' jm' : Int32) (sq' ab' ap' az' aj' : Nat → Int32) (hb : dr_V bd) (hE : tr_E j bd mv (p :: rest) 1 (nI p.length) sq)
    (hF : yg_F (cp_ ab (32 * 0) 32 bd) (cp_ ap (40 * 0) p.length sq) (upd az 0 (nI p.length)) (upd aj 0 (dr_bI j)) ab' ap' az' aj')
    (h : ∀ on'' sz'' sq'', tr_E j bd mv rest on'' sz'' sq'' → J (z + x) on'' mv rm sz'' (dr_bI j) bd od os sq'' ab' ap' az' aj') :
    wY_plays_67 post J d x z (1 - mv) rm sz' jm' (tr_ap j bd p) od os sq' ab' ap' az' aj' := by
  obtain ⟨hV, hS, hz, h2, _⟩ := tr_E_sz hE
  have hn := tr_V_len hV
  obtain ⟨f1, f2, f3, f4⟩ := hF
  refine nm_e ?_
  refine yg_putBack (1 - mv) rm sz' jm' (tr_ap j bd p) od os sq' ab' ap' az' aj' (l := 0) (n := p.length) (j := j) (by omega) (by omega) (f3.trans pk_us) (f4.trans pk_us) ?_
  have eb : cp_ (tr_ap j bd p) 0 32 (fun i => ab' (32 * 0 + i)) = bd := yg_bd 0 hV (fun i hi => (f1 _ (by omega)).trans (cp_in hi))
  rw [eb, yg_mm]
  refine yd_next mv rm _ 0 bd od os _ _ _ _ _ (j := j) hb (tr_E_sq hE (fun i hi => (cp_in0 hi).trans ((f2 _ (by omega)).trans (cp_in hi)))) ?_
  intro on'' sz'' sq'' hE'
  exact h on'' sz'' sq'' hE'
theorem yg_pl {post : Int32 → SY → Prop} (mv rm jm : Int32) (bd od os : Nat → Int32) {d : Int32} {j : Bool} (hb : dr_V bd) (hj : jm = dr_bI j) : ∀ (L : List (List Nat)) (x on sz : Int32) (sq ab ap az aj : Nat → Int32), tr_E j bd mv L on sz sq → (∀ sz' sq' ab' ap' az' aj', post (tr_sm (fun p => tr_cd d (tr_ap j bd p) (1 - mv)) x L) (mv, rm, sz', jm, bd, od, os, sq', ab', ap', az', aj')) → wY_plays_36 post d (L.length + 1) x on mv rm sz jm bd od os sq ab ap az aj := by
  subst hj
  intro L
  induction L with
  | nil =>
    intro x on sz sq ab ap az aj hE h
    rcases tr_E_on hE with ⟨_, rfl⟩ | ⟨z, _⟩
    · exact br_t rfl (h sz sq ab ap az aj)
    · exact absurd rfl z
  | cons p rest ih =>
    intro x on sz sq ab ap az aj hE h
    obtain ⟨hV, hS, hz, h2, rfl⟩ := tr_E_sz hE
    have hn := tr_V_len hV
    refine br_f (by decide) ?_
    subst hz
    refine yg_putAside mv rm 0 0 bd od os sq ab ap az aj (l := 0) (n := p.length) (j := j) (by omega) (by omega) ?_
    refine ye_carry mv rm 0 0 bd od os sq _ _ _ _ (j := j) hb hV hS ?_
    refine br_c (fun hd => ?_) (fun hd => ?_)
    · refine yf_moves (1 - mv) rm _ _ (tr_ap j bd p) od os sq _ _ _ _ (tr_ap_V hb) ?_
      intro sz' jm' sq'
      refine yg_67 mv rm bd od os sq ab ap az aj sz' jm' sq' _ _ _ _ hb hE ⟨fun _ _ => rfl, fun _ _ => rfl, rfl, rfl⟩ ?_
      intro on'' sz'' sq'' hE'
      refine ih _ on'' sz'' sq'' _ _ _ _ hE' ?_
      intro sz3 sq3 ab3 ap3 az3 aj3
      have k := h sz3 sq3 ab3 ap3 az3 aj3
      simp only [tr_sm, tr_cd, hd, if_true] at k
      simp only [tr_cd, hd, if_true]
      exact k
    · refine yg_twice (1 - mv) rm _ _ (tr_ap j bd p) od os sq _ _ _ _ (tr_ap_V hb) ?_
      intro sz' jm' sq' ab' ap' az' aj' hF
      refine yg_67 mv rm bd od os sq ab ap az aj sz' jm' sq' ab' ap' az' aj' hb hE hF ?_
      intro on'' sz'' sq'' hE'
      refine ih _ on'' sz'' sq'' _ _ _ _ hE' ?_
      intro sz3 sq3 ab3 ap3 az3 aj3
      have k := h sz3 sq3 ab3 ap3 az3 aj3
      simp only [tr_sm, tr_cd, hd, if_false] at k
      simp only [tr_cd, hd, if_false]
      exact k
def tr_cc (d : Int32) (b : Nat → Int32) (sd : Int32) : Int32 := tr_sm (fun p => tr_cd d (tr_ap (tr_mj b sd) b p) (1 - sd)) 0 (tr_ML b sd)
theorem yg_plays {post : Int32 → SY → Prop} (mv rm sz jm : Int32) (bd od os sq ab ap az aj : Nat → Int32) {d : Int32} (hb : dr_V bd) (h0 : ¬ d < 0) (h3 : d ≤ 3) (h2 : 2 ≤ d) (h : ∀ sz' jm' sq' ab' ap' az' aj', post (tr_cc d bd mv) (mv, rm, sz', jm', bd, od, os, sq', ab', ap', az', aj')) : wpY_plays post (mv, rm, sz, jm, bd, od, os, sq, ab, ap, az, aj) d := by
  unfold wpY_plays
  dsimp only
  refine br_f h0 (br_t h3 (br_t h2 ?_))
  refine yd_first mv rm sz jm bd od os sq ab ap az aj hb ?_
  intro on sz' sq' hE
  exact ⟨(tr_ML bd mv).length + 1, yg_pl mv rm (dr_bI (tr_mj bd mv)) bd od os hb rfl (tr_ML bd mv) 0 on sz' sq' ab ap az aj hE (fun sz'' sq'' ab' ap' az' aj' => h sz'' _ sq'' ab' ap' az' aj')⟩
end
section
/-! the ways of the component against the squares of the reference; how many moves and rounds there are -/
def tr_cw (b : Nat → Int32) (p : List Nat) (w : Nat) : Bool :=
  match p with
  | [] => false
  | s :: q => (((b (ge_fa s w) == 0 || ge_fa s w == tr_l (s :: q)) && (dr_ow (b (ge_nr s w)) == 1 - dr_ow (b (tr_l (s :: q)))) && !((tr_cr (s :: q)).contains (ge_nr s w)))) && decide (ge_fa s w < 32)
theorem tr_ch_w {b : Nat → Int32} {s : Nat} {q : List Nat} (hs : s < 32) : tr_ch true b (s :: q) 0 = ((List.range' (ge_f (ge_k (b (tr_l (s :: q))))) (ge_e (ge_k (b (tr_l (s :: q)))) - ge_f (ge_k (b (tr_l (s :: q)))))).filter (tr_cw b (s :: q))).map (ge_fa s) := by
  have hk := ge_k3 (b (tr_l (s :: q)))
  have hfe := ge_fe _ hk
  have e : tr_can true b (s :: q) = fun t => (fun t => (b t == 0 || t == tr_l (s :: q)) && (dr_ow (b (ge_mid s t)) == 1 - dr_ow (b (tr_l (s :: q)))) && !((tr_cr (s :: q)).contains (ge_mid s t))) t && (fun t => ge_sl 2 s t && ge_ah (ge_k (b (tr_l (s :: q)))) s t) t := by
    funext t
    simp only [tr_can, if_true]
  unfold tr_ch
  rw [e, ← List.filter_filter, ge_list2 _ hk s hs, List.filter_map, List.filter_filter]
  congr 1
  apply List.filter_congr
  intro w hw
  rw [List.mem_range'_1] at hw
  simp only [tr_cw, Function.comp_apply]
  by_cases hf : ge_fa s w < 32
  · rw [(ge_midT s hs w (by omega) hf).2]
  · simp [hf]
theorem tr_ch_s {b : Nat → Int32} {s : Nat} (hs : s < 32) : tr_ch false b [s] 0 = ((List.range' (ge_f (ge_k (b s))) (ge_e (ge_k (b s)) - ge_f (ge_k (b s)))).filter (fun w => b (ge_nr s w) == 0 && decide (ge_nr s w < 32))).map (ge_nr s) := by
  have hk := ge_k3 (b s)
  have e : tr_can false b [s] = fun t => (fun t => b t == 0) t && (fun t => ge_sl 1 s t && ge_ah (ge_k (b s)) s t) t := by
    funext t
    simp [tr_can, tr_l]
  unfold tr_ch
  rw [e, ← List.filter_filter, ge_list1 _ hk s hs, List.filter_map, List.filter_filter]
  congr 1
def bo_op (c : List Nat) (s w : Nat) : Bool := decide (ge_fa s w < 32) && !c.contains (ge_nr s w)
def bo_su (g : Nat → Nat) (w k : Nat) : Nat := ((List.range' w k).map g).sum
def bo_lf : Nat → Nat → List Nat → Nat
  | 0, _, _ => 1
  | n + 1, s, c => max 1 (bo_su (fun w => if bo_op c s w = true then bo_lf n (ge_fa s w) (ge_nr s w :: c) else 0) 0 4)
def bo_po : Nat → Nat → List Nat → Nat
  | 0, _, _ => 0
  | n + 1, s, c => 5 + bo_su (fun w => if bo_op c s w = true then bo_po n (ge_fa s w) (ge_nr s w :: c) else 0) 0 4
theorem bo_lf16 : ∀ s, s < 32 → bo_lf 10 s [] ≤ 16 := by decide +kernel
theorem bo_po1 : ∀ s, s < 32 → bo_po 10 s [] ≤ 1000 := by decide +kernel
theorem bo_s0 (g : Nat → Nat) (w : Nat) : bo_su g w 0 = 0 := rfl
theorem bo_ss (g : Nat → Nat) (w k : Nat) : bo_su g w (k + 1) = g w + bo_su g (w + 1) k := by
  unfold bo_su
  rw [List.range'_succ, List.map_cons, List.sum_cons]
theorem bo_sub (g : Nat → Nat) {k : Nat} (hk : k < 3) : bo_su g (ge_f k) (ge_e k - ge_f k) ≤ bo_su g 0 4 := by
  have h4 : bo_su g 0 4 = g 0 + (g 1 + (g 2 + (g 3 + 0))) := rfl
  have h2 : bo_su g 2 2 = g 2 + (g 3 + 0) := rfl
  have h0 : bo_su g 0 2 = g 0 + (g 1 + 0) := rfl
  obtain rfl | rfl | rfl : k = 0 ∨ k = 1 ∨ k = 2 := by omega
  · exact Nat.le_refl _
  · show bo_su g 2 2 ≤ _
    omega
  · show bo_su g 0 2 ≤ _
    omega
theorem bo_fl (f : Nat → Bool) (g g' : Nat → Nat) : ∀ R : List Nat, (∀ w, w ∈ R → f w = true → g w ≤ g' w) → ((R.filter f).map g).sum ≤ (R.map g').sum := by
  intro R
  induction R with
  | nil => intro _; exact Nat.le_refl _
  | cons w R ih =>
    intro h
    have h1 := ih (fun x hx => h x (List.mem_cons_of_mem _ hx))
    rw [List.map_cons, List.sum_cons]
    cases hf : f w with
    | true =>
      have h2 := h w (by simp) hf
      rw [List.filter_cons_of_pos hf, List.map_cons, List.sum_cons]
      omega
    | false =>
      rw [List.filter_cons_of_neg (by rw [hf]; decide)]
      omega
theorem tr_cw_op {b : Nat → Int32} {s w : Nat} {q : List Nat} (h : tr_cw b (s :: q) w = true) : ge_fa s w < 32 ∧ (tr_cr (s :: q)).contains (ge_nr s w) = false ∧ bo_op (tr_cr (s :: q)) s w = true := by
  simp only [tr_cw, Bool.and_eq_true, Bool.not_eq_true', decide_eq_true_eq] at h
  refine ⟨h.2, h.1.2, ?_⟩
  unfold bo_op
  rw [h.1.2, decide_eq_true h.2]
  rfl
theorem bo_len {b : Nat → Int32} : ∀ n s (q : List Nat), s < 32 → (tr_lv true b n (s :: q)).length ≤ bo_lf n s (tr_cr (s :: q)) := by
  intro n
  induction n with
  | zero => intro s q _; exact Nat.le_refl _
  | succ n ih =>
    intro s q hs
    have hk := ge_k3 (b (tr_l (s :: q)))
    have hfe := ge_fe _ hk
    unfold tr_lv bo_lf
    by_cases hc : tr_ch true b (s :: q) 0 = []
    · rw [if_pos hc]
      exact Nat.le_max_left _ _
    · rw [if_neg hc, List.length_flatMap, tr_ch_w hs, List.map_map]
      refine Nat.le_trans ?_ (Nat.le_max_right _ _)
      refine Nat.le_trans (bo_fl _ _ (fun w => if bo_op (tr_cr (s :: q)) s w = true then bo_lf n (ge_fa s w) (ge_nr s w :: tr_cr (s :: q)) else 0) _ ?_) (bo_sub _ hk)
      intro w hw hcw
      rw [List.mem_range'_1] at hw
      obtain ⟨h1, h2, h3⟩ := tr_cw_op hcw
      rw [if_pos h3]
      have h4 := ih (ge_fa s w) (s :: q) h1
      rw [show tr_cr (ge_fa s w :: s :: q) = ge_nr s w :: tr_cr (s :: q) from by
        show ge_mid s (ge_fa s w) :: tr_cr (s :: q) = _
        rw [(ge_midT s hs w (by omega) h1).2]] at h4
      exact h4
theorem tr_at_st {b : Nat → Int32} {sd : Int32} {s : Nat} (h : dr_ow (b s) = sd) : tr_at false b sd s = (tr_ch false b [s] 0).map (fun t => [t, s]) := by
  unfold tr_at
  rw [if_pos h]
  by_cases hc : tr_ch false b [s] 0 = []
  · rw [if_pos hc, hc]; rfl
  · rw [if_neg hc, tr_lP_cons (by simp) hc]
    rw [show (fun t => tr_lP false b [t, s]) = (fun t => [[t, s]]) from by funext t; exact tr_lP_nil yc_st2]
    generalize tr_ch false b [s] 0 = l
    induction l with
    | nil => rfl
    | cons t l ih => rw [List.flatMap_cons, List.map_cons, ← ih]; rfl
theorem tr_at_len {j : Bool} {b : Nat → Int32} {sd : Int32} {s : Nat} (hs : s < 32) : (tr_at j b sd s).length ≤ 16 := by
  by_cases h : dr_ow (b s) = sd
  · cases j with
    | true =>
      unfold tr_at
      rw [if_pos h]
      split
      · simp
      · exact Nat.le_trans (bo_len 10 s [] hs) (bo_lf16 s hs)
    | false =>
      rw [tr_at_st h, List.length_map, tr_ch_s hs, List.length_map]
      refine Nat.le_trans (List.length_filter_le _ _) ?_
      rw [List.length_range']
      have := ge_fe _ (ge_k3 (b s))
      omega
  · unfold tr_at
    rw [if_neg h]
    simp
theorem tr_fr_len {j : Bool} {b : Nat → Int32} {sd : Int32} : ∀ d s, s + d = 32 → (tr_fr j b sd s).length ≤ 16 * d := by
  intro d
  induction d with
  | zero =>
    intro s hs
    rw [tr_fr_32 (by omega)]
    simp
  | succ d ih =>
    intro s hs
    have h1 := ih (s + 1) (by omega)
    have h2 := tr_at_len (j := j) (b := b) (sd := sd) (s := s) (by omega)
    rw [tr_fr_s (by omega), List.length_append]
    omega
/-! the set of squares jumped over -/
def mk_ : List Nat → Int32
  | t :: s :: q => mk_ (s :: q) ||| ((1 : Int32) <<< (nI (ge_mid s t) &&& 31))
  | _ => 0
theorem mk_1 : ∀ m, m < 32 → ∀ i, i < 32 → bt ((1 : Int32) <<< (nI m &&& 31)) i = decide (i = m) := by decide +kernel
theorem mk_bt : ∀ {p : List Nat}, (∀ x, x ∈ p → x < 32) → ∀ i, i < 32 → bt (mk_ p) i = (tr_cr p).contains i
  | [], _, i, _ => b_0 i
  | [_], _, i, _ => b_0 i
  | t :: s :: q, hb, i, hi => by
    have h1 := mk_bt (p := s :: q) (fun y hy => hb y (List.mem_cons_of_mem _ hy)) i hi
    have hm := ge_mid32 s (hb s (by simp)) t (hb t (by simp))
    show bt (mk_ (s :: q) ||| _) i = (ge_mid s t :: tr_cr (s :: q)).contains i
    rw [b_or, h1, mk_1 _ hm i hi, List.contains_cons, Bool.or_comm]
    congr 1
theorem mk_and {x : Int32} {m : Nat} (hm : m < 32) : (x &&& ((1 : Int32) <<< (nI m &&& 31))) = 0 ↔ bt x m = false := by
  constructor
  · intro h
    have h1 : bt (x &&& ((1 : Int32) <<< (nI m &&& 31))) m = false := by rw [h]; exact b_0 m
    rw [b_and, mk_1 m hm m hm] at h1
    simpa using h1
  · intro h
    apply b_ext
    intro i hi
    rw [b_and, mk_1 m hm i hi, b_0]
    by_cases e : i = m
    · rw [e, h]; rfl
    · simp [e]
theorem mk_del {x : Int32} {m : Nat} (hm : m < 32) (h : bt x m = false) : (x ||| ((1 : Int32) <<< (nI m &&& 31))) &&& (((1 : Int32) <<< (nI m &&& 31)) ^^^ (-1)) = x := by
  apply b_ext
  intro i hi
  rw [b_and, b_or, b_xor, mk_1 m hm i hi, b_m1 i hi]
  by_cases e : i = m
  · rw [e, h]; simp
  · simp [e]
theorem mk_ne {p : List Nat} (hb : ∀ x, x ∈ p → x < 32) (h2 : 2 ≤ p.length) : mk_ p ≠ 0 := by
  intro e
  match p, h2 with
  | t :: s :: q, _ =>
    have hm := ge_mid32 s (hb s (by simp)) t (hb t (by simp))
    have h := mk_bt hb _ hm
    rw [e, b_0] at h
    have h2 : (tr_cr (t :: s :: q)).contains (ge_mid s t) = true := by
      show (ge_mid s t :: tr_cr (s :: q)).contains (ge_mid s t) = true
      simp
    rw [h2] at h
    exact absurd h (by decide)
end
section
/-! the component: tables, canJump, addMove, the search -/
def xt_ti (n : Nat) : Int32 := if n < 32 then nI n else -1
def xt_T (ne fa : Nat → Int32) : Prop := ∀ s, s < 32 → ∀ w, w < 4 → ne (s * 4 + w) = xt_ti (ge_nr s w) ∧ fa (s * 4 + w) = xt_ti (ge_fa s w)
def xt_b (ce : Nat → Int32) (q : Nat) : Nat → Int32 := fun i => if i < 32 then ce (q * 32 + i) else 0
theorem xt_in {ce : Nat → Int32} {q i : Nat} (hi : i < 32) : xt_b ce q i = ce (q * 32 + i) := if_pos hi
theorem xt_t {n : Nat} (h : n < 32) : xt_ti n = nI n := if_pos h
theorem xt_f {n : Nat} (h : ¬ n < 32) : xt_ti n = -1 := if_neg h
theorem xt_ne {n : Nat} (h : n < 32) : ¬ nI n = -1 := (by decide +kernel : ∀ n, n < 32 → ¬ nI n = -1) n h
theorem xt_m32 (l i : Nat) : nI l * 32 + nI i = nI (l * 32 + i) := by
  rw [show nI l * (32 : Int32) = nI (l * 32) from pk_mul l 32, nI_add]
theorem xt_m4 (l i : Nat) : nI l * 4 + nI i = nI (l * 4 + i) := by
  rw [show nI l * (4 : Int32) = nI (l * 4) from pk_mul l 4, nI_add]
theorem xt_m512 (l i : Nat) : nI l * 512 + nI i = nI (l * 512 + i) := by
  rw [show nI l * (512 : Int32) = nI (l * 512) from pk_mul l 512, nI_add]
theorem xt_m10 (l i : Nat) : nI l * 10 + nI i = nI (l * 10 + i) := by
  rw [show nI l * (10 : Int32) = nI (l * 10) from pk_mul l 10, nI_add]
theorem xa_ow {post : Int32 → Prop} {x : Int32} (h : post (dr_ow x)) : wpX_ownerOf post x := by
  unfold dr_ow at h
  refine br_c (fun z => ?_) (fun z => br_c (fun z2 => ?_) (fun z2 => ?_))
  · rw [if_pos z] at h; exact h
  · rw [if_neg z, if_pos z2] at h; exact h
  · rw [if_neg z, if_neg z2] at h; exact h
theorem xa_canJump {post : Int32 → Prop} (mv pn pc : Int32) (ce ne fa li le ta pa tr nw pt : Nat → Int32) {q s w : Nat} {qq : List Nat} (hq : q < 3) (hT : xt_T ne fa) (hV : tr_V true (xt_b ce q) (s :: qq)) (hw : w < 4) (h0 : tr 0 = nI (tr_l (s :: qq))) (h : post (dr_bI (tr_cw (xt_b ce q) (s :: qq) w))) : wpX_canJump post (mv, pn, pc, ce, ne, fa, li, le, ta, pa, tr, nw, pt) (nI q) (nI (s * 4 + w)) (mk_ (s :: qq)) := by
  have hs := tr_V_hd hV
  have hl := tr_V_l hV
  have hB := tr_V_b hV
  obtain ⟨e1, e2⟩ := hT s hs w hw
  unfold wpX_canJump
  dsimp only
  rw [nI_clamp (by omega), e1, e2]
  refine ⟨vp_in_nI (by omega) (by omega), nm_e ⟨vp_in_nI (by omega) (by omega), nm_e ?_⟩⟩
  by_cases hf : ge_fa s w < 32
  · obtain ⟨hn, hm⟩ := ge_midT s hs w hw hf
    rw [xt_t hf, xt_t hn]
    refine br_f (xt_ne hf) ?_
    rw [mk_and hn, mk_bt hB _ hn, h0]
    cases hc : (tr_cr (s :: qq)).contains (ge_nr s w) with
    | true =>
      have hcm : ge_nr s w ∈ tr_cr (s :: qq) := by simpa using hc
      have e : tr_cw (xt_b ce q) (s :: qq) w = false := by simp [tr_cw, hcm]
      rw [e] at h
      exact br_f (by decide) h
    | false =>
      have hcm : ¬ ge_nr s w ∈ tr_cr (s :: qq) := by simpa using hc
      refine br_t rfl (nm_e ?_)
      rw [xt_m32, xt_m32, xt_m32, nI_clamp (by omega), nI_clamp (by omega), nI_clamp (by omega)]
      refine ⟨vp_in_nI (by omega) (by omega), xa_ow ⟨vp_in_nI (by omega) (by omega), xa_ow ?_⟩⟩
      rw [← xt_in (ce := ce) (q := q) hl, ← xt_in (ce := ce) (q := q) hn, ← xt_in (ce := ce) (q := q) hf]
      refine br_c (fun z => ?_) (fun z => ?_)
      · refine pk_eq (ge_fa s w) (tr_l (s :: qq)) (fun z2 => ?_) (fun z2 => ⟨vp_in_nI (by omega) (by omega), br_c (fun z3 => ?_) (fun z3 => ?_)⟩)
        · have e : tr_cw (xt_b ce q) (s :: qq) w = true := by simp [tr_cw, hcm, z, z2, hl]
          rw [e] at h
          exact h
        · have e : tr_cw (xt_b ce q) (s :: qq) w = true := by simp [tr_cw, hcm, z, z3, hf]
          rw [e] at h
          exact h
        · have e : tr_cw (xt_b ce q) (s :: qq) w = false := by simp [tr_cw, z2, z3]
          rw [e] at h
          exact h
      · have e : tr_cw (xt_b ce q) (s :: qq) w = false := by simp [tr_cw, z]
        rw [e] at h
        exact h
  · have e : tr_cw (xt_b ce q) (s :: qq) w = false := by simp [tr_cw, hf]
    rw [e] at h
    rw [xt_f hf]
    exact br_t rfl h
theorem xa_am {post : SX → Prop} (mv pn pc : Int32) (ce ne fa li le ta pa tr nw pt : Nat → Int32) {q n m c : Nat} (hq : q < 3) (hn : n ≤ 10) (hm : m < 1536) (hc : li q = nI c) (h : post (mv, pn, pc, ce, ne, fa, upd li q (nI (c + 1)), le, ta, cp_ pa (m * 10) n tr, tr, nw, pt)) : ∀ d i, i + d = n → wX_addMove_46 post (nI q) (nI n) (nI m) mv pn pc (d + 1) (nI i) ce ne fa li le ta (cp_ pa (m * 10) i tr) tr nw pt := by
  intro d
  induction d with
  | zero =>
    intro i hi
    obtain rfl : i = n := by omega
    refine pk_le i i (fun _ => ⟨vp_in_nI hq (by omega), vp_in_nI hq (by omega), ?_⟩) (fun z => absurd z (by omega))
    rw [nI_clamp (by omega), hc, nI_1]
    exact nm_e h
  | succ d ih =>
    intro i hi
    have h1 := ih (i + 1) (by omega)
    refine pk_le n i (fun z => absurd z (by omega)) (fun _ => ⟨vp_in_nI (by omega) (by omega), ?_⟩)
    rw [xt_m10, nI_clamp (by omega), nI_clamp (by omega)]
    exact ⟨vp_in_nI (by omega) (by omega), nm_r cp_s (nm_r (nI_1 i) h1)⟩
theorem xa_addMove {post : SX → Prop} (mv pn pc : Int32) (ce ne fa li le ta pa tr nw pt : Nat → Int32) {q n c : Nat} {x : Int32} (hq : q < 3) (hn : n ≤ 10) (hc : li q = nI c) (hc5 : c < 512) (h : post (mv, pn, pc, ce, ne, fa, upd li q (nI (c + 1)), upd le (q * 512 + c) (nI n), upd ta (q * 512 + c) x, cp_ pa ((q * 512 + c) * 10) n tr, tr, nw, pt)) : wpX_addMove post (mv, pn, pc, ce, ne, fa, li, le, ta, pa, tr, nw, pt) (nI q) (nI n) x := by
  unfold wpX_addMove
  dsimp only
  rw [nI_clamp (show q < 2 ^ 31 by omega), hc, xt_m512]
  refine ⟨vp_in_nI hq (by omega), pk_lt c 512 (fun _ => ⟨vp_in_nI hq (by omega), nm_e ?_⟩) (fun z => absurd z (by omega))⟩
  rw [nI_clamp (by omega)]
  refine ⟨vp_in_nI (by omega) (by omega), nm_e ⟨vp_in_nI (by omega) (by omega), nm_e ⟨n + 1, ?_⟩⟩⟩
  have k := xa_am mv pn pc ce ne fa li (upd le (q * 512 + c) (nI n)) (upd ta (q * 512 + c) x) pa tr nw pt (m := q * 512 + c) hq hn (by omega) hc h n 0 (by omega)
  rw [cp_0] at k
  exact k
/-! the list as it stands in the arrays -/
def xl_L (q : Nat) (j : Bool) (L : List (List Nat)) (le ta pa : Nat → Int32) : Prop := ∀ k p, L[k]? = some p → le (q * 512 + k) = nI p.length ∧ ta (q * 512 + k) = (if j = true then mk_ p else 0) ∧ tr_S (fun i => pa ((q * 512 + k) * 10 + i)) p ∧ p.length ≤ 10
def xl_R (q : Nat) (j : Bool) (L : List (List Nat)) (li0 le0 ta0 pa0 li le ta pa : Nat → Int32) : Prop :=
  li q = nI L.length ∧ L.length ≤ 512 ∧ xl_L q j L le ta pa ∧ (∀ i, i ≠ q → li i = li0 i) ∧ (∀ i, i < q * 512 ∨ q * 512 + 512 ≤ i → le i = le0 i ∧ ta i = ta0 i) ∧ (∀ i, i < q * 5120 ∨ q * 5120 + 5120 ≤ i → pa i = pa0 i)
theorem xl_add {q : Nat} {j : Bool} {L : List (List Nat)} {li0 le0 ta0 pa0 li le ta pa tr : Nat → Int32} {p : List Nat} {x : Int32} (h : xl_R q j L li0 le0 ta0 pa0 li le ta pa) (hc : L.length < 512) (hp : p.length ≤ 10) (hS : tr_S tr p) (hx : x = if j = true then mk_ p else 0) :
    xl_R q j (L ++ [p]) li0 le0 ta0 pa0 (upd li q (nI (L.length + 1))) (upd le (q * 512 + L.length) (nI p.length)) (upd ta (q * 512 + L.length) x) (cp_ pa ((q * 512 + L.length) * 10) p.length tr) := by
  obtain ⟨h1, h2, h3, h4, h5, h6⟩ := h
  refine ⟨by rw [pk_us, List.length_append]; rfl, by simp only [List.length_append, List.length_cons, List.length_nil]; omega, ?_, ?_, ?_, ?_⟩
  · intro k p' e
    rcases Nat.lt_or_ge k L.length with hk | hk
    · rw [List.getElem?_append_left hk] at e
      obtain ⟨g1, g2, g3, g4⟩ := h3 k p' e
      refine ⟨(pk_un (by omega)).trans g1, (pk_un (by omega)).trans g2, tr_S_congr (fun i hi => ?_) g3, g4⟩
      exact cp_out (by omega)
    · rw [List.getElem?_append_right hk] at e
      obtain rfl : k = L.length := by
        rcases Nat.lt_or_ge L.length k with hk2 | hk2
        · rw [List.getElem?_eq_none (by simp only [List.length_cons, List.length_nil]; omega)] at e
          exact absurd e (by simp)
        · omega
      rw [Nat.sub_self] at e
      obtain rfl : p = p' := by simpa using e
      exact ⟨pk_us, pk_us.trans hx, tr_S_congr (fun i hi => cp_in hi) hS, hp⟩
  · intro i hi
    exact (pk_un hi).trans (h4 i hi)
  · intro i hi
    obtain ⟨g1, g2⟩ := h5 i hi
    exact ⟨(pk_un (by omega)).trans g1, (pk_un (by omega)).trans g2⟩
  · intro i hi
    exact (cp_out (by omega)).trans (h6 i hi)
/-! the search through the jumps of one square -/
def xj_N (nw : Nat → Int32) : List Nat → Prop
  | t :: s :: q => (∃ w, w < 4 ∧ nw q.length = nI (w + 1) ∧ ge_fa s w = t) ∧ xj_N nw (s :: q)
  | _ => True
theorem xj_N_congr {nw nw' : Nat → Int32} : ∀ {p : List Nat}, (∀ i, i + 1 < p.length → nw' i = nw i) → xj_N nw p → xj_N nw' p
  | [], _, _ => True.intro
  | [_], _, _ => True.intro
  | t :: s :: q, hn, h => by
    simp only [List.length_cons] at hn
    obtain ⟨w, hw, e1, e2⟩ := h.1
    exact ⟨⟨w, hw, (hn _ (by omega)).trans e1, e2⟩, xj_N_congr (p := s :: q) (fun i hi => hn i (by simp only [List.length_cons] at hi; omega)) h.2⟩
def xj_c (b : Nat → Int32) (s : Nat) (qq : List Nat) (w kk : Nat) : List Nat := ((List.range' w kk).filter (tr_cw b (s :: qq))).map (ge_fa s)
def xj_o (b : Nat → Int32) (s : Nat) (qq : List Nat) (w kk : Nat) (ja : Bool) : List (List Nat) :=
  if ja = true ∧ xj_c b s qq w kk = [] then (if qq = [] then [] else [s :: qq]) else (xj_c b s qq w kk).flatMap (fun t => tr_lP true b (t :: s :: qq))
def bo_t (n s : Nat) (c : List Nat) (w : Nat) : Nat := if bo_op c s w = true then bo_po n (ge_fa s w) (ge_nr s w :: c) else 0
theorem xj_c_f {b : Nat → Int32} {s : Nat} {qq : List Nat} {w kk : Nat} (h : tr_cw b (s :: qq) w = false) : xj_c b s qq w (kk + 1) = xj_c b s qq (w + 1) kk := by
  unfold xj_c
  rw [List.range'_succ, List.filter_cons_of_neg (by rw [h]; decide)]
theorem xj_c_t {b : Nat → Int32} {s : Nat} {qq : List Nat} {w kk : Nat} (h : tr_cw b (s :: qq) w = true) : xj_c b s qq w (kk + 1) = ge_fa s w :: xj_c b s qq (w + 1) kk := by
  unfold xj_c
  rw [List.range'_succ, List.filter_cons_of_pos h, List.map_cons]
theorem xj_o_f {b : Nat → Int32} {s : Nat} {qq : List Nat} {w kk : Nat} {ja : Bool} (h : tr_cw b (s :: qq) w = false) : xj_o b s qq w (kk + 1) ja = xj_o b s qq (w + 1) kk ja := by
  unfold xj_o
  rw [xj_c_f h]
theorem xj_o_t {b : Nat → Int32} {s : Nat} {qq : List Nat} {w kk : Nat} {ja : Bool} (h : tr_cw b (s :: qq) w = true) : xj_o b s qq w (kk + 1) ja = tr_lP true b (ge_fa s w :: s :: qq) ++ xj_o b s qq (w + 1) kk false := by
  unfold xj_o
  rw [xj_c_t h, if_neg (by simp), if_neg (by simp), List.flatMap_cons]
theorem xj_o_lP {b : Nat → Int32} {s : Nat} {qq : List Nat} (hV : tr_V true b (s :: qq)) (hq : qq ≠ []) : xj_o b s qq (ge_f (ge_k (b (tr_l (s :: qq))))) (ge_e (ge_k (b (tr_l (s :: qq)))) - ge_f (ge_k (b (tr_l (s :: qq))))) true = tr_lP true b (s :: qq) := by
  have e : xj_c b s qq (ge_f (ge_k (b (tr_l (s :: qq))))) (ge_e (ge_k (b (tr_l (s :: qq)))) - ge_f (ge_k (b (tr_l (s :: qq))))) = tr_ch true b (s :: qq) 0 := (tr_ch_w (tr_V_hd hV)).symm
  unfold xj_o
  rw [e]
  by_cases hc : tr_ch true b (s :: qq) 0 = []
  · rw [if_pos ⟨rfl, hc⟩, if_neg hq, tr_lP_nil hc]
  · rw [if_neg (fun z => hc z.2), tr_lP_cons (tr_V_len hV) hc]
theorem xj_o_at {b : Nat → Int32} {s : Nat} {sd : Int32} (hs : s < 32) (h : dr_ow (b s) = sd) : xj_o b s [] (ge_f (ge_k (b s))) (ge_e (ge_k (b s)) - ge_f (ge_k (b s))) true = tr_at true b sd s := by
  have e : xj_c b s [] (ge_f (ge_k (b s))) (ge_e (ge_k (b s)) - ge_f (ge_k (b s))) = tr_ch true b [s] 0 := (tr_ch_w hs).symm
  unfold xj_o tr_at
  rw [e, if_pos h]
  by_cases hc : tr_ch true b [s] 0 = []
  · rw [if_pos ⟨rfl, hc⟩, if_pos rfl, if_pos hc]
  · rw [if_neg (fun z => hc z.2), if_neg hc, tr_lP_cons (by simp) hc]
theorem xj_cw_can {b : Nat → Int32} {s w : Nat} {qq : List Nat} (hV : tr_V true b (s :: qq)) (hf : ge_f (ge_k (b (tr_l (s :: qq)))) ≤ w) (he : w < ge_e (ge_k (b (tr_l (s :: qq))))) (h : tr_cw b (s :: qq) w = true) : tr_V true b (ge_fa s w :: s :: qq) := by
  have hm : ge_fa s w ∈ tr_ch true b (s :: qq) 0 := by
    rw [tr_ch_w (tr_V_hd hV), List.mem_map]
    exact ⟨w, List.mem_filter.mpr ⟨by rw [List.mem_range'_1]; omega, h⟩, rfl⟩
  obtain ⟨_, h1, h2⟩ := tr_ch_mem hm
  exact ⟨hV, h1, h2⟩
end
section
/-! the component: listJumps -/
def xj_P (post : SX → Prop) (mv pn pc : Int32) (ce ne fa pt li0 le0 ta0 pa0 : Nat → Int32) (q f e : Nat) (b : Nat → Int32) (n s : Nat) (qq : List Nat) : Prop :=
  ∀ (kk w : Nat) (ja : Bool) (r fu : Nat) (tr nw li le ta pa : Nat → Int32) (L : List (List Nat)), w + kk = e → f ≤ w → tr_S tr (s :: qq) → xj_N nw (s :: qq) → nw qq.length = nI w → xl_R q true L li0 le0 ta0 pa0 li le ta pa → (L ++ xj_o b s qq w kk ja).length ≤ 512 → r + (kk + 1 + bo_su (bo_t n s (tr_cr (s :: qq))) w kk) ≤ 1000000 → fu + r = 1000001 →
  (∀ (r' fu' : Nat) (tr' nw' li' le' ta' pa' : Nat → Int32), r' ≤ r + (kk + 1 + bo_su (bo_t n s (tr_cr (s :: qq))) w kk) → fu' + r' = 1000001 → tr_S tr' qq → (∀ i, i < qq.length → nw' i = nw i) → xl_R q true (L ++ xj_o b s qq w kk ja) li0 le0 ta0 pa0 li' le' ta' pa' → wX_listJumps_51 post (nI q) (nI f) (nI e) fu' (nI qq.length + (-1)) (mk_ qq) 0 (nI r') mv pn pc ce ne fa li' le' ta' pa' tr' nw' pt) →
  wX_listJumps_51 post (nI q) (nI f) (nI e) fu (nI qq.length) (mk_ (s :: qq)) (dr_bI ja) (nI r) mv pn pc ce ne fa li le ta pa tr nw pt
theorem xj_pop {post : SX → Prop} {J : Int32 → Int32 → Int32 → Int32 → Int32 → Int32 → Int32 → (Nat → Int32) → (Nat → Int32) → (Nat → Int32) → (Nat → Int32) → (Nat → Int32) → (Nat → Int32) → (Nat → Int32) → (Nat → Int32) → (Nat → Int32) → (Nat → Int32) → Prop} {x1 x4 x5 : Int32} (mv pn pc : Int32) (ce ne fa li le ta pa tr nw pt : Nat → Int32) {b : Nat → Int32} {s r : Nat} {qq : List Nat} (hT : xt_T ne fa) (hV : tr_V true b (s :: qq)) (hS : tr_S tr (s :: qq)) (hN : xj_N nw (s :: qq)) (h : J (nI qq.length + (-1)) (mk_ qq) 0 (nI (r + 1)) mv pn pc ce ne fa li le ta pa tr nw pt) : wX_listJumps_100 post J x1 x4 x5 (nI qq.length) (mk_ (s :: qq)) (nI r) mv pn pc ce ne fa li le ta pa tr nw pt := by
  cases qq with
  | nil => exact nm_e (br_t (show nI 0 + (-1) < 0 by decide) (nm_r (nI_1 r) h))
  | cons s' q =>
    have hn := tr_V_len hV
    simp only [List.length_cons] at hn
    have e : nI (s' :: q).length + (-1) = nI q.length := pk_m1 _
    obtain ⟨w, hw, e1, e2⟩ := hN.1
    have hs' := tr_V_hd hV.1
    have hs := tr_V_hd hV
    obtain ⟨g1, g2⟩ := ge_midT s' hs' w hw (by omega)
    rw [e2] at g2
    have e3 : tr (nI q.length).toNatClampNeg = nI s' := by rw [nI_clamp (by omega)]; exact hS.2.1
    have e4 : nw (nI q.length).toNatClampNeg = nI (w + 1) := by rw [nI_clamp (by omega)]; exact e1
    have e5 : nI s' * 4 + nI (w + 1) - 1 = nI (s' * 4 + w) := by rw [xt_m4]; exact nI_pred _
    have e6 : ne (nI (s' * 4 + w)).toNatClampNeg = nI (ge_mid s' s) := by rw [nI_clamp (by omega), (hT s' hs' w hw).1, xt_t g1, g2]
    have hm := ge_mid32 s' hs' s hs
    have e7 : mk_ (s :: s' :: q) &&& (((1 : Int32) <<< (nI (ge_mid s' s) &&& 31)) ^^^ (-1)) = mk_ (s' :: q) := mk_del hm (by rw [mk_bt (tr_V_b hV.1) _ hm]; exact (tr_can_geo hV.2.2).2)
    unfold wX_listJumps_100
    rw [e]
    rw [e] at h
    refine nm_e (br_f (nI_pos (by omega)) ⟨vp_in_nI (by omega) (by omega), vp_in_nI (by omega) (by omega), ?_⟩)
    rw [e3, e4, e5, e6, e7]
    exact ⟨vp_in_nI (by omega) (by omega), nm_e (nm_r (nI_1 r) h)⟩
theorem xj_in {post : SX → Prop} {mv pn pc : Int32} {ce ne fa pt li0 le0 ta0 pa0 : Nat → Int32} {q f e : Nat} {n s : Nat} {qq : List Nat} (hq : q < 3) (hT : xt_T ne fa) (hV : tr_V true (xt_b ce q) (s :: qq)) (hf : f = ge_f (ge_k (xt_b ce q (tr_l (s :: qq))))) (he : e = ge_e (ge_k (xt_b ce q (tr_l (s :: qq))))) (hlen : (s :: qq).length + n = 10)
    (hch : ∀ w, f ≤ w → w < e → tr_cw (xt_b ce q) (s :: qq) w = true → ∃ n', n = n' + 1 ∧ xj_P post mv pn pc ce ne fa pt li0 le0 ta0 pa0 q f e (xt_b ce q) n' (ge_fa s w) (s :: qq)) : xj_P post mv pn pc ce ne fa pt li0 le0 ta0 pa0 q f e (xt_b ce q) n s qq := by
  have hk := ge_k3 (xt_b ce q (tr_l (s :: qq)))
  have hfe := ge_fe _ hk
  rw [← hf, ← he] at hfe
  have hs := tr_V_hd hV
  have hB := tr_V_b hV
  simp only [List.length_cons] at hlen
  intro kk
  induction kk with
  | zero =>
    intro w ja r fu tr nw li le ta pa L hw hfw hS hN hnw hR hL hr hfu hK
    obtain ⟨m, rfl⟩ : ∃ m, fu = m + 1 := ⟨fu - 1, by omega⟩
    refine br_f (nI_ge (b := 1000000) (by omega) (by decide)) (br_f (nI_pos (by omega)) ⟨vp_in_nI (by omega) (by omega), nm_r (e' := nI w) (by rw [nI_clamp (by omega)]; exact hnw) ?_⟩)
    refine pk_lt w e (fun z => absurd z (by omega)) (fun _ => ?_)
    cases ja with
    | false =>
      refine br_t rfl (xj_pop mv pn pc ce ne fa li le ta pa tr nw pt hT hV hS hN ?_)
      refine hK (r + 1) m tr nw li le ta pa (by omega) (by omega) hS.2 (fun _ _ => rfl) ?_
      rw [show xj_o (xt_b ce q) s qq w 0 false = [] from rfl, List.append_nil]
      exact hR
    | true =>
      refine br_f (by decide) ?_
      by_cases hqq : qq = []
      · subst hqq
        refine br_t (show nI 0 ≤ 0 by decide) (xj_pop mv pn pc ce ne fa li le ta pa tr nw pt hT hV hS hN ?_)
        refine hK (r + 1) m tr nw li le ta pa (by omega) (by omega) hS.2 (fun _ _ => rfl) ?_
        rw [show xj_o (xt_b ce q) s [] w 0 true = [] from rfl, List.append_nil]
        exact hR
      · have hl : 0 < qq.length := List.length_pos_iff.mpr hqq
        have eo : xj_o (xt_b ce q) s qq w 0 true = [s :: qq] := by
          unfold xj_o
          rw [if_pos ⟨rfl, rfl⟩, if_neg hqq]
        rw [eo] at hL hK
        simp only [List.length_append, List.length_cons, List.length_nil] at hL
        refine br_f (nI_nle hl (by omega)) ?_
        rw [nI_1 qq.length]
        refine xa_addMove mv pn pc ce ne fa li le ta pa tr nw pt hq (by omega) hR.1 (by omega) ?_
        refine xj_pop mv pn pc ce ne fa _ _ _ _ tr nw pt hT hV hS hN ?_
        refine hK (r + 1) m tr nw _ _ _ _ (by omega) (by omega) hS.2 (fun _ _ => rfl) ?_
        exact xl_add hR (by omega) (by simp only [List.length_cons]; omega) hS rfl
  | succ kk ih =>
    intro w ja r fu tr nw li le ta pa L hw hfw hS hN hnw hR hL hr hfu hK
    obtain ⟨m, rfl⟩ : ∃ m, fu = m + 1 := ⟨fu - 1, by omega⟩
    rw [bo_ss] at hr hK
    have hN1 : xj_N (upd nw qq.length (nI (w + 1))) (s :: qq) := xj_N_congr (fun i hi => pk_un (by simp only [List.length_cons] at hi; omega)) hN
    refine br_f (nI_ge (b := 1000000) (by omega) (by decide)) (br_f (nI_pos (by omega)) ⟨vp_in_nI (by omega) (by omega), nm_r (e' := nI w) (by rw [nI_clamp (by omega)]; exact hnw) ?_⟩)
    refine pk_lt w e (fun _ => ⟨vp_in_nI (by omega) (by omega), nm_r (e' := nI (s * 4 + w)) (by rw [nI_clamp (by omega), hS.1, xt_m4]) ⟨vp_in_nI (by omega) (by omega), nm_r (e' := upd nw qq.length (nI (w + 1))) (by rw [nI_clamp (by omega), nI_1]) ?_⟩⟩) (fun z => absurd z (by omega))
    have skip : tr_cw (xt_b ce q) (s :: qq) w = false → wX_listJumps_51 post (nI q) (nI f) (nI e) m (nI qq.length) (mk_ (s :: qq)) (dr_bI ja) (nI (r + 1)) mv pn pc ce ne fa li le ta pa tr (upd nw qq.length (nI (w + 1))) pt := by
      intro hcw
      rw [xj_o_f hcw] at hL hK
      refine ih (w + 1) ja (r + 1) m tr _ li le ta pa L (by omega) (by omega) hS hN1 pk_us hR hL (by omega) (by omega) ?_
      intro r' fu' tr' nw' li' le' ta' pa' k1 k2 k3 k4 k5
      exact hK r' fu' tr' nw' li' le' ta' pa' (by omega) k2 k3 (fun i hi => (k4 i hi).trans (pk_un (by omega))) k5
    refine pk_le 10 (qq.length + 1) (fun z => ?_) (fun z => ?_) rfl (nI_1 _)
    · refine nm_r (nI_1 r) (skip ?_)
      cases hcw : tr_cw (xt_b ce q) (s :: qq) w with
      | false => rfl
      | true =>
        obtain ⟨n', hn', _⟩ := hch w hfw (by omega) hcw
        omega
    · refine xa_canJump mv pn pc ce ne fa li le ta pa tr _ pt hq hT hV (by omega) (tr_S_0 (by simp) hS) ?_
      cases hcw : tr_cw (xt_b ce q) (s :: qq) w with
      | false => exact br_t rfl (nm_r (nI_1 r) (skip hcw))
      | true =>
        obtain ⟨n', rfl, hP⟩ := hch w hfw (by omega) hcw
        obtain ⟨c1, c2, c3⟩ := tr_cw_op hcw
        obtain ⟨g1, g2⟩ := ge_midT s hs w (by omega) c1
        have hV2 : tr_V true (xt_b ce q) (ge_fa s w :: s :: qq) := xj_cw_can hV (by omega) (by omega) hcw
        have hS2 : tr_S (upd tr (qq.length + 1) (nI (ge_fa s w))) (ge_fa s w :: s :: qq) := tr_S_cons hS
        have ecr : tr_cr (ge_fa s w :: s :: qq) = ge_nr s w :: tr_cr (s :: qq) := by
          show ge_mid s (ge_fa s w) :: tr_cr (s :: qq) = _
          rw [g2]
        have ebt : bo_t (n' + 1) s (tr_cr (s :: qq)) w = 5 + bo_su (bo_t n' (ge_fa s w) (tr_cr (ge_fa s w :: s :: qq))) 0 4 := by
          unfold bo_t
          rw [if_pos c3, ecr]
          rfl
        have ecost : e - f + 1 + bo_su (bo_t n' (ge_fa s w) (tr_cr (ge_fa s w :: s :: qq))) f (e - f) ≤ bo_t (n' + 1) s (tr_cr (s :: qq)) w := by
          have := bo_sub (bo_t n' (ge_fa s w) (tr_cr (ge_fa s w :: s :: qq))) hk
          rw [← hf, ← he] at this
          omega
        have hl2 : tr_l (ge_fa s w :: s :: qq) = tr_l (s :: qq) := rfl
        have elP : xj_o (xt_b ce q) (ge_fa s w) (s :: qq) f (e - f) true = tr_lP true (xt_b ce q) (ge_fa s w :: s :: qq) := by
          have := xj_o_lP hV2 (by simp)
          rw [hl2, ← hf, ← he] at this
          exact this
        rw [xj_o_t hcw, ← elP, ← List.append_assoc] at hL hK
        have hx7 : mk_ (s :: qq) ||| ((1 : Int32) <<< (ne (nI (s * 4 + w)).toNatClampNeg &&& 31)) = mk_ (ge_fa s w :: s :: qq) := by
          rw [nI_clamp (by omega), (hT s hs w (by omega)).1, xt_t g1]
          show _ = mk_ (s :: qq) ||| ((1 : Int32) <<< (nI (ge_mid s (ge_fa s w)) &&& 31))
          rw [g2]
        have hfar : fa (nI (s * 4 + w)).toNatClampNeg = nI (ge_fa s w) := by
          rw [nI_clamp (by omega), (hT s hs w (by omega)).2, xt_t c1]
        refine br_f (by decide) ⟨vp_in_nI (by omega) (by omega), nm_r hx7 (nm_r (nI_1 _) ⟨vp_in_nI (by omega) (by omega), vp_in_nI (by omega) (by omega), nm_r (e' := upd tr (qq.length + 1) (nI (ge_fa s w))) (by rw [hfar, nI_clamp (by omega)]) ⟨vp_in_nI (by omega) (by omega), nm_r (e' := upd (upd nw qq.length (nI (w + 1))) (qq.length + 1) (nI f)) (by rw [nI_clamp (by omega)]) (nm_r (nI_1 r) ?_)⟩⟩)⟩
        refine hP (e - f) f true (r + 1) m _ _ li le ta pa L (by omega) (Nat.le_refl _) hS2 ?_ pk_us hR (by rw [List.length_append] at hL; omega) (by omega) (by omega) ?_
        · refine ⟨⟨w, by omega, (pk_un (by omega)).trans pk_us, rfl⟩, ?_⟩
          exact xj_N_congr (fun i hi => pk_un (by simp only [List.length_cons] at hi; omega)) hN1
        · intro r' fu' tr' nw' li' le' ta' pa' k1 k2 k3 k4 k5
          rw [show nI (s :: qq).length + (-1) = nI qq.length from pk_m1 _]
          have k6 : ∀ i, i < qq.length → nw' i = nw i := fun i hi => (k4 i (by simp only [List.length_cons]; omega)).trans ((pk_un (by omega)).trans (pk_un (by omega)))
          have k7 : nw' qq.length = nI (w + 1) := (k4 _ (by simp only [List.length_cons]; omega)).trans ((pk_un (by omega)).trans pk_us)
          refine ih (w + 1) false r' fu' tr' nw' li' le' ta' pa' _ (by omega) (by omega) k3 (xj_N_congr (fun i hi => k6 i (by simp only [List.length_cons] at hi; omega)) hN) k7 k5 hL (by omega) k2 ?_
          intro r2 fu2 tr2 nw2 li2 le2 ta2 pa2 l1 l2 l3 l4 l5
          exact hK r2 fu2 tr2 nw2 li2 le2 ta2 pa2 (by omega) l2 l3 (fun i hi => (l4 i hi).trans (k6 i hi)) l5
theorem xj_all {post : SX → Prop} {mv pn pc : Int32} {ce ne fa pt li0 le0 ta0 pa0 : Nat → Int32} {q f e : Nat} (hq : q < 3) (hT : xt_T ne fa) : ∀ n s (qq : List Nat), tr_V true (xt_b ce q) (s :: qq) → f = ge_f (ge_k (xt_b ce q (tr_l (s :: qq)))) → e = ge_e (ge_k (xt_b ce q (tr_l (s :: qq)))) → (s :: qq).length + n = 10 → xj_P post mv pn pc ce ne fa pt li0 le0 ta0 pa0 q f e (xt_b ce q) n s qq := by
  intro n
  induction n with
  | zero =>
    intro s qq hV hf he hlen
    refine xj_in hq hT hV hf he hlen ?_
    intro w hw1 hw2 hcw
    have hV2 := xj_cw_can hV (by omega) (by omega) hcw
    have := tr_V_len hV2
    simp only [List.length_cons] at this hlen
    omega
  | succ n ih =>
    intro s qq hV hf he hlen
    refine xj_in hq hT hV hf he hlen ?_
    intro w hw1 hw2 hcw
    have hV2 := xj_cw_can hV (by omega) (by omega) hcw
    exact ⟨n, rfl, ih _ _ hV2 hf he (by simp only [List.length_cons] at hlen ⊢; omega)⟩
end
section
/-! the component: listJumps, listSteps, listMoves -/
theorem xb_fw {post : Int32 → Prop} {x : Int32} (h : post (nI (ge_f (ge_k x)))) : wpX_firstWayOf post x := by
  refine br_c (fun z => ?_) (fun z => ?_)
  · subst z; exact h
  · have e : ge_f (ge_k x) = 0 := by
      unfold ge_f ge_k
      rw [if_neg z]
      split <;> rfl
    rw [e] at h
    exact h
theorem xb_ew {post : Int32 → Prop} {x : Int32} (h : post (nI (ge_e (ge_k x)))) : wpX_endOfWaysOf post x := by
  refine br_c (fun z => ?_) (fun z => ?_)
  · subst z; exact h
  · have e : ge_e (ge_k x) = 4 := by
      unfold ge_e ge_k
      rw [if_neg z]
      split <;> rfl
    rw [e] at h
    exact h
theorem xb_lj {post : SX → Prop} (mv pn pc : Int32) (ce ne fa li le ta pa tr nw pt : Nat → Int32) {li0 le0 ta0 pa0 : Nat → Int32} {q s : Nat} {sd : Int32} {L : List (List Nat)} (hq : q < 3) (hs : s < 32) (hT : xt_T ne fa) (ho : dr_ow (xt_b ce q s) = sd) (hR : xl_R q true L li0 le0 ta0 pa0 li le ta pa) (hL : (L ++ tr_at true (xt_b ce q) sd s).length ≤ 512)
    (h : ∀ li' le' ta' pa' tr' nw', xl_R q true (L ++ tr_at true (xt_b ce q) sd s) li0 le0 ta0 pa0 li' le' ta' pa' → post (mv, pn, pc, ce, ne, fa, li', le', ta', pa', tr', nw', pt)) : wpX_listJumps post (mv, pn, pc, ce, ne, fa, li, le, ta, pa, tr, nw, pt) (nI q) (nI s) := by
  have hk := ge_k3 (xt_b ce q s)
  have hfe := ge_fe _ hk
  unfold wpX_listJumps
  dsimp only
  rw [xt_m32, nI_clamp (by omega), ← xt_in (ce := ce) (q := q) hs]
  refine ⟨vp_in_nI (by omega) (by omega), nm_e (xb_fw (xb_ew (nm_e (nm_e ⟨1000001, ?_⟩))))⟩
  have hV : tr_V true (xt_b ce q) [s] := hs
  have hc : bo_su (bo_t 9 s []) (ge_f (ge_k (xt_b ce q s))) (ge_e (ge_k (xt_b ce q s)) - ge_f (ge_k (xt_b ce q s))) ≤ 1000 := by
    have h1 := bo_sub (bo_t 9 s []) hk
    have h2 := bo_po1 s hs
    have h3 : bo_po 10 s [] = 5 + bo_su (bo_t 9 s []) 0 4 := rfl
    omega
  rw [← xj_o_at hs ho] at hL h
  refine xj_all (post := post) (mv := mv) (pn := pn) (pc := pc) (pt := pt) (li0 := li0) (le0 := le0) (ta0 := ta0) (pa0 := pa0) (f := ge_f (ge_k (xt_b ce q s))) (e := ge_e (ge_k (xt_b ce q s))) hq hT 9 s [] hV rfl rfl rfl (ge_e (ge_k (xt_b ce q s)) - ge_f (ge_k (xt_b ce q s))) (ge_f (ge_k (xt_b ce q s))) true 0 1000001 (upd tr 0 (nI s)) (upd nw 0 (nI (ge_f (ge_k (xt_b ce q s))))) li le ta pa L (by omega) (Nat.le_refl _) ⟨pk_us, True.intro⟩ True.intro pk_us hR hL ?_ rfl ?_
  · show 0 + (_ + 1 + bo_su (bo_t 9 s []) _ _) ≤ 1000000
    omega
  · intro r' fu' tr' nw' li' le' ta' pa' k1 k2 k3 k4 k5
    have k6 : r' ≤ 0 + (ge_e (ge_k (xt_b ce q s)) - ge_f (ge_k (xt_b ce q s)) + 1 + bo_su (bo_t 9 s []) (ge_f (ge_k (xt_b ce q s))) (ge_e (ge_k (xt_b ce q s)) - ge_f (ge_k (xt_b ce q s)))) := k1
    obtain ⟨m, rfl⟩ : ∃ m, fu' = m + 1 := ⟨fu' - 1, by omega⟩
    have hp := h li' le' ta' pa' tr' nw' k5
    exact br_c (fun _ => hp) (fun _ => br_t (show nI 0 + (-1) < 0 by decide) hp)
def xs_o (b : Nat → Int32) (s w kk : Nat) : List (List Nat) := ((List.range' w kk).filter (fun w => b (ge_nr s w) == 0 && decide (ge_nr s w < 32))).map (fun w => [ge_nr s w, s])
theorem xs_at {b : Nat → Int32} {sd : Int32} {s : Nat} (hs : s < 32) (h : dr_ow (b s) = sd) : tr_at false b sd s = xs_o b s (ge_f (ge_k (b s))) (ge_e (ge_k (b s)) - ge_f (ge_k (b s))) := by
  rw [tr_at_st h, tr_ch_s hs, List.map_map]
  rfl
theorem xs_t {b : Nat → Int32} {s w kk : Nat} (h1 : b (ge_nr s w) = 0) (h2 : ge_nr s w < 32) : xs_o b s w (kk + 1) = [ge_nr s w, s] :: xs_o b s (w + 1) kk := by
  unfold xs_o
  rw [List.range'_succ, List.filter_cons_of_pos (by simp [h1, h2]), List.map_cons]
theorem xs_f {b : Nat → Int32} {s w kk : Nat} (h : ¬ (b (ge_nr s w) = 0 ∧ ge_nr s w < 32)) : xs_o b s w (kk + 1) = xs_o b s (w + 1) kk := by
  unfold xs_o
  rw [List.range'_succ, List.filter_cons_of_neg (by simpa using h)]
theorem xs_31 {post : SX → Prop} (mv pn pc : Int32) (ce ne fa nw pt : Nat → Int32) {li0 le0 ta0 pa0 : Nat → Int32} {q s e : Nat} (hq : q < 3) (hs : s < 32) (he : e ≤ 4) (hT : xt_T ne fa) : ∀ kk w (li le ta pa tr : Nat → Int32) (L : List (List Nat)), w + kk = e → tr 0 = nI s → xl_R q false L li0 le0 ta0 pa0 li le ta pa → (L ++ xs_o (xt_b ce q) s w kk).length ≤ 512 →
    (∀ li' le' ta' pa' tr', xl_R q false (L ++ xs_o (xt_b ce q) s w kk) li0 le0 ta0 pa0 li' le' ta' pa' → post (mv, pn, pc, ce, ne, fa, li', le', ta', pa', tr', nw, pt)) → wX_listSteps_31 post (nI q) (nI s) (nI e) (kk + 1) (nI w) mv pn pc ce ne fa li le ta pa tr nw pt := by
  intro kk
  induction kk with
  | zero =>
    intro w li le ta pa tr L hw h0 hR hL h
    refine pk_le e w (fun _ => ?_) (fun z => absurd z (by omega))
    refine h li le ta pa tr ?_
    rw [show xs_o (xt_b ce q) s w 0 = [] from rfl, List.append_nil]
    exact hR
  | succ kk ih =>
    intro w li le ta pa tr L hw h0 hR hL h
    refine pk_le e w (fun z => absurd z (by omega)) (fun _ => ?_)
    rw [xt_m4, nI_clamp (by omega), (hT s hs w (by omega)).1]
    refine ⟨vp_in_nI (by omega) (by omega), nm_e ?_⟩
    by_cases hn : ge_nr s w < 32
    · rw [xt_t hn]
      refine br_f (xt_ne hn) ?_
      rw [xt_m32, nI_clamp (by omega), ← xt_in (ce := ce) (q := q) hn]
      refine ⟨vp_in_nI (by omega) (by omega), br_c (fun z => nm_e ?_) (fun z => nm_r (nI_1 w) ?_)⟩
      · rw [xs_t z hn] at hL h
        simp only [List.length_append, List.length_cons] at hL
        refine xa_addMove mv pn pc ce ne fa li le ta pa (upd tr 1 (nI (ge_nr s w))) nw pt (n := 2) hq (by omega) hR.1 (by omega) ?_
        refine nm_r (nI_1 w) (ih (w + 1) _ _ _ _ _ (L ++ [[ge_nr s w, s]]) (by omega) ((pk_un (by omega)).trans h0) (xl_add hR (by omega) (by simp) ⟨pk_us, (pk_un (by simp)).trans h0, True.intro⟩ rfl) (by simp only [List.length_append, List.length_cons, List.length_nil]; omega) ?_)
        intro li' le' ta' pa' tr' hR'
        refine h li' le' ta' pa' tr' ?_
        rw [List.append_assoc] at hR'
        exact hR'
      · rw [xs_f (fun y => z y.1)] at hL h
        exact ih (w + 1) li le ta pa tr L (by omega) h0 hR hL h
    · rw [xt_f hn]
      rw [xs_f (fun y => hn y.2)] at hL h
      exact br_t rfl (nm_r (nI_1 w) (ih (w + 1) li le ta pa tr L (by omega) h0 hR hL h))
theorem xs_ls {post : SX → Prop} (mv pn pc : Int32) (ce ne fa li le ta pa tr nw pt : Nat → Int32) {li0 le0 ta0 pa0 : Nat → Int32} {q s : Nat} {sd : Int32} {L : List (List Nat)} (hq : q < 3) (hs : s < 32) (hT : xt_T ne fa) (ho : dr_ow (xt_b ce q s) = sd) (hR : xl_R q false L li0 le0 ta0 pa0 li le ta pa) (hL : (L ++ tr_at false (xt_b ce q) sd s).length ≤ 512)
    (h : ∀ li' le' ta' pa' tr', xl_R q false (L ++ tr_at false (xt_b ce q) sd s) li0 le0 ta0 pa0 li' le' ta' pa' → post (mv, pn, pc, ce, ne, fa, li', le', ta', pa', tr', nw, pt)) : wpX_listSteps post (mv, pn, pc, ce, ne, fa, li, le, ta, pa, tr, nw, pt) (nI q) (nI s) := by
  have hk := ge_k3 (xt_b ce q s)
  have hfe := ge_fe _ hk
  unfold wpX_listSteps
  dsimp only
  rw [xt_m32, nI_clamp (by omega), ← xt_in (ce := ce) (q := q) hs]
  rw [xs_at hs ho] at hL h
  refine ⟨vp_in_nI (by omega) (by omega), nm_e (xb_ew (nm_e (xb_fw ⟨ge_e (ge_k (xt_b ce q s)) - ge_f (ge_k (xt_b ce q s)) + 1, ?_⟩)))⟩
  exact xs_31 mv pn pc ce ne fa nw pt hq hs (by omega) hT _ _ li le ta pa _ L (by omega) pk_us hR hL h
theorem xm_76 {post : SX → Prop} (mv pn pc : Int32) (ce ne fa pt : Nat → Int32) {li0 le0 ta0 pa0 : Nat → Int32} {q : Nat} {sd : Int32} (hq : q < 3) (hT : xt_T ne fa) : ∀ d s (li le ta pa tr nw : Nat → Int32) (L : List (List Nat)), s + d = 32 → xl_R q false L li0 le0 ta0 pa0 li le ta pa → (L ++ tr_fr false (xt_b ce q) sd s).length ≤ 512 →
    (∀ li' le' ta' pa' tr' nw', xl_R q false (L ++ tr_fr false (xt_b ce q) sd s) li0 le0 ta0 pa0 li' le' ta' pa' → post (mv, pn, pc, ce, ne, fa, li', le', ta', pa', tr', nw', pt)) → wX_listMoves_76 post (nI q) sd (d + 1) (nI s) mv pn pc ce ne fa li le ta pa tr nw pt := by
  intro d
  induction d with
  | zero =>
    intro s li le ta pa tr nw L hs hR hL h
    obtain rfl : s = 32 := by omega
    rw [tr_fr_32 (Nat.le_refl _), List.append_nil] at h
    exact br_t (by decide) (h li le ta pa tr nw hR)
  | succ d ih =>
    intro s li le ta pa tr nw L hs hR hL h
    have hx : s < 32 := by omega
    refine br_f (nI_ge (b := 32) hx (by decide)) ?_
    rw [xt_m32, nI_clamp (by omega), ← xt_in (ce := ce) (q := q) hx]
    refine ⟨vp_in_nI (by omega) (by omega), xa_ow ?_⟩
    rw [tr_fr_s hx, ← List.append_assoc] at hL h
    refine br_c (fun z => ?_) (fun z => ?_)
    · refine xs_ls mv pn pc ce ne fa li le ta pa tr nw pt hq hx hT z hR (by rw [List.length_append] at hL; omega) ?_
      intro li' le' ta' pa' tr' hR'
      exact nm_r (nI_1 s) (ih (s + 1) li' le' ta' pa' tr' nw _ (by omega) hR' hL h)
    · rw [show tr_at false (xt_b ce q) sd s = [] from by unfold tr_at; rw [if_neg z], List.append_nil] at hL h
      exact nm_r (nI_1 s) (ih (s + 1) li le ta pa tr nw L (by omega) hR hL h)
theorem xm_28 {post : SX → Prop} (mv pn pc : Int32) (ce ne fa pt : Nat → Int32) {li0 le0 ta0 pa0 : Nat → Int32} {q : Nat} {sd : Int32} (hq : q < 3) (hT : xt_T ne fa) : ∀ d s (li le ta pa tr nw : Nat → Int32) (L : List (List Nat)), s + d = 32 → xl_R q true L li0 le0 ta0 pa0 li le ta pa → L ++ tr_fr true (xt_b ce q) sd s = tr_fr true (xt_b ce q) sd 0 →
    (∀ li' le' ta' pa' tr' nw', xl_R q (tr_mj (xt_b ce q) sd) (tr_ML (xt_b ce q) sd) li0 le0 ta0 pa0 li' le' ta' pa' → post (mv, pn, pc, ce, ne, fa, li', le', ta', pa', tr', nw', pt)) → wX_listMoves_28 post (nI q) sd (d + 1) (nI s) mv pn pc ce ne fa li le ta pa tr nw pt := by
  intro d
  induction d with
  | zero =>
    intro s li le ta pa tr nw L hs hR hL h
    obtain rfl : s = 32 := by omega
    rw [tr_fr_32 (Nat.le_refl _), List.append_nil] at hL
    refine br_t (by decide) ⟨vp_in_nI hq (by omega), ?_⟩
    rw [nI_clamp (by omega), hR.1]
    have hl := hR.2.1
    refine pk_le L.length 0 (fun z => ⟨32 + 1, ?_⟩) (fun z => ?_)
    · have hL0 : L = [] := List.length_eq_zero_iff.mp (by omega)
      subst hL0
      have em : tr_mj (xt_b ce q) sd = false := tr_mj_f hL.symm
      unfold tr_ML at h
      rw [em] at h
      have hR2 : xl_R q false [] li0 le0 ta0 pa0 li le ta pa := ⟨hR.1, hR.2.1, fun k p e => absurd e (by simp), hR.2.2.2⟩
      exact xm_76 mv pn pc ce ne fa pt hq hT 32 0 li le ta pa tr nw [] (by omega) hR2 (by rw [List.nil_append]; exact tr_fr_len 32 0 (by omega)) (by intro li' le' ta' pa' tr' nw' hr; rw [List.nil_append] at hr; exact h li' le' ta' pa' tr' nw' hr)
    · have em : tr_mj (xt_b ce q) sd = true := tr_mj_t (by rw [← hL]; intro y; rw [y] at z; simp at z)
      unfold tr_ML at h
      rw [em, ← hL] at h
      exact h li le ta pa tr nw hR
  | succ d ih =>
    intro s li le ta pa tr nw L hs hR hL h
    have hx : s < 32 := by omega
    refine br_f (nI_ge (b := 32) hx (by decide)) ?_
    rw [xt_m32, nI_clamp (by omega), ← xt_in (ce := ce) (q := q) hx]
    refine ⟨vp_in_nI (by omega) (by omega), xa_ow ?_⟩
    rw [tr_fr_s hx, ← List.append_assoc] at hL
    refine br_c (fun z => ?_) (fun z => ?_)
    · have hlen := tr_fr_len (j := true) (b := xt_b ce q) (sd := sd) 32 0 (by omega)
      rw [← hL, List.length_append] at hlen
      refine xb_lj mv pn pc ce ne fa li le ta pa tr nw pt hq hx hT z hR (by omega) ?_
      intro li' le' ta' pa' tr' nw' hR'
      exact nm_r (nI_1 s) (ih (s + 1) li' le' ta' pa' tr' nw' _ (by omega) hR' hL h)
    · rw [show tr_at true (xt_b ce q) sd s = [] from by unfold tr_at; rw [if_neg z], List.append_nil] at hL
      exact nm_r (nI_1 s) (ih (s + 1) li le ta pa tr nw L (by omega) hR hL h)
theorem xm_18 {post : SX → Prop} (mv pn pc : Int32) (ce ne fa li le ta pa tr nw pt : Nat → Int32) {q : Nat} {sd : Int32} (hq : q < 3) (hT : xt_T ne fa) (h : ∀ li' le' ta' pa' tr' nw', xl_R q (tr_mj (xt_b ce q) sd) (tr_ML (xt_b ce q) sd) li le ta pa li' le' ta' pa' → post (mv, pn, pc, ce, ne, fa, li', le', ta', pa', tr', nw', pt)) : wX_listMoves_18 post (nI q) sd mv pn pc ce ne fa li le ta pa tr nw pt := by
  refine ⟨vp_in_nI hq (by omega), ?_⟩
  rw [nI_clamp (by omega)]
  refine nm_e ⟨32 + 1, ?_⟩
  exact xm_28 mv pn pc ce ne fa pt hq hT 32 0 _ le ta pa tr nw [] (by omega) ⟨pk_us, by simp, fun k p e => absurd e (by simp), fun i hi => pk_un hi, fun _ _ => ⟨rfl, rfl⟩, fun _ _ => rfl⟩ (List.nil_append _) h
def xm_sd (q : Nat) (mv : Int32) : Int32 := if q = 1 then 1 - mv else mv
theorem xm_list {post : SX → Prop} (mv pn pc : Int32) (ce ne fa li le ta pa tr nw pt : Nat → Int32) {q : Nat} (hq : q < 3) (hT : xt_T ne fa) (h : ∀ li' le' ta' pa' tr' nw', xl_R q (tr_mj (xt_b ce q) (xm_sd q mv)) (tr_ML (xt_b ce q) (xm_sd q mv)) li le ta pa li' le' ta' pa' → post (mv, pn, pc, ce, ne, fa, li', le', ta', pa', tr', nw', pt)) : wpX_listMoves post (mv, pn, pc, ce, ne, fa, li, le, ta, pa, tr, nw, pt) (nI q) := by
  unfold wpX_listMoves
  dsimp only
  refine pk_eq q 1 (fun z => ?_) (fun z => ?_)
  · rw [show xm_sd q mv = 1 - mv from if_pos z] at h
    exact xm_18 mv pn pc ce ne fa li le ta pa tr nw pt hq hT h
  · rw [show xm_sd q mv = mv from if_neg z] at h
    exact xm_18 mv pn pc ce ne fa li le ta pa tr nw pt hq hT h
end
section
/-! the members of the list are valid paths -/
theorem tr_lv_V {j : Bool} {b : Nat → Int32} : ∀ n (p : List Nat), tr_V j b p → ∀ p', p' ∈ tr_lv j b n p → tr_V j b p' ∧ p.length ≤ p'.length := by
  intro n
  induction n with
  | zero =>
    intro p hV p' hp'
    rw [tr_lv, List.mem_singleton] at hp'
    rw [hp']
    exact ⟨hV, Nat.le_refl _⟩
  | succ n ih =>
    intro p hV p' hp'
    rw [tr_lv] at hp'
    by_cases hc : tr_ch j b p 0 = []
    · rw [if_pos hc, List.mem_singleton] at hp'
      rw [hp']
      exact ⟨hV, Nat.le_refl _⟩
    · rw [if_neg hc, List.mem_flatMap] at hp'
      obtain ⟨t, ht, hp'⟩ := hp'
      obtain ⟨_, h1, h2⟩ := tr_ch_mem ht
      obtain ⟨h3, h4⟩ := ih (t :: p) (tr_V_cons hV h1 h2) p' hp'
      simp only [List.length_cons] at h4
      exact ⟨h3, by omega⟩
theorem tr_fr_V {j : Bool} {b : Nat → Int32} {sd : Int32} {p : List Nat} (h : p ∈ tr_fr j b sd 0) : tr_V j b p ∧ 2 ≤ p.length := by
  unfold tr_fr at h
  rw [List.mem_flatMap] at h
  obtain ⟨s, hs, h⟩ := h
  rw [List.mem_range'_1] at hs
  have hV : tr_V j b [s] := (by omega : s < 32)
  unfold tr_at at h
  split at h
  · split at h
    · exact absurd h (by simp)
    · rename_i hc
      rw [tr_lP_cons (by simp) hc, List.mem_flatMap] at h
      obtain ⟨t, ht, h⟩ := h
      obtain ⟨_, h1, h2⟩ := tr_ch_mem ht
      obtain ⟨h3, h4⟩ := tr_lv_V _ _ (tr_V_cons hV h1 h2) p h
      exact ⟨h3, h4⟩
  · exact absurd h (by simp)
theorem tr_ML_V {b : Nat → Int32} {sd : Int32} {k : Nat} {p : List Nat} (h : (tr_ML b sd)[k]? = some p) : tr_V (tr_mj b sd) b p ∧ 2 ≤ p.length := tr_fr_V (List.mem_of_getElem? h)
/-! the component: carryOut -/
theorem xc_la28 : ∀ s, s < 32 → ((28 ≤ s ↔ ge_r s = 7) ∧ (4 ≤ s ↔ ge_r s ≠ 0)) := by decide +kernel
theorem xc_la {post : Int32 → Prop} {x : Int32} {s : Nat} (hs : s < 32) (h : post (dr_bI (dr_la x s))) : wpX_isManInLastRow post x (nI s) := by
  obtain ⟨g1, g2⟩ := xc_la28 s hs
  have k : ∀ c, dr_la x s = c → post (dr_bI c) := fun c e => e ▸ h
  have k11 : ¬ (x = 1 ∧ ge_r s = 7) → wX_isManInLastRow_11 post x (nI s) := by
    intro hz
    refine br_c (fun z => pk_le 4 s (fun y => ?_) (fun y => ?_)) (fun z => ?_)
    · exact k false (by subst z; simp [dr_la, g2.mp y])
    · have : ge_r s = 0 := by
        rcases Nat.eq_zero_or_pos (ge_r s) with e | e
        · exact e
        · have := g2.mpr (by omega); omega
      exact k true (by subst z; simp [dr_la, this])
    · refine k false ?_
      unfold dr_la
      have e3 : (x == 3) = false := by simpa using z
      rw [e3]
      by_cases e1 : x = 1
      · have : ¬ ge_r s = 7 := fun y => hz ⟨e1, y⟩
        simp [this]
      · simp [e1]
  refine br_c (fun z => pk_le 28 s (fun y => ?_) (fun y => ?_)) (fun z => ?_)
  · exact k true (by subst z; simp [dr_la, g1.mp y])
  · exact k11 (fun w => by have := g1.mpr w.2; omega)
  · exact k11 (fun w => z w.1)
def xc_g (ce : Nat → Int32) (q : Nat) (m : Int32) : Nat → Int32 := fun s => if (m &&& ((1 : Int32) <<< (nI s &&& 31))) = 0 then ce (q * 32 + s) else 0
theorem xc_60 {post : SX → Prop} (mv pn pc : Int32) (ce ne fa li le ta pa tr nw pt : Nat → Int32) {q q' m l s : Nat} {x : Int32} (hq : q < 3) (hq' : q' < 3) (hm : m < 1536) (hl : l < 32) (hs : s < 32)
    (h : post (mv, pn, pc, upd (upd (cp_ ce (q' * 32) 32 (xc_g ce q (ta m))) (q' * 32 + l) 0) (q' * 32 + s) (if dr_la x s = true then x + 1 else x), ne, fa, li, le, ta, pa, tr, nw, pt)) :
    ∀ d i, i + d = 32 → wX_carryOut_60 post (nI q) (nI q') (nI m) (nI l) (nI s) x mv pn pc (d + 1) (nI i) (cp_ ce (q' * 32) i (xc_g ce q (ta m))) ne fa li le ta pa tr nw pt := by
  intro d
  induction d with
  | zero =>
    intro i hi
    obtain rfl : i = 32 := by omega
    refine br_t (by decide) ?_
    rw [xt_m32, xt_m32, nI_clamp (by omega), nI_clamp (by omega)]
    refine ⟨vp_in_nI (by omega) (by omega), nm_e (xc_la hs ?_)⟩
    cases hc : dr_la x s with
    | true =>
      rw [hc] at h
      exact br_f (by decide) ⟨vp_in_nI (by omega) (by omega), nm_e h⟩
    | false =>
      rw [hc] at h
      exact br_t rfl ⟨vp_in_nI (by omega) (by omega), nm_e h⟩
  | succ d ih =>
    intro i hi
    have h1 := ih (i + 1) (by omega)
    have e1 : cp_ ce (q' * 32) i (xc_g ce q (ta m)) (q * 32 + i) = ce (q * 32 + i) := cp_out (by omega)
    refine br_f (nI_ge (b := 32) (by omega) (by decide)) ⟨vp_in_nI hm (by omega), ?_⟩
    rw [nI_clamp (show m < 2 ^ 31 by omega)]
    refine br_c (fun z => ?_) (fun z => ?_)
    · refine br_t rfl ?_
      rw [xt_m32, xt_m32, nI_clamp (by omega), nI_clamp (by omega), e1]
      refine ⟨vp_in_nI (by omega) (by omega), vp_in_nI (by omega) (by omega), nm_r ?_ (nm_r (nI_1 i) h1)⟩
      rw [← cp_s]
      unfold xc_g
      rw [if_pos z]
    · refine br_f (by decide) ?_
      rw [xt_m32, nI_clamp (by omega)]
      refine ⟨vp_in_nI (by omega) (by omega), nm_r ?_ (nm_r (nI_1 i) h1)⟩
      rw [← cp_s]
      unfold xc_g
      rw [if_neg z]
theorem xc_eq {j : Bool} {ce : Nat → Int32} {q q' : Nat} {s : Nat} {qq : List Nat} {m : Int32} (hV : tr_V j (xt_b ce q) (s :: qq)) (hm : m = if j = true then mk_ (s :: qq) else 0) :
    xt_b (upd (upd (cp_ ce (q' * 32) 32 (xc_g ce q m)) (q' * 32 + tr_l (s :: qq)) 0) (q' * 32 + s) (if dr_la (xt_b ce q (tr_l (s :: qq))) s = true then xt_b ce q (tr_l (s :: qq)) + 1 else xt_b ce q (tr_l (s :: qq)))) q' = tr_ap j (xt_b ce q) (s :: qq) := by
  have hs := tr_V_hd hV
  have hl := tr_V_l hV
  have hB := tr_V_b hV
  funext i
  rcases Nat.lt_or_ge i 32 with hi | hi
  · rw [xt_in hi, tr_ap_cons]
    dsimp only
    by_cases z : i = s
    · rw [if_pos z, z, pk_us]
    · rw [if_neg z, pk_un (by omega)]
      by_cases z2 : i = tr_l (s :: qq)
      · rw [if_pos z2, z2, pk_us]
      · rw [if_neg z2, pk_un (by omega), cp_in hi, xt_in hi]
        unfold xc_g
        cases j with
        | true =>
          have hm2 : m = mk_ (s :: qq) := hm
          subst hm2
          have e := mk_bt hB i hi
          cases hc : (tr_cr (s :: qq)).contains i with
          | true =>
            rw [hc] at e
            rw [if_neg (fun w => by rw [mk_and hi, e] at w; exact absurd w (by decide)), if_pos ⟨rfl, rfl⟩]
          | false =>
            rw [hc] at e
            rw [if_pos ((mk_and hi).mpr e), if_neg (by simp)]
        | false =>
          have hm2 : m = 0 := hm
          subst hm2
          rw [if_pos ((mk_and hi).mpr (b_0 i)), if_neg (by simp)]
  · rw [tr_ap_hi hV hi]
    unfold xt_b
    rw [if_neg (by omega), if_neg (by omega)]
theorem xc_carry {post : SX → Prop} (mv pn pc : Int32) (ce ne fa li le ta pa tr nw pt : Nat → Int32) {j : Bool} {q q' k : Nat} {p : List Nat} (hq : q < 3) (hq' : q' < 3) (hk : k < 512) (hV : tr_V j (xt_b ce q) p) (h1 : le (q * 512 + k) = nI p.length) (h2 : ta (q * 512 + k) = (if j = true then mk_ p else 0)) (h3 : tr_S (fun i => pa ((q * 512 + k) * 10 + i)) p)
    (h : ∀ ce', xt_b ce' q' = tr_ap j (xt_b ce q) p → (∀ i, i < q' * 32 ∨ q' * 32 + 32 ≤ i → ce' i = ce i) → post (mv, pn, pc, ce', ne, fa, li, le, ta, pa, tr, nw, pt)) : wpX_carryOut post (mv, pn, pc, ce, ne, fa, li, le, ta, pa, tr, nw, pt) (nI q) (nI k) (nI q') := by
  cases p with
  | nil => exact hV.elim
  | cons s qq =>
    have hs := tr_V_hd hV
    have hl := tr_V_l hV
    have hn := tr_V_len hV
    simp only [List.length_cons] at hn
    have e0 : pa ((q * 512 + k) * 10) = nI (tr_l (s :: qq)) := tr_S_0 (by simp) h3
    have e1 : nI ((q * 512 + k) * 10) + nI (s :: qq).length - 1 = nI ((q * 512 + k) * 10 + qq.length) := by
      rw [nI_add]
      exact nI_pred _
    have e2 : pa ((q * 512 + k) * 10 + qq.length) = nI s := h3.1
    have e3 : nI (q * 512 + k) * 10 = nI ((q * 512 + k) * 10) := pk_mul _ 10
    unfold wpX_carryOut
    dsimp only
    refine nm_r (xt_m512 q k) ?_
    rw [e3, nI_clamp (show (q * 512 + k) * 10 < 2 ^ 31 by omega), e0, nI_clamp (show q * 512 + k < 2 ^ 31 by omega), h1, e1, nI_clamp (show (q * 512 + k) * 10 + qq.length < 2 ^ 31 by omega), e2]
    refine ⟨vp_in_nI (by omega) (by omega), nm_e ⟨vp_in_nI (by omega) (by omega), vp_in_nI (by omega) (by omega), nm_e ?_⟩⟩
    rw [xt_m32, nI_clamp (by omega), ← xt_in (ce := ce) (q := q) hl]
    refine ⟨vp_in_nI (by omega) (by omega), nm_e ⟨32 + 1, ?_⟩⟩
    have kk := xc_60 (post := post) mv pn pc ce ne fa li le ta pa tr nw pt (q := q) (q' := q') (m := q * 512 + k) (l := tr_l (s :: qq)) (s := s) (x := xt_b ce q (tr_l (s :: qq))) hq hq' (by omega) hl hs (by
      refine h _ ?_ ?_
      · exact xc_eq hV h2
      · intro i hi
        rw [pk_un (by omega), pk_un (by omega), cp_out (by omega)]) 32 0 (by omega)
    rw [cp_0] at kk
    exact kk
/-! the component's loops over its list -/
theorem xd_takenBy {post : Int32 → Prop} (mv pn pc : Int32) (ce ne fa li le ta pa tr nw pt : Nat → Int32) {j : Bool} {L : List (List Nat)} {k : Nat} {p : List Nat} (hL : xl_L 0 j L le ta pa) (hk : k < 512) (e : L[k]? = some p) (hB : ∀ x, x ∈ p → x < 32) (h2 : 2 ≤ p.length) (h : post (tr_tk j p)) : wpX_takenBy post (mv, pn, pc, ce, ne, fa, li, le, ta, pa, tr, nw, pt) (nI k) := by
  obtain ⟨g1, g2, g3, g4⟩ := hL k p e
  rw [Nat.zero_mul, Nat.zero_add] at g1 g2
  unfold wpX_takenBy
  dsimp only
  rw [nI_clamp (by omega), g1, g2]
  refine ⟨vp_in_nI (by omega) (by omega), ?_⟩
  cases j with
  | true =>
    refine br_f (mk_ne hB h2) ⟨vp_in_nI (by omega) (by omega), ?_⟩
    obtain ⟨n, hn⟩ : ∃ n, p.length = n + 1 := ⟨p.length - 1, by omega⟩
    have e3 : tr_tk true p = nI n := by simp [tr_tk, hn]
    rw [hn, nI_pred, ← e3]
    exact h
  | false => exact br_t rfl h
theorem xd_drop {α : Type} {L : List α} {k : Nat} (hk : k < L.length) : ∃ p, L[k]? = some p ∧ L.drop k = p :: L.drop (k + 1) := ⟨L[k], List.getElem?_eq_getElem hk, List.drop_eq_getElem_cons hk⟩
theorem xd_mt {post : Int32 → SX → Prop} (mv pn pc : Int32) (ce ne fa li le ta pa tr nw pt : Nat → Int32) {j : Bool} {b : Nat → Int32} {L : List (List Nat)} (hL : xl_L 0 j L le ta pa) (h5 : L.length ≤ 512) (hV : ∀ (k : Nat) (p : List Nat), L[k]? = some p → tr_V j b p ∧ 2 ≤ p.length) : ∀ d k x, k + d = L.length → post (tr_mt j x (L.drop k)) (mv, pn, pc, ce, ne, fa, li, le, ta, pa, tr, nw, pt) → wX_mostTaken_16 post (nI L.length) mv pn pc ce ne fa li le ta pa tr nw pt (d + 1) x (nI k) := by
  intro d
  induction d with
  | zero =>
    intro k x hk h
    rw [List.drop_eq_nil_of_le (by omega)] at h
    exact pk_le L.length k (fun _ => h) (fun z => absurd z (by omega))
  | succ d ih =>
    intro k x hk h
    obtain ⟨p, e1, e2⟩ := xd_drop (L := L) (k := k) (by omega)
    obtain ⟨v1, v2⟩ := hV k p e1
    rw [e2] at h
    refine pk_le L.length k (fun z => absurd z (by omega)) (fun _ => ?_)
    refine xd_takenBy mv pn pc ce ne fa li le ta pa tr nw pt hL (by omega) e1 (tr_V_b v1) v2 ?_
    refine br_c (fun z => nm_r (nI_1 k) (ih (k + 1) _ (by omega) ?_)) (fun z => nm_r (nI_1 k) (ih (k + 1) _ (by omega) ?_))
    · simp only [tr_mt, if_pos z] at h
      exact h
    · simp only [tr_mt, if_neg z] at h
      exact h
theorem xd_mo {post : Int32 → SX → Prop} (mv pn pc : Int32) (ce ne fa li le ta pa tr nw pt : Nat → Int32) {j : Bool} {b : Nat → Int32} {L : List (List Nat)} (hL : xl_L 0 j L le ta pa) (h5 : L.length ≤ 512) (hV : ∀ (k : Nat) (p : List Nat), L[k]? = some p → tr_V j b p ∧ 2 ≤ p.length) : ∀ d k x, k + d = L.length → post (tr_mo x (L.drop k)) (mv, pn, pc, ce, ne, fa, li, le, ta, pa, tr, nw, pt) → wX_movable_16 post (nI L.length) mv pn pc ce ne fa li le ta pa tr nw pt (d + 1) x (nI k) := by
  intro d
  induction d with
  | zero =>
    intro k x hk h
    rw [List.drop_eq_nil_of_le (by omega)] at h
    exact pk_le L.length k (fun _ => h) (fun z => absurd z (by omega))
  | succ d ih =>
    intro k x hk h
    obtain ⟨p, e1, e2⟩ := xd_drop (L := L) (k := k) (by omega)
    obtain ⟨v1, v2⟩ := hV k p e1
    obtain ⟨g1, g2, g3, g4⟩ := hL k p e1
    rw [e2] at h
    have e3 : nI k * 10 = nI (k * 10) := pk_mul k 10
    have e4 : pa (k * 10) = nI (tr_l p) := by
      have := tr_S_0 (tr_V_ne v1) g3
      simpa using this
    refine pk_le L.length k (fun z => absurd z (by omega)) (fun _ => ?_)
    rw [e3, nI_clamp (by omega), e4]
    exact ⟨vp_in_nI (by omega) (by omega), nm_e (nm_r (nI_1 k) (ih (k + 1) _ (by omega) h))⟩
/-! plays -/
theorem xl_keep {q q1 : Nat} {j j1 : Bool} {L L1 : List (List Nat)} {li le ta pa li' le' ta' pa' : Nat → Int32} (hq : q ≠ q1) (h : xl_L q j L le ta pa) (h5 : L.length ≤ 512) (hR : xl_R q1 j1 L1 li le ta pa li' le' ta' pa') : xl_L q j L le' ta' pa' := by
  obtain ⟨_, _, _, _, f5, f6⟩ := hR
  intro k p e
  obtain ⟨g1, g2, g3, g4⟩ := h k p e
  have hk : k < L.length := (List.getElem?_eq_some_iff.mp e).1
  obtain ⟨a1, a2⟩ := f5 (q * 512 + k) (by omega)
  exact ⟨a1.trans g1, a2.trans g2, tr_S_congr (fun i hi => f6 _ (by omega)) g3, g4⟩
theorem xe_one {post : Int32 → SX → Prop} (mv pn pc : Int32) (ce ne fa li le ta pa tr nw pt : Nat → Int32) (hT : xt_T ne fa) (h : ∀ li' le' ta' pa' tr' nw', xl_R 1 (tr_mj (xt_b ce 1) (1 - mv)) (tr_ML (xt_b ce 1) (1 - mv)) li le ta pa li' le' ta' pa' → post (tr_c1 (xt_b ce 1) (1 - mv)) (mv, pn, pc, ce, ne, fa, li', le', ta', pa', tr', nw', pt)) : wpX_waysForOne post (mv, pn, pc, ce, ne, fa, li, le, ta, pa, tr, nw, pt) := by
  unfold wpX_waysForOne
  dsimp only
  refine xm_list mv pn pc ce ne fa li le ta pa tr nw pt (q := 1) (by omega) hT ?_
  intro li' le' ta' pa' tr' nw' hR
  dsimp only
  rw [hR.1]
  exact h li' le' ta' pa' tr' nw' hR
def xe_K (q0 : Nat) (j0 : Bool) (L0 : List (List Nat)) (b0 : Nat → Int32) (ce le ta pa : Nat → Int32) : Prop := xl_L q0 j0 L0 le ta pa ∧ xt_b ce q0 = b0
theorem xe_b {ce ce' : Nat → Int32} {q q' : Nat} (hq : q ≠ q') (h : ∀ i, i < q' * 32 ∨ q' * 32 + 32 ≤ i → ce' i = ce i) : xt_b ce' q = xt_b ce q := by
  funext i
  unfold xt_b
  split
  · exact h _ (by omega)
  · rfl
theorem xe_tw {post : Int32 → SX → Prop} (mv pn pc : Int32) (ne fa pt : Nat → Int32) {j0 j : Bool} {L0 L : List (List Nat)} {b0 b : Nat → Int32} (hT : xt_T ne fa) (h50 : L0.length ≤ 512) (h5 : L.length ≤ 512) (hV : ∀ (k : Nat) (p : List Nat), L[k]? = some p → tr_V j b p ∧ 2 ≤ p.length)
    (h : ∀ ce' li' le' ta' pa' tr' nw', xe_K 0 j0 L0 b0 ce' le' ta' pa' → post (tr_sm (fun p => tr_c1 (tr_ap j b p) mv) 0 L) (mv, pn, pc, ce', ne, fa, li', le', ta', pa', tr', nw', pt)) :
    ∀ d k x (ce li le ta pa tr nw : Nat → Int32), k + d = L.length → tr_sm (fun p => tr_c1 (tr_ap j b p) mv) x (L.drop k) = tr_sm (fun p => tr_c1 (tr_ap j b p) mv) 0 L → xe_K 0 j0 L0 b0 ce le ta pa → xe_K 1 j L b ce le ta pa → wX_waysForTwo_16 post (nI L.length) (d + 1) x (nI k) mv pn pc ce ne fa li le ta pa tr nw pt := by
  intro d
  induction d with
  | zero =>
    intro k x ce li le ta pa tr nw hk he h0 h1
    rw [List.drop_eq_nil_of_le (by omega)] at he
    refine pk_le L.length k (fun _ => ?_) (fun z => absurd z (by omega))
    have := h ce li le ta pa tr nw h0
    rw [← he] at this
    exact this
  | succ d ih =>
    intro k x ce li le ta pa tr nw hk he h0 h1
    obtain ⟨p, e1, e2⟩ := xd_drop (L := L) (k := k) (by omega)
    obtain ⟨v1, v2⟩ := hV k p e1
    obtain ⟨h1a, h1b⟩ := h1
    obtain ⟨g1, g2, g3, g4⟩ := h1a k p e1
    rw [e2] at he
    refine pk_le L.length k (fun z => absurd z (by omega)) (fun _ => ?_)
    refine xc_carry mv pn pc ce ne fa li le ta pa tr nw pt (q := 1) (q' := 2) (j := j) (by omega) (by omega) (by omega) (by rw [h1b]; exact v1) g1 g2 g3 ?_
    intro ce' c1 c2
    rw [h1b] at c1
    dsimp only
    refine xm_list mv pn pc ce' ne fa li le ta pa tr nw pt (q := 2) (by omega) hT ?_
    intro li' le' ta' pa' tr' nw' hR
    dsimp only
    rw [hR.1, c1]
    refine nm_e (nm_r (nI_1 k) (ih (k + 1) _ ce' li' le' ta' pa' tr' nw' (by omega) he ?_ ?_))
    · exact ⟨xl_keep (by omega) h0.1 h50 hR, by rw [xe_b (by omega) c2]; exact h0.2⟩
    · exact ⟨xl_keep (by omega) h1a h5 hR, by rw [xe_b (by omega) c2]; exact h1b⟩
theorem xe_two {post : Int32 → SX → Prop} (mv pn pc : Int32) (ce ne fa li le ta pa tr nw pt : Nat → Int32) {j0 : Bool} {L0 : List (List Nat)} {b0 : Nat → Int32} (hT : xt_T ne fa) (h50 : L0.length ≤ 512) (h0 : xe_K 0 j0 L0 b0 ce le ta pa)
    (h : ∀ ce' li' le' ta' pa' tr' nw', xe_K 0 j0 L0 b0 ce' le' ta' pa' → post (tr_c2 (xt_b ce 1) (1 - mv)) (mv, pn, pc, ce', ne, fa, li', le', ta', pa', tr', nw', pt)) : wpX_waysForTwo post (mv, pn, pc, ce, ne, fa, li, le, ta, pa, tr, nw, pt) := by
  unfold wpX_waysForTwo
  dsimp only
  refine xm_list mv pn pc ce ne fa li le ta pa tr nw pt (q := 1) (by omega) hT ?_
  intro li' le' ta' pa' tr' nw' hR
  dsimp only
  rw [hR.1]
  refine nm_e ⟨(tr_ML (xt_b ce 1) (xm_sd 1 mv)).length + 1, ?_⟩
  unfold tr_c2 at h
  rw [yg_mm] at h
  exact xe_tw mv pn pc ne fa pt hT h50 hR.2.1 (fun k p e => tr_ML_V e) h (tr_ML (xt_b ce 1) (xm_sd 1 mv)).length 0 0 ce li' le' ta' pa' tr' nw' (by omega) rfl ⟨xl_keep (by omega) h0.1 h50 hR, h0.2⟩ ⟨hR.2.2.1, rfl⟩
theorem xe_pl {post : Int32 → SX → Prop} (mv pn pc : Int32) (ne fa pt : Nat → Int32) {d : Int32} {j : Bool} {L : List (List Nat)} {b : Nat → Int32} (hT : xt_T ne fa) (h5 : L.length ≤ 512) (hV : ∀ (k : Nat) (p : List Nat), L[k]? = some p → tr_V j b p ∧ 2 ≤ p.length)
    (h : ∀ ce' li' le' ta' pa' tr' nw', xe_K 0 j L b ce' le' ta' pa' → post (tr_sm (fun p => tr_cd d (tr_ap j b p) (1 - mv)) 0 L) (mv, pn, pc, ce', ne, fa, li', le', ta', pa', tr', nw', pt)) :
    ∀ dd k x (ce li le ta pa tr nw : Nat → Int32), k + dd = L.length → tr_sm (fun p => tr_cd d (tr_ap j b p) (1 - mv)) x (L.drop k) = tr_sm (fun p => tr_cd d (tr_ap j b p) (1 - mv)) 0 L → xe_K 0 j L b ce le ta pa → wX_plays_46 post d (nI L.length) (dd + 1) x (nI k) mv pn pc ce ne fa li le ta pa tr nw pt := by
  intro dd
  induction dd with
  | zero =>
    intro k x ce li le ta pa tr nw hk he h0
    rw [List.drop_eq_nil_of_le (by omega)] at he
    refine pk_le L.length k (fun _ => ?_) (fun z => absurd z (by omega))
    have := h ce li le ta pa tr nw h0
    rw [← he] at this
    exact this
  | succ dd ih =>
    intro k x ce li le ta pa tr nw hk he h0
    obtain ⟨p, e1, e2⟩ := xd_drop (L := L) (k := k) (by omega)
    obtain ⟨v1, v2⟩ := hV k p e1
    obtain ⟨h0a, h0b⟩ := h0
    obtain ⟨g1, g2, g3, g4⟩ := h0a k p e1
    rw [e2] at he
    refine pk_le L.length k (fun z => absurd z (by omega)) (fun _ => ?_)
    refine xc_carry mv pn pc ce ne fa li le ta pa tr nw pt (q := 0) (q' := 1) (j := j) (by omega) (by omega) (by omega) (by rw [h0b]; exact v1) g1 g2 g3 ?_
    intro ce' c1 c2
    rw [h0b] at c1
    dsimp only
    have h0c : xt_b ce' 0 = b := by rw [xe_b (by omega) c2]; exact h0b
    have he2 : tr_sm (fun p => tr_cd d (tr_ap j b p) (1 - mv)) (x + tr_cd d (tr_ap j b p) (1 - mv)) (L.drop (k + 1)) = tr_sm (fun p => tr_cd d (tr_ap j b p) (1 - mv)) 0 L := he
    refine br_c (fun z => ?_) (fun z => ?_)
    · refine xe_one mv pn pc ce' ne fa li le ta pa tr nw pt hT ?_
      intro li' le' ta' pa' tr' nw' hR
      dsimp only
      rw [c1]
      refine nm_e (nm_r (nI_1 k) (ih (k + 1) _ ce' li' le' ta' pa' tr' nw' (by omega) ?_ ⟨xl_keep (by omega) h0a h5 hR, h0c⟩))
      rw [show tr_cd d (tr_ap j b p) (1 - mv) = tr_c1 (tr_ap j b p) (1 - mv) from if_pos z] at he2
      exact he2
    · refine xe_two mv pn pc ce' ne fa li le ta pa tr nw pt hT h5 ⟨h0a, h0c⟩ ?_
      intro ce2 li' le' ta' pa' tr' nw' hK
      dsimp only
      rw [c1]
      refine nm_e (nm_r (nI_1 k) (ih (k + 1) _ ce2 li' le' ta' pa' tr' nw' (by omega) ?_ hK))
      rw [show tr_cd d (tr_ap j b p) (1 - mv) = tr_c2 (tr_ap j b p) (1 - mv) from if_neg z] at he2
      exact he2
end
section
/-! the component's constructor -/
def xi_sq (x y : Int32) : Int32 := if x < 0 then -1 else if 8 ≤ x then -1 else if y < 0 then -1 else if 8 ≤ y then -1 else x * 4 + y / 2
theorem xi_squareAt {post : Int32 → Prop} {x y : Int32} (h : post (xi_sq x y)) : wpX_squareAt post x y := by
  unfold xi_sq at h
  refine br_c (fun z => ?_) (fun z => br_c (fun z2 => ?_) (fun z2 => br_c (fun z3 => ?_) (fun z3 => br_c (fun z4 => ?_) (fun z4 => ?_))))
  · rw [if_pos z] at h; exact br_t rfl h
  · rw [if_neg z, if_pos z2] at h; exact br_t rfl h
  · rw [if_neg z, if_neg z2, if_pos z3] at h; exact br_t rfl h
  · rw [if_neg z, if_neg z2, if_neg z3, if_pos z4] at h; exact br_t rfl h
  · rw [if_neg z, if_neg z2, if_neg z3, if_neg z4] at h; exact br_f (by decide) ⟨by decide, h⟩
def xi_d (w : Nat) : Int32 := if w < 2 then -1 else 1
def xi_a (w : Nat) : Int32 := if w % 2 = 0 then -1 else 1
theorem xi_t1 : ∀ i, i < 32 → ∀ w, w < 4 → xi_sq (nI (ge_r i) + xi_d w) (nI (ge_c i) + xi_a w) = xt_ti (ge_nr i w) := by decide +kernel
theorem xi_t2 : ∀ i, i < 32 → ∀ w, w < 4 → xi_sq (nI (ge_r i) + 2 * xi_d w) (nI (ge_c i) + 2 * xi_a w) = xt_ti (ge_fa i w) := by decide +kernel
theorem xi_c0 : ∀ s, s < 32 → nI (ge_r s) - nI (ge_r s) / 2 * 2 = 0 → (nI s - nI s / 4 * 4) * 2 + 1 = nI (ge_c s) := by decide +kernel
theorem xi_c1 : ∀ s, s < 32 → ¬ nI (ge_r s) - nI (ge_r s) / 2 * 2 = 0 → (nI s - nI s / 4 * 4) * 2 + 0 = nI (ge_c s) := by decide +kernel
theorem xi_w : ∀ w, w < 4 → ((2 ≤ nI w ↔ ¬ w < 2) ∧ (nI w - nI w / 2 * 2 = 0 ↔ w % 2 = 0)) := by decide +kernel
def xi_TN (j : Nat) : Int32 := xt_ti (ge_nr (j / 4) (j % 4))
def xi_TF (j : Nat) : Int32 := xt_ti (ge_fa (j / 4) (j % 4))
theorem xi_TNe {i w : Nat} (hw : w < 4) : xi_TN (i * 4 + w) = xt_ti (ge_nr i w) := by
  unfold xi_TN
  rw [show (i * 4 + w) / 4 = i by omega, show (i * 4 + w) % 4 = w by omega]
theorem xi_TFe {i w : Nat} (hw : w < 4) : xi_TF (i * 4 + w) = xt_ti (ge_fa i w) := by
  unfold xi_TF
  rw [show (i * 4 + w) / 4 = i by omega, show (i * 4 + w) % 4 = w by omega]
theorem xi_64 {post : SX → Prop} {J2 J33 : Int32 → (Nat → Int32) → (Nat → Int32) → (Nat → Int32) → (Nat → Int32) → (Nat → Int32) → (Nat → Int32) → (Nat → Int32) → (Nat → Int32) → (Nat → Int32) → (Nat → Int32) → Prop} (mv pn pc : Int32) (ce ne fa li le ta pa tr nw pt : Nat → Int32) {i w : Nat} (hi : i < 32) (hw : w < 4)
    (h : J33 (nI (w + 1)) ce (cp_ ne 0 (i * 4 + (w + 1)) xi_TN) (cp_ fa 0 (i * 4 + (w + 1)) xi_TF) li le ta pa tr nw pt) : wX_fillWays_64 post J2 J33 (nI i) (nI (ge_r i)) (nI (ge_c i)) (nI w) (xi_d w) (xi_a w) mv pn pc ce (cp_ ne 0 (i * 4 + w) xi_TN) (cp_ fa 0 (i * 4 + w) xi_TF) li le ta pa tr nw pt := by
  have e1 := cp_s (d := ne) (o := 0) (k := i * 4 + w) (g := xi_TN)
  have e2 := cp_s (d := fa) (o := 0) (k := i * 4 + w) (g := xi_TF)
  rw [Nat.zero_add, xi_TNe hw] at e1
  rw [Nat.zero_add, xi_TFe hw] at e2
  unfold wX_fillWays_64
  refine xi_squareAt ?_
  rw [xi_t1 i hi w hw, xt_m4, nI_clamp (by omega)]
  refine ⟨vp_in_nI (by omega) (by omega), nm_r e1 ?_⟩
  refine xi_squareAt ?_
  rw [xi_t2 i hi w hw]
  exact ⟨vp_in_nI (by omega) (by omega), nm_r e2 (nm_r (nI_1 w) h)⟩
theorem xi_33 {post : SX → Prop} {J2 : Int32 → (Nat → Int32) → (Nat → Int32) → (Nat → Int32) → (Nat → Int32) → (Nat → Int32) → (Nat → Int32) → (Nat → Int32) → (Nat → Int32) → (Nat → Int32) → (Nat → Int32) → Prop} (mv pn pc : Int32) (ce ne fa li le ta pa tr nw pt : Nat → Int32) {i : Nat} (hi : i < 32)
    (h : J2 (nI (i + 1)) ce (cp_ ne 0 ((i + 1) * 4) xi_TN) (cp_ fa 0 ((i + 1) * 4) xi_TF) li le ta pa tr nw pt) : ∀ d w, w + d = 4 → wX_fillWays_33 post J2 (nI i) (nI (ge_r i)) (nI (ge_c i)) mv pn pc (d + 1) (nI w) ce (cp_ ne 0 (i * 4 + w) xi_TN) (cp_ fa 0 (i * 4 + w) xi_TF) li le ta pa tr nw pt := by
  intro d
  induction d with
  | zero =>
    intro w hw
    obtain rfl : w = 4 := by omega
    rw [show (i + 1) * 4 = i * 4 + 4 by omega] at h
    exact br_t (by decide) (nm_r (nI_1 i) h)
  | succ d ih =>
    intro w hw
    have hw4 : w < 4 := by omega
    have h1 := ih (w + 1) (by omega)
    obtain ⟨g1, g2⟩ := xi_w w hw4
    have k := xi_64 (post := post) (J2 := J2) mv pn pc ce ne fa li le ta pa tr nw pt hi hw4 h1
    refine br_f (nI_ge (b := 4) hw4 (by decide)) ?_
    have k50 : wX_fillWays_50 post J2 (wX_fillWays_33 post J2 (nI i) (nI (ge_r i)) (nI (ge_c i)) mv pn pc (d + 1)) (nI i) (nI (ge_r i)) (nI (ge_c i)) (nI w) (xi_d w) mv pn pc ce (cp_ ne 0 (i * 4 + w) xi_TN) (cp_ fa 0 (i * 4 + w) xi_TF) li le ta pa tr nw pt := by
      refine ⟨by decide, br_c (fun z => ?_) (fun z => ?_)⟩
      · rw [show xi_a w = -1 from if_pos (g2.mp z)] at k
        exact k
      · rw [show xi_a w = 1 from if_neg (fun y => z (g2.mpr y))] at k
        exact k
    refine br_c (fun z => ?_) (fun z => ?_)
    · rw [show xi_d w = 1 from if_neg (g1.mp z)] at k50
      exact k50
    · have z2 : w < 2 := by
        rcases Nat.lt_or_ge w 2 with y | y
        · exact y
        · exact absurd (g1.mpr (by omega)) z
      rw [show xi_d w = -1 from if_pos z2] at k50
      exact k50
theorem xi_2 {post : SX → Prop} (mv pn pc : Int32) (ce ne fa li le ta pa tr nw pt : Nat → Int32) (h : post (mv, pn, pc, ce, cp_ ne 0 128 xi_TN, cp_ fa 0 128 xi_TF, li, le, ta, pa, tr, nw, pt)) : ∀ d i, i + d = 32 → wX_fillWays_2 post mv pn pc (d + 1) (nI i) ce (cp_ ne 0 (i * 4) xi_TN) (cp_ fa 0 (i * 4) xi_TF) li le ta pa tr nw pt := by
  intro d
  induction d with
  | zero =>
    intro i hi
    obtain rfl : i = 32 := by omega
    exact br_t (by decide) h
  | succ d ih =>
    intro i hi
    have hx : i < 32 := by omega
    have h1 := ih (i + 1) (by omega)
    refine br_f (nI_ge (b := 32) hx (by decide)) ⟨by decide, nm_r (ya_rI i hx) ⟨by decide, by decide, br_c (fun z => ?_) (fun z => ?_)⟩⟩
    · exact nm_r (xi_c0 i hx z) ⟨4 + 1, xi_33 mv pn pc ce ne fa li le ta pa tr nw pt hx h1 4 0 (by omega)⟩
    · exact nm_r (xi_c1 i hx z) ⟨4 + 1, xi_33 mv pn pc ce ne fa li le ta pa tr nw pt hx h1 4 0 (by omega)⟩
theorem xi_T {ne fa : Nat → Int32} : xt_T (cp_ ne 0 128 xi_TN) (cp_ fa 0 128 xi_TF) := by
  intro s hs w hw
  rw [cp_in0 (by omega), cp_in0 (by omega), xi_TNe hw, xi_TFe hw]
  exact ⟨rfl, rfl⟩
theorem xi_init {post : SX → Prop} (h : ∀ ne fa, xt_T ne fa → post (0, 0, 0, (fun _ => 0), ne, fa, (fun _ => 0), (fun _ => 0), (fun _ => 0), (fun _ => 0), (fun _ => 0), (fun _ => 0), (fun _ => 0))) : wpX_init post := by
  unfold wpX_init wpX_fillWays
  dsimp only
  refine ⟨32 + 1, ?_⟩
  have k := xi_2 (post := fun u => match u with | (f_mover_2, f_pastNext_3, f_pastCount_4, a_cells_5, a_near_6, a_far_7, a_listed_8, a_lengths_9, a_takenSets_10, a_paths_11, a_trail_12, a_nextWays_13, a_past_14) => (post (f_mover_2, f_pastNext_3, f_pastCount_4, a_cells_5, a_near_6, a_far_7, a_listed_8, a_lengths_9, a_takenSets_10, a_paths_11, a_trail_12, a_nextWays_13, a_past_14))) 0 0 0 (fun _ => 0) (fun _ => 0) (fun _ => 0) (fun _ => 0) (fun _ => 0) (fun _ => 0) (fun _ => 0) (fun _ => 0) (fun _ => 0) (fun _ => 0) (h _ _ xi_T) 32 0 (by omega)
  rw [Nat.zero_mul, cp_0, cp_0] at k
  exact k
/-! the memory of positions -/
def mm_ (mv : Int32) (n r : Nat) (pt od os : Nat → Int32) : Prop := ∀ t, t < r → (∀ i, i < 32 → pt ((n + 19 - t) % 20 * 32 + i) = od (32 * (r - 1 - t) + i) ∧ dr_5 (od (32 * (r - 1 - t) + i))) ∧ os (r - 1 - t) = (if t % 2 = 0 then 1 - mv else mv)
theorem mm_0 {mv : Int32} {n : Nat} {pt od os : Nat → Int32} : mm_ mv n 0 pt od os := fun t ht => absurd ht (by omega)
theorem mm_pop {mv : Int32} {n r : Nat} {pt od os : Nat → Int32} (hr : r + 1 ≤ 20) (hn : n < 20) (h : mm_ mv n (r + 1) pt od os) : mm_ (1 - mv) ((n + 19) % 20) r pt od os := by
  intro t ht
  obtain ⟨h1, h2⟩ := h (t + 1) (by omega)
  rw [show r + 1 - 1 - (t + 1) = r - 1 - t by omega] at h1 h2
  rw [show (n + 19 - (t + 1)) % 20 = ((n + 19) % 20 + 19 - t) % 20 by omega] at h1
  refine ⟨h1, ?_⟩
  rw [h2, yg_mm]
  by_cases z : t % 2 = 0
  · rw [if_neg (by omega), if_pos z]
  · rw [if_pos (by omega), if_neg z]
theorem mm_push {mv : Int32} {n r : Nat} {pt od os pt' od' os' ce bd : Nat → Int32} (r' : Nat) (hr : r ≤ 20) (hn : n < 20) (hr' : r' = if r = 20 then 20 else r + 1) (h : mm_ mv n r pt od os)
    (hp1 : ∀ i, i < 32 → pt' (n * 32 + i) = ce i) (hp2 : ∀ i, i < n * 32 ∨ n * 32 + 32 ≤ i → pt' i = pt i) (hb : ∀ i, i < 32 → ce i = bd i) (h5 : dr_V bd)
    (ho1 : ∀ i, i < 32 → od' (32 * (r' - 1) + i) = bd i) (ho2 : ∀ i, i < 32 * (r' - 1) → od' i = od (i + 32 * (r + 1 - r')))
    (hs1 : os' (r' - 1) = mv) (hs2 : ∀ i, i < r' - 1 → os' i = os (i + (r + 1 - r'))) : mm_ (1 - mv) ((n + 1) % 20) r' pt' od' os' := by
  have hr1 : 1 ≤ r' ∧ r' ≤ 20 ∧ r' ≤ r + 1 := by rw [hr']; split <;> omega
  intro t ht
  by_cases ht0 : t = 0
  · subst ht0
    rw [show ((n + 1) % 20 + 19 - 0) % 20 = n by omega, Nat.sub_zero]
    refine ⟨fun i hi => ?_, ?_⟩
    · rw [hp1 i hi, ho1 i hi, hb i hi]
      exact ⟨rfl, h5 i⟩
    · rw [hs1, if_pos rfl, yg_mm]
  · obtain ⟨g1, g2⟩ := h (t - 1) (by omega)
    have e1 : ((n + 1) % 20 + 19 - t) % 20 = (n + 19 - (t - 1)) % 20 := by omega
    have e2 : (n + 19 - (t - 1)) % 20 ≠ n := by omega
    have e3 : r' - 1 - t + (r + 1 - r') = r - 1 - (t - 1) := by omega
    refine ⟨fun i hi => ?_, ?_⟩
    · obtain ⟨g3, g4⟩ := g1 i hi
      rw [e1, hp2 _ (by omega), ho2 _ (by omega), g3, show 32 * (r' - 1 - t) + i + 32 * (r + 1 - r') = 32 * (r - 1 - (t - 1)) + i by omega]
      exact ⟨rfl, g4⟩
    · rw [hs2 _ (by omega), e3, g2, yg_mm]
      by_cases z : t % 2 = 0
      · rw [if_neg (by omega), if_pos z]
      · rw [if_pos (by omega), if_neg z]
/-! remember -/
theorem yr_75 {post : SY → Prop} (mv rm sz jm : Int32) (bd od os sq ab ap az aj : Nat → Int32) {r : Nat} (hr : r < 20) (h : post (mv, nI (r + 1), sz, jm, bd, cp_ od (32 * r) 32 bd, upd os r mv, sq, ab, ap, az, aj)) : ∀ d i, i + d = 32 → wY_remember_75 post mv (nI r) sz jm (d + 1) (nI i) bd (cp_ od (32 * r) i bd) os sq ab ap az aj := by
  intro d
  induction d with
  | zero =>
    intro i hi
    obtain rfl : i = 32 := by omega
    refine br_t (by decide) ⟨vp_in_nI hr (by omega), ?_⟩
    rw [nI_clamp (by omega)]
    exact nm_e (nm_r (nI_1 r) h)
  | succ d ih =>
    intro i hi
    have h1 := ih (i + 1) (by omega)
    refine br_f (nI_ge (b := 32) (by omega) (by decide)) ⟨vp_in_nI (by omega) (by omega), ?_⟩
    rw [yg_m32, nI_clamp (by omega), nI_clamp (by omega)]
    exact ⟨vp_in_nI (by omega) (by omega), nm_r cp_s (nm_r (nI_1 i) h1)⟩
theorem yr_41 {post : SY → Prop} (mv rm sz jm : Int32) (bd od os sq ab ap az aj : Nat → Int32) (h : post (mv, nI 20, sz, jm, bd, cp_ od 608 32 bd, upd (cp_ os 0 19 (fun k => os (k + 1))) 19 mv, sq, ab, ap, az, aj)) : ∀ d i, i + d = 19 → wY_remember_41 post mv rm sz jm (d + 1) (nI i) bd od (cp_ os 0 i (fun k => os (k + 1))) sq ab ap az aj := by
  intro d
  induction d with
  | zero =>
    intro i hi
    obtain rfl : i = 19 := by omega
    refine br_t (by decide) ⟨32 + 1, ?_⟩
    have k := yr_75 (post := post) mv (nI 19) sz jm bd od (cp_ os 0 19 (fun k => os (k + 1))) sq ab ap az aj (r := 19) (by omega) h 32 0 (by omega)
    rw [cp_0] at k
    exact k
  | succ d ih =>
    intro i hi
    have h1 := ih (i + 1) (by omega)
    refine br_f (nI_ge (b := 19) (by omega) (by decide)) ?_
    rw [nI_1 i, nI_clamp (by omega), nI_clamp (by omega)]
    refine ⟨vp_in_nI (by omega) (by omega), vp_in_nI (by omega) (by omega), nm_r ?_ (nm_e h1)⟩
    have e := cp_s (d := os) (o := 0) (k := i) (g := fun k => os (k + 1))
    rw [Nat.zero_add] at e
    rw [cp_out (by omega)]
    exact e
theorem yr_a32 (i : Nat) : nI i + 32 = nI (i + 32) := nI_add i 32
theorem yr_11 {post : SY → Prop} (mv rm sz jm : Int32) (bd od os sq ab ap az aj : Nat → Int32) (h : post (mv, nI 20, sz, jm, bd, cp_ (cp_ od 0 608 (fun k => od (k + 32))) 608 32 bd, upd (cp_ os 0 19 (fun k => os (k + 1))) 19 mv, sq, ab, ap, az, aj)) : ∀ d i, i + d = 608 → wY_remember_11 post mv rm sz jm (d + 1) (nI i) bd (cp_ od 0 i (fun k => od (k + 32))) os sq ab ap az aj := by
  intro d
  induction d with
  | zero =>
    intro i hi
    obtain rfl : i = 608 := by omega
    refine br_t (by decide) ⟨19 + 1, ?_⟩
    have k := yr_41 (post := post) mv rm sz jm bd (cp_ od 0 608 (fun k => od (k + 32))) os sq ab ap az aj h 19 0 (by omega)
    rw [cp_0] at k
    exact k
  | succ d ih =>
    intro i hi
    have h1 := ih (i + 1) (by omega)
    refine br_f (nI_ge (b := 608) (by omega) (by decide)) ?_
    rw [yr_a32, nI_clamp (by omega), nI_clamp (by omega)]
    refine ⟨vp_in_nI (by omega) (by omega), vp_in_nI (by omega) (by omega), nm_r ?_ (nm_r (nI_1 i) h1)⟩
    have e := cp_s (d := od) (o := 0) (k := i) (g := fun k => od (k + 32))
    rw [Nat.zero_add] at e
    rw [cp_out (by omega)]
    exact e
theorem yr_rem {post : SY → Prop} (mv rm sz jm : Int32) (bd od os sq ab ap az aj : Nat → Int32) {n r : Nat} {pt pt' ce : Nat → Int32} (hr : r ≤ 20) (hn : n < 20) (hM : mm_ mv n r pt od os) (hp1 : ∀ i, i < 32 → pt' (n * 32 + i) = ce i) (hp2 : ∀ i, i < n * 32 ∨ n * 32 + 32 ≤ i → pt' i = pt i) (hb : ∀ i, i < 32 → ce i = bd i) (h5 : dr_V bd)
    (h : ∀ od' os', mm_ (1 - mv) ((n + 1) % 20) (if r = 20 then 20 else r + 1) pt' od' os' → post (mv, nI (if r = 20 then 20 else r + 1), sz, jm, bd, od', os', sq, ab, ap, az, aj)) : wpY_remember post (mv, nI r, sz, jm, bd, od, os, sq, ab, ap, az, aj) := by
  unfold wpY_remember
  dsimp only
  refine pk_eq r 20 (fun z => ?_) (fun z => ?_)
  · subst z
    refine ⟨608 + 1, ?_⟩
    have k := yr_11 (post := post) mv (nI 20) sz jm bd od os sq ab ap az aj (h _ _ (mm_push 20 (by omega) hn rfl hM hp1 hp2 hb h5 (fun i hi => cp_in hi) (fun i hi => (cp_out (by omega)).trans (cp_in0 (by omega))) pk_us (fun i hi => (pk_un (by omega)).trans (cp_in0 (by omega))))) 608 0 (by omega)
    rw [cp_0] at k
    exact k
  · rw [if_neg z] at h
    refine ⟨32 + 1, ?_⟩
    have k := yr_75 (post := post) mv (nI r) sz jm bd od os sq ab ap az aj (r := r) (by omega) (h _ _ (mm_push (r + 1) (by omega) hn (by rw [if_neg z]) hM hp1 hp2 hb h5 (fun i hi => cp_in hi) (fun i hi => by rw [cp_out (by omega)]; rw [show r + 1 - (r + 1) = 0 by omega]; rfl) pk_us (fun i hi => by rw [pk_un (by omega)]; rw [show r + 1 - (r + 1) = 0 by omega]; rfl))) 32 0 (by omega)
    rw [cp_0] at k
    exact k
theorem xr_54 {post : SX → Prop} (mv pn pc : Int32) (ce ne fa li le ta pa tr nw pt : Nat → Int32) {r n' : Nat} (hr : r ≤ 20) (h : post (mv, nI n', nI (if r = 20 then 20 else r + 1), ce, ne, fa, li, le, ta, pa, tr, nw, pt)) : wX_rememberPosition_54 post (nI n') mv pn (nI r) ce ne fa li le ta pa tr nw pt := by
  refine pk_le 20 r (fun z => ?_) (fun z => nm_r (nI_1 r) ?_)
  · obtain rfl : r = 20 := by omega
    exact h
  · rw [if_neg (by omega)] at h
    exact h
theorem xr_2 {post : SX → Prop} (mv pn pc : Int32) (ce ne fa li le ta pa tr nw pt : Nat → Int32) {n r : Nat} (hr : r ≤ 20) (hn : n < 20) (h : post (mv, nI ((n + 1) % 20), nI (if r = 20 then 20 else r + 1), ce, ne, fa, li, le, ta, pa, tr, nw, cp_ pt (n * 32) 32 ce)) : ∀ d i, i + d = 32 → wX_rememberPosition_2 post mv (nI n) (nI r) (d + 1) (nI i) ce ne fa li le ta pa tr nw (cp_ pt (n * 32) i ce) := by
  intro d
  induction d with
  | zero =>
    intro i hi
    obtain rfl : i = 32 := by omega
    refine br_t (by decide) (pk_eq n 19 (fun z => ?_) (fun z => ?_))
    · subst z
      exact xr_54 mv _ pc ce ne fa li le ta pa tr nw _ hr h
    · rw [nI_1 n]
      rw [show (n + 1) % 20 = n + 1 by omega] at h
      exact xr_54 mv _ pc ce ne fa li le ta pa tr nw _ hr h
  | succ d ih =>
    intro i hi
    have h1 := ih (i + 1) (by omega)
    refine br_f (nI_ge (b := 32) (by omega) (by decide)) ⟨vp_in_nI (by omega) (by omega), ?_⟩
    rw [xt_m32, nI_clamp (by omega), nI_clamp (by omega)]
    exact ⟨vp_in_nI (by omega) (by omega), nm_r cp_s (nm_r (nI_1 i) h1)⟩
theorem xr_rem {post : SX → Prop} (mv pn pc : Int32) (ce ne fa li le ta pa tr nw pt : Nat → Int32) {n r : Nat} (hr : r ≤ 20) (hn : n < 20) (h : post (mv, nI ((n + 1) % 20), nI (if r = 20 then 20 else r + 1), ce, ne, fa, li, le, ta, pa, tr, nw, cp_ pt (n * 32) 32 ce)) : wpX_rememberPosition post (mv, nI n, nI r, ce, ne, fa, li, le, ta, pa, tr, nw, pt) := by
  refine ⟨32 + 1, ?_⟩
  have k := xr_2 mv pn pc ce ne fa li le ta pa tr nw pt hr hn h 32 0 (by omega)
  rw [cp_0] at k
  exact k
/-! back -/
theorem yk_21 {post : Int32 → SY → Prop} (mv rm sz jm : Int32) (bd od os sq ab ap az aj : Nat → Int32) {r : Nat} (hr : r < 20) (h : post 1 (os r, nI r, sz, jm, cp_ bd 0 32 (fun i => od (32 * r + i)), od, os, sq, ab, ap, az, aj)) : ∀ d i, i + d = 32 → wY_back_21 post mv (nI r) sz jm (d + 1) (nI i) (cp_ bd 0 i (fun i => od (32 * r + i))) od os sq ab ap az aj := by
  intro d
  induction d with
  | zero =>
    intro i hi
    obtain rfl : i = 32 := by omega
    refine br_t (by decide) ⟨vp_in_nI hr (by omega), ?_⟩
    rw [nI_clamp (by omega)]
    exact nm_e h
  | succ d ih =>
    intro i hi
    have h1 := ih (i + 1) (by omega)
    refine br_f (nI_ge (b := 32) (by omega) (by decide)) ?_
    rw [yg_m32, nI_clamp (by omega), nI_clamp (by omega)]
    refine ⟨vp_in_nI (by omega) (by omega), vp_in_nI (by omega) (by omega), nm_r ?_ (nm_r (nI_1 i) h1)⟩
    have e := cp_s (d := bd) (o := 0) (k := i) (g := fun i => od (32 * r + i))
    rw [Nat.zero_add] at e
    exact e
theorem xk_43 {post : Int32 → SX → Prop} (mv pn pc : Int32) (ce ne fa li le ta pa tr nw pt : Nat → Int32) {n : Nat} (hn : n < 20) (h : post 1 (1 - mv, nI n, pc, cp_ ce 0 32 (fun i => pt (n * 32 + i)), ne, fa, li, le, ta, pa, tr, nw, pt)) : ∀ d i, i + d = 32 → wX_back_43 post mv (nI n) pc (d + 1) (nI i) (cp_ ce 0 i (fun i => pt (n * 32 + i))) ne fa li le ta pa tr nw pt := by
  intro d
  induction d with
  | zero =>
    intro i hi
    obtain rfl : i = 32 := by omega
    exact br_t (by decide) (nm_e h)
  | succ d ih =>
    intro i hi
    have h1 := ih (i + 1) (by omega)
    refine br_f (nI_ge (b := 32) (by omega) (by decide)) ?_
    rw [xt_m32, nI_clamp (by omega), nI_clamp (by omega)]
    refine ⟨vp_in_nI (by omega) (by omega), vp_in_nI (by omega) (by omega), nm_r ?_ (nm_r (nI_1 i) h1)⟩
    have e := cp_s (d := ce) (o := 0) (k := i) (g := fun i => pt (n * 32 + i))
    rw [Nat.zero_add] at e
    exact e
end
section
/-! the relation, and the smaller methods -/
def i_Rel (_ : Nat) (u : SX) (v : SY) : Prop := ∃ (mv : Int32) (ce ne fa li le ta pa tr nw pt : Nat → Int32) (sz jm : Int32) (od os sq ab ap az aj : Nat → Int32) (n r : Nat), u = (mv, nI n, nI r, ce, ne, fa, li, le, ta, pa, tr, nw, pt) ∧ v = (mv, nI r, sz, jm, xt_b ce 0, od, os, sq, ab, ap, az, aj) ∧ xt_T ne fa ∧ dr_V (xt_b ce 0) ∧ n < 20 ∧ r ≤ 20 ∧ mm_ mv n r pt od os
theorem iv_mk {k n r : Nat} {mv : Int32} {ce ne fa li le ta pa tr nw pt : Nat → Int32} {sz jm : Int32} {bd od os sq ab ap az aj : Nat → Int32} (hB : bd = xt_b ce 0) (hT : xt_T ne fa) (hb : dr_V bd) (hn : n < 20) (hr : r ≤ 20) (hM : mm_ mv n r pt od os) : i_Rel k (mv, nI n, nI r, ce, ne, fa, li, le, ta, pa, tr, nw, pt) (mv, nI r, sz, jm, bd, od, os, sq, ab, ap, az, aj) := by
  subst hB
  exact ⟨mv, ce, ne, fa, li, le, ta, pa, tr, nw, pt, sz, jm, od, os, sq, ab, ap, az, aj, n, r, rfl, rfl, hT, hb, hn, hr, hM⟩
theorem i_up {k : Nat} {u : SX} {v : SY} (h : i_Rel k u v) : i_Rel (k + 3) u v := h
theorem i_vc0 : wpX_init (fun u => wpY_init (fun v => i_Rel 0 u v)) := by
  refine xi_init ?_
  intro ne fa hT
  have e : (fun _ => 0 : Nat → Int32) = xt_b (fun _ => 0) 0 := by
    funext i
    unfold xt_b
    split <;> rfl
  exact iv_mk (k := 0) (n := 0) (r := 0) e hT (fun _ => Or.inl rfl) (by omega) (by omega) mm_0
theorem iv_xs {post : Int32 → Prop} {s : Nat} (hs : s < 32) (h : post 1) : wpX_isSquare post (nI s) := br_f (nI_pos (by omega)) (br_f (nI_ge (b := 32) hs (by decide)) h)
theorem iv_xn {post : Int32 → Prop} {x : Int32} (hx : x < 0 ∨ nI 32 ≤ x) (h : post 0) : wpX_isSquare post x := br_c (fun _ => h) (fun z => br_c (fun _ => h) (fun z2 => absurd (hx.resolve_left z) z2))
theorem iv_ys {post : Int32 → Prop} {v : SY} {s : Nat} (hs : s < 32) (h : post 1) : wpY_square post v (nI s) := by
  obtain ⟨mv, rm, sz, jm, bd, od, os, sq, ab, ap, az, aj⟩ := v
  exact br_f (nI_pos (by omega)) (br_f (nI_nlt (a := 31) (b := s) (by omega) (by omega)) h)
theorem iv_yn {post : Int32 → Prop} {v : SY} {x : Int32} (hx : x < 0 ∨ nI 32 ≤ x) (h : post 0) : wpY_square post v x := by
  obtain ⟨mv, rm, sz, jm, bd, od, os, sq, ab, ap, az, aj⟩ := v
  exact br_c (fun _ => h) (fun z => br_c (fun _ => h) (fun z2 => absurd (Int32.lt_of_lt_of_le (show (31 : Int32) < nI 32 by decide) (hx.resolve_left z)) z2))
theorem iv_up {ce : Nat → Int32} {s : Nat} {x : Int32} (hs : s < 32) : upd (xt_b ce 0) s x = xt_b (upd ce s x) 0 := by
  funext i
  unfold xt_b upd
  rw [Nat.zero_mul, Nat.zero_add]
  by_cases e : i = s
  · rw [if_pos e, if_pos (by omega), if_pos e]
  · rw [if_neg e, if_neg e]
    dsimp only
    rw [Nat.zero_add]
theorem iv_5 {x : Int32} (h0 : ¬ x < 0) (h4 : ¬ 4 < x) : dr_5 x := by
  obtain ⟨j, hj, rfl⟩ := nI_of h0
  have h : j ≤ 4 := by
    rcases Nat.lt_or_ge 4 j with z | z
    · exact absurd (nI_lt (a := 4) z hj) h4
    · exact z
  obtain rfl | rfl | rfl | rfl | rfl : j = 0 ∨ j = 1 ∨ j = 2 ∨ j = 3 ∨ j = 4 := by omega
  · exact Or.inl rfl
  · exact Or.inr (Or.inl rfl)
  · exact Or.inr (Or.inr (Or.inl rfl))
  · exact Or.inr (Or.inr (Or.inr (Or.inl rfl)))
  · exact Or.inr (Or.inr (Or.inr (Or.inr rfl)))
theorem i_vc_place {k : Nat} {u : SX} {v : SY} (I : i_Rel k u v) (hk : k + 3 ≤ 1536) (v1 : Int32) (v2 : Int32) : wpX_place (fun r u' => wpY_place (fun r' v' => r' = r ∧ i_Rel (k + 3) u' v') v v1 v2) u v1 v2 := by
  obtain ⟨mv, ce, ne, fa, li, le, ta, pa, tr, nw, pt, sz, jm, od, os, sq, ab, ap, az, aj, n, r, rfl, rfl, hT, hb, hn, hr, hM⟩ := I
  have R : i_Rel (k + 3) (mv, nI n, nI r, ce, ne, fa, li, le, ta, pa, tr, nw, pt) (mv, nI r, sz, jm, xt_b ce 0, od, os, sq, ab, ap, az, aj) := iv_mk rfl hT hb hn hr hM
  unfold wpX_place wpY_place
  dsimp only
  rcases pk_ix v1 (n := 32) (by decide) with h | h | ⟨s, hs, rfl⟩
  · exact iv_xn (Or.inl h) (br_t rfl (iv_yn (Or.inl h) (br_t rfl ⟨rfl, R⟩)))
  · exact iv_xn (Or.inr h) (br_t rfl (iv_yn (Or.inr h) (br_t rfl ⟨rfl, R⟩)))
  · refine iv_xs hs (br_f (by decide) ?_)
    by_cases h0 : v2 < 0
    · exact br_t h0 (iv_ys hs (br_f (by decide) (br_t h0 ⟨rfl, R⟩)))
    · refine br_f h0 ?_
      by_cases h4 : 4 < v2
      · exact br_t h4 (iv_ys hs (br_f (by decide) (br_f h0 (br_t h4 ⟨rfl, R⟩))))
      · refine br_f h4 (xc_la hs ?_)
        have hx := iv_5 h0 h4
        cases hc : dr_la v2 s with
        | true =>
          refine br_f (by decide) (iv_ys hs (br_f (by decide) (br_f h0 (br_f h4 (ya_last hx hs ?_)))))
          rw [hc]
          exact br_f (by decide) ⟨rfl, R⟩
        | false =>
          refine br_t rfl ⟨vp_in_nI (by omega) (by omega), nm_e ?_⟩
          unfold wpX_forgetPast
          dsimp only
          refine iv_ys hs (br_f (by decide) (br_f h0 (br_f h4 (ya_last hx hs ?_))))
          rw [hc, nI_clamp (by omega)]
          refine br_t rfl ⟨vp_in_nI hs (by omega), nm_e ⟨rfl, ?_⟩⟩
          refine iv_mk (r := 0) (iv_up hs) hT ?_ hn (by omega) mm_0
          intro i
          unfold upd
          split
          · exact hx
          · exact hb i
theorem i_vc_turn {k : Nat} {u : SX} {v : SY} (I : i_Rel k u v) (hk : k + 3 ≤ 1536) (v1 : Int32) : wpX_turn (fun r u' => wpY_turn (fun r' v' => r' = r ∧ i_Rel (k + 3) u' v') v v1) u v1 := by
  obtain ⟨mv, ce, ne, fa, li, le, ta, pa, tr, nw, pt, sz, jm, od, os, sq, ab, ap, az, aj, n, r, rfl, rfl, hT, hb, hn, hr, hM⟩ := I
  have R : i_Rel (k + 3) (mv, nI n, nI r, ce, ne, fa, li, le, ta, pa, tr, nw, pt) (mv, nI r, sz, jm, xt_b ce 0, od, os, sq, ab, ap, az, aj) := iv_mk rfl hT hb hn hr hM
  have R2 : i_Rel (k + 3) (v1, nI n, 0, ce, ne, fa, li, le, ta, pa, tr, nw, pt) (v1, 0, sz, jm, xt_b ce 0, od, os, sq, ab, ap, az, aj) := iv_mk (r := 0) rfl hT hb hn (by omega) mm_0
  unfold wpX_turn wpY_turn
  dsimp only
  by_cases h0 : v1 = 0
  · refine br_t h0 ?_
    unfold wX_turn_11 wpX_forgetPast
    dsimp only
    exact br_t h0 ⟨rfl, R2⟩
  · refine br_f h0 ?_
    by_cases h1 : v1 = 1
    · refine br_t h1 ?_
      unfold wX_turn_11 wpX_forgetPast
      dsimp only
      exact br_f h0 (br_t h1 ⟨rfl, R2⟩)
    · exact br_f h1 (br_f h0 (br_f h1 ⟨rfl, R⟩))
theorem i_vc_side {k : Nat} {u : SX} {v : SY} (I : i_Rel k u v) (hk : k + 3 ≤ 1536) : wpX_side (fun r => wpY_side (fun r' => r' = r ∧ i_Rel (k + 3) u v) v) u := by
  have R : i_Rel (k + 3) u v := I
  obtain ⟨mv, ce, ne, fa, li, le, ta, pa, tr, nw, pt, sz, jm, od, os, sq, ab, ap, az, aj, n, r, rfl, rfl, hT, hb, hn, hr, hM⟩ := I
  exact ⟨rfl, R⟩
theorem i_vc_at {k : Nat} {u : SX} {v : SY} (I : i_Rel k u v) (hk : k + 3 ≤ 1536) (v1 : Int32) : wpX_at (fun r => wpY_at (fun r' => r' = r ∧ i_Rel (k + 3) u v) v v1) u v1 := by
  have R : i_Rel (k + 3) u v := I
  obtain ⟨mv, ce, ne, fa, li, le, ta, pa, tr, nw, pt, sz, jm, od, os, sq, ab, ap, az, aj, n, r, rfl, rfl, hT, hb, hn, hr, hM⟩ := I
  unfold wpX_at wpY_at
  dsimp only
  rcases pk_ix v1 (n := 32) (by decide) with h | h | ⟨s, hs, rfl⟩
  · exact iv_xn (Or.inl h) (br_t rfl (iv_yn (Or.inl h) (br_t rfl ⟨rfl, R⟩)))
  · exact iv_xn (Or.inr h) (br_t rfl (iv_yn (Or.inr h) (br_t rfl ⟨rfl, R⟩)))
  · refine iv_xs hs (br_f (by decide) ⟨vp_in_nI (by omega) (by omega), iv_ys hs (br_f (by decide) ⟨vp_in_nI hs (by omega), ?_, R⟩)⟩)
    rw [nI_clamp (by omega), xt_in hs, Nat.zero_mul, Nat.zero_add]
def dr_ct (b : Nat → Int32) (x : Int32) : Nat → Int32
  | 0 => 0
  | i + 1 => if b i = x then dr_ct b x i + 1 else dr_ct b x i
theorem iv_xc {post : Int32 → Prop} (mv pn pc : Int32) (ce ne fa li le ta pa tr nw pt : Nat → Int32) {x : Int32} (h : post (dr_ct (xt_b ce 0) x 32)) : ∀ d i, i + d = 32 → wX_count_16 post x mv pn pc ce ne fa li le ta pa tr nw pt (d + 1) (dr_ct (xt_b ce 0) x i) (nI i) := by
  intro d
  induction d with
  | zero =>
    intro i hi
    obtain rfl : i = 32 := by omega
    exact br_t (by decide) h
  | succ d ih =>
    intro i hi
    have h1 := ih (i + 1) (by omega)
    have e : xt_b ce 0 i = ce i := by rw [xt_in (by omega), Nat.zero_mul, Nat.zero_add]
    simp only [dr_ct, e] at h1
    refine br_f (nI_ge (b := 32) (by omega) (by decide)) ⟨vp_in_nI (by omega) (by omega), ?_⟩
    rw [nI_clamp (by omega)]
    refine br_c (fun z => ?_) (fun z => ?_)
    · rw [if_pos z] at h1
      exact nm_e (nm_r (nI_1 i) h1)
    · rw [if_neg z] at h1
      exact nm_r (nI_1 i) h1
theorem iv_yc {post : Int32 → Prop} (mv rm sz jm : Int32) (bd od os sq ab ap az aj : Nat → Int32) {x : Int32} (h : (x < 1 → post (-1)) ∧ (¬ x < 1 → ((4 < x → post (-1)) ∧ (¬ 4 < x → post (dr_ct bd x 32))))) : ∀ d i, i + d = 32 → wY_count_4 post x mv rm sz jm bd od os sq ab ap az aj (d + 1) (dr_ct bd x i) (nI i) := by
  intro d
  induction d with
  | zero =>
    intro i hi
    obtain rfl : i = 32 := by omega
    exact br_t (by decide) h
  | succ d ih =>
    intro i hi
    have h1 := ih (i + 1) (by omega)
    simp only [dr_ct] at h1
    refine br_f (nI_ge (b := 32) (by omega) (by decide)) ⟨vp_in_nI (by omega) (by omega), ?_⟩
    rw [nI_clamp (by omega)]
    refine br_c (fun z => ?_) (fun z => ?_)
    · rw [if_pos z] at h1
      exact nm_e (nm_r (nI_1 i) h1)
    · rw [if_neg z] at h1
      exact nm_r (nI_1 i) h1
theorem i_vc_count {k : Nat} {u : SX} {v : SY} (I : i_Rel k u v) (hk : k + 3 ≤ 1536) (v1 : Int32) : wpX_count (fun r => wpY_count (fun r' => r' = r ∧ i_Rel (k + 3) u v) v v1) u v1 := by
  have R : i_Rel (k + 3) u v := I
  obtain ⟨mv, ce, ne, fa, li, le, ta, pa, tr, nw, pt, sz, jm, od, os, sq, ab, ap, az, aj, n, r, rfl, rfl, hT, hb, hn, hr, hM⟩ := I
  unfold wpX_count wpY_count
  dsimp only
  by_cases h1 : v1 < 1
  · exact br_t h1 ⟨32 + 1, iv_yc mv (nI r) sz jm (xt_b ce 0) od os sq ab ap az aj (br_t h1 ⟨rfl, R⟩) 32 0 (by omega)⟩
  · refine br_f h1 ?_
    by_cases h4 : v1 ≤ 4
    · refine br_t h4 ⟨32 + 1, iv_xc mv (nI n) (nI r) ce ne fa li le ta pa tr nw pt ?_ 32 0 (by omega)⟩
      exact ⟨32 + 1, iv_yc mv (nI r) sz jm (xt_b ce 0) od os sq ab ap az aj (br_f h1 (br_f (Int32.not_lt.mpr h4) ⟨rfl, R⟩)) 32 0 (by omega)⟩
    · refine br_f h4 ⟨32 + 1, iv_yc mv (nI r) sz jm (xt_b ce 0) od os sq ab ap az aj (br_f h1 (br_t ?_ ⟨rfl, R⟩)) 32 0 (by omega)⟩
      exact Int32.not_le.mp h4
def dr_st (s : Nat) : Int32 := if s < 12 then 1 else if s < 20 then 0 else 3
theorem iv_x2 {post : SX → Prop} (mv pn pc : Int32) (ce ne fa li le ta pa tr nw pt : Nat → Int32) (h : post (0, pn, 0, cp_ ce 0 32 dr_st, ne, fa, li, le, ta, pa, tr, nw, pt)) : ∀ d i, i + d = 32 → wX_start_2 post mv pn pc (d + 1) (nI i) (cp_ ce 0 i dr_st) ne fa li le ta pa tr nw pt := by
  intro d
  induction d with
  | zero =>
    intro i hi
    obtain rfl : i = 32 := by omega
    exact br_t (by decide) h
  | succ d ih =>
    intro i hi
    have h1 := ih (i + 1) (by omega)
    have e := cp_s (d := ce) (o := 0) (k := i) (g := dr_st)
    rw [Nat.zero_add] at e
    refine br_f (nI_ge (b := 32) (by omega) (by decide)) ?_
    rw [nI_clamp (by omega)]
    refine pk_le 12 i (fun z => pk_le 20 i (fun z2 => ?_) (fun z2 => ?_)) (fun z => ?_)
    · rw [show dr_st i = 3 from by unfold dr_st; rw [if_neg (by omega), if_neg (by omega)]] at e
      exact ⟨vp_in_nI (by omega) (by omega), nm_r e (nm_r (nI_1 i) h1)⟩
    · rw [show dr_st i = 0 from by unfold dr_st; rw [if_neg (by omega), if_pos (by omega)]] at e
      exact ⟨vp_in_nI (by omega) (by omega), nm_r e (nm_r (nI_1 i) h1)⟩
    · rw [show dr_st i = 1 from by unfold dr_st; rw [if_pos (by omega)]] at e
      exact ⟨vp_in_nI (by omega) (by omega), nm_r e (nm_r (nI_1 i) h1)⟩
theorem iv_y2 {post : SY → Prop} (mv rm sz jm : Int32) (bd od os sq ab ap az aj : Nat → Int32) (h : post (0, 0, sz, jm, cp_ bd 0 32 dr_st, od, os, sq, ab, ap, az, aj)) : ∀ d i, i + d = 32 → wY_start_2 post mv rm sz jm (d + 1) (nI i) (cp_ bd 0 i dr_st) od os sq ab ap az aj := by
  intro d
  induction d with
  | zero =>
    intro i hi
    obtain rfl : i = 32 := by omega
    exact br_t (by decide) h
  | succ d ih =>
    intro i hi
    have h1 := ih (i + 1) (by omega)
    have e := cp_s (d := bd) (o := 0) (k := i) (g := dr_st)
    rw [Nat.zero_add] at e
    refine br_f (nI_ge (b := 32) (by omega) (by decide)) ?_
    rw [nI_clamp (by omega)]
    refine pk_lt 11 i (fun z => pk_lt i 20 (fun z2 => ?_) (fun z2 => ?_)) (fun z => ?_)
    · rw [show dr_st i = 0 from by unfold dr_st; rw [if_neg (by omega), if_pos (by omega)]] at e
      exact ⟨vp_in_nI (by omega) (by omega), nm_r e (nm_r (nI_1 i) h1)⟩
    · rw [show dr_st i = 3 from by unfold dr_st; rw [if_neg (by omega), if_neg (by omega)]] at e
      exact ⟨vp_in_nI (by omega) (by omega), nm_r e (nm_r (nI_1 i) h1)⟩
    · rw [show dr_st i = 1 from by unfold dr_st; rw [if_pos (by omega)]] at e
      exact ⟨vp_in_nI (by omega) (by omega), nm_r e (nm_r (nI_1 i) h1)⟩
theorem iv_cp {ce g : Nat → Int32} : cp_ (xt_b ce 0) 0 32 g = xt_b (cp_ ce 0 32 g) 0 := by
  funext i
  rcases Nat.lt_or_ge i 32 with h | h
  · rw [cp_in0 h, xt_in h, Nat.zero_mul, Nat.zero_add, cp_in0 h]
  · rw [cp_out (by omega)]
    unfold xt_b
    rw [if_neg (by omega), if_neg (by omega)]
theorem i_vc_start {k : Nat} {u : SX} {v : SY} (I : i_Rel k u v) (hk : k + 3 ≤ 1536) : wpX_start (fun u' => wpY_start (fun v' => i_Rel (k + 3) u' v') v) u := by
  obtain ⟨mv, ce, ne, fa, li, le, ta, pa, tr, nw, pt, sz, jm, od, os, sq, ab, ap, az, aj, n, r, rfl, rfl, hT, hb, hn, hr, hM⟩ := I
  unfold wpX_start wpY_start
  dsimp only
  refine ⟨32 + 1, ?_⟩
  have kx := iv_x2 (post := fun u' => ∃ n2 : Nat, wY_start_2 (fun v' => i_Rel (k + 3) u' v') mv (nI r) sz jm n2 0 (xt_b ce 0) od os sq ab ap az aj) mv (nI n) (nI r) ce ne fa li le ta pa tr nw pt (by
    refine ⟨32 + 1, ?_⟩
    have ky := iv_y2 (post := fun v' => i_Rel (k + 3) (0, nI n, 0, cp_ ce 0 32 dr_st, ne, fa, li, le, ta, pa, tr, nw, pt) v') mv (nI r) sz jm (xt_b ce 0) od os sq ab ap az aj (by
      refine iv_mk (r := 0) iv_cp hT ?_ hn (by omega) mm_0
      intro i
      unfold cp_ dr_st
      split
      · split
        · exact Or.inr (Or.inl rfl)
        · split
          · exact Or.inl rfl
          · exact Or.inr (Or.inr (Or.inr (Or.inl rfl)))
      · exact hb i) 32 0 (by omega)
    rw [cp_0] at ky
    exact ky) 32 0 (by omega)
  rw [cp_0] at kx
  exact kx
end
section
/-! the methods that list moves -/
theorem iw_512 {b : Nat → Int32} {sd : Int32} : (tr_ML b sd).length ≤ 512 := tr_fr_len 32 0 (by omega)
theorem i_vc_moves {k : Nat} {u : SX} {v : SY} (I : i_Rel k u v) (hk : k + 3 ≤ 1536) : wpX_moves (fun r u' => wpY_moves (fun r' v' => r' = r ∧ i_Rel (k + 3) u' v') v) u := by
  obtain ⟨mv, ce, ne, fa, li, le, ta, pa, tr, nw, pt, sz, jm, od, os, sq, ab, ap, az, aj, n, r, rfl, rfl, hT, hb, hn, hr, hM⟩ := I
  unfold wpX_moves
  dsimp only
  refine xm_list mv (nI n) (nI r) ce ne fa li le ta pa tr nw pt (q := 0) (by omega) hT ?_
  intro li' le' ta' pa' tr' nw' hR
  dsimp only
  rw [hR.1]
  refine yf_moves mv (nI r) sz jm (xt_b ce 0) od os sq ab ap az aj hb ?_
  intro sz' jm' sq'
  exact ⟨rfl, iv_mk rfl hT hb hn hr hM⟩
theorem i_vc_mustJump {k : Nat} {u : SX} {v : SY} (I : i_Rel k u v) (hk : k + 3 ≤ 1536) : wpX_mustJump (fun r u' => wpY_mustJump (fun r' v' => r' = r ∧ i_Rel (k + 3) u' v') v) u := by
  obtain ⟨mv, ce, ne, fa, li, le, ta, pa, tr, nw, pt, sz, jm, od, os, sq, ab, ap, az, aj, n, r, rfl, rfl, hT, hb, hn, hr, hM⟩ := I
  unfold wpX_mustJump
  dsimp only
  refine xm_list mv (nI n) (nI r) ce ne fa li le ta pa tr nw pt (q := 0) (by omega) hT ?_
  intro li' le' ta' pa' tr' nw' hR
  dsimp only
  have e0 : xm_sd 0 mv = mv := rfl
  rw [e0] at hR
  have hl := iw_512 (b := xt_b ce 0) (sd := mv)
  have Y : ∀ x, dr_bI (tr_mj (xt_b ce 0) mv) = x → wpY_mustJump (fun r' v' => r' = x ∧ i_Rel (k + 3) (mv, nI n, nI r, ce, ne, fa, li', le', ta', pa', tr', nw', pt) v') (mv, nI r, sz, jm, xt_b ce 0, od, os, sq, ab, ap, az, aj) := by
    intro x hx
    refine yf_must mv (nI r) sz jm (xt_b ce 0) od os sq ab ap az aj hb ?_
    intro sz' jm' sq'
    exact ⟨hx, iv_mk rfl hT hb hn hr hM⟩
  rw [hR.1]
  cases hm : tr_mj (xt_b ce 0) mv with
  | true =>
    have hne : 0 < (tr_ML (xt_b ce 0) mv).length := by
      rw [List.length_pos_iff]
      unfold tr_ML
      rw [hm]
      unfold tr_mj at hm
      exact of_decide_eq_true hm
    refine br_f (nI_nle hne (by omega)) (br_f ?_ (Y 1 (by rw [hm]; rfl)))
    obtain ⟨p, e1, e2⟩ := xd_drop hne
    obtain ⟨v1, v2⟩ := tr_ML_V e1
    obtain ⟨g1, g2, g3, g4⟩ := hR.2.2.1 0 p e1
    rw [hm] at g2
    rw [show ta' 0 = mk_ p from g2]
    exact mk_ne (tr_V_b v1) v2
  | false =>
    have Y0 := Y 0 (by rw [hm]; rfl)
    refine pk_le (tr_ML (xt_b ce 0) mv).length 0 (fun z => Y0) (fun z => ?_)
    obtain ⟨p, e1, e2⟩ := xd_drop z
    obtain ⟨g1, g2, g3, g4⟩ := hR.2.2.1 0 p e1
    rw [hm] at g2
    exact br_t (show ta' 0 = 0 from g2) Y0
theorem iw_E0 {j : Bool} {b : Nat → Int32} {sd : Int32} {L : List (List Nat)} {on sz : Int32} {sq : Nat → Int32} (h : tr_E j b sd L on sz sq) (hL : L = []) : on = 0 := by
  rcases tr_E_on h with ⟨_, e⟩ | ⟨e, _⟩
  · exact e
  · exact absurd hL e
theorem tr_S_eq : ∀ (p : List Nat) (f g : Nat → Int32), tr_S f p → tr_S g p → ∀ i, i < p.length → f i = g i := by
  intro p
  induction p with
  | nil => intro f g _ _ i hi; exact absurd hi (by simp)
  | cons t q ih =>
    intro f g hf hg i hi
    simp only [List.length_cons] at hi
    rcases Nat.lt_or_ge i q.length with z | z
    · exact ih f g hf.2 hg.2 i z
    · obtain rfl : i = q.length := by omega
      exact hf.1.trans hg.1.symm
theorem yf_path {post : Int32 → SY → Prop} (mv rm sz jm : Int32) (bd od os sq ab ap az aj : Nat → Int32) {m : Nat} {v2 : Int32} {p : List Nat} {rest : List (List Nat)} (hm : m < 2 ^ 31) (hb : dr_V bd) (e2 : (tr_ML bd mv).drop m = p :: rest)
    (h : ∀ jm' sq', tr_S sq' p → (v2 < 0 → post (-1) (mv, rm, nI p.length, jm', bd, od, os, sq', ab, ap, az, aj)) ∧ (¬ v2 < 0 → ((nI p.length ≤ v2 → post (-1) (mv, rm, nI p.length, jm', bd, od, os, sq', ab, ap, az, aj)) ∧ (¬ nI p.length ≤ v2 → (vp_in v2 40 ∧ post (sq' v2.toNatClampNeg) (mv, rm, nI p.length, jm', bd, od, os, sq', ab, ap, az, aj)))))) : wpY_path post (mv, rm, sz, jm, bd, od, os, sq, ab, ap, az, aj) (nI m) v2 := by
  unfold wpY_path
  dsimp only
  refine yf_find mv rm sz jm bd od os sq ab ap az aj hm hb ?_
  intro on sz' sq' hE
  rw [e2] at hE
  obtain ⟨a1, a2, a3, a4, a5⟩ := tr_E_sz hE
  subst a3 a5
  exact br_f (by decide) (h _ sq' a2)
theorem i_vc_path {k : Nat} {u : SX} {v : SY} (I : i_Rel k u v) (hk : k + 3 ≤ 1536) (v1 : Int32) (v2 : Int32) : wpX_path (fun r u' => wpY_path (fun r' v' => r' = r ∧ i_Rel (k + 3) u' v') v v1 v2) u v1 v2 := by
  obtain ⟨mv, ce, ne, fa, li, le, ta, pa, tr, nw, pt, sz, jm, od, os, sq, ab, ap, az, aj, n, r, rfl, rfl, hT, hb, hn, hr, hM⟩ := I
  unfold wpX_path wpX_listAndFind
  dsimp only
  refine xm_list mv (nI n) (nI r) ce ne fa li le ta pa tr nw pt (q := 0) (by omega) hT ?_
  intro li' le' ta' pa' tr' nw' hR
  dsimp only
  have e0 : xm_sd 0 mv = mv := rfl
  rw [e0] at hR
  have hl := iw_512 (b := xt_b ce 0) (sd := mv)
  rw [hR.1]
  by_cases h0 : v1 < 0
  · refine br_t h0 (br_t rfl ?_)
    unfold wpY_path
    dsimp only
    refine yf_findN mv (nI r) sz jm (xt_b ce 0) od os sq ab ap az aj h0 ?_
    exact br_t rfl ⟨rfl, iv_mk rfl hT hb hn hr hM⟩
  · refine br_f h0 ?_
    obtain ⟨m, hm, rfl⟩ := nI_of h0
    refine pk_le (tr_ML (xt_b ce 0) mv).length m (fun z => ?_) (fun z => ?_)
    · refine br_t rfl ?_
      unfold wpY_path
      dsimp only
      refine yf_find mv (nI r) sz jm (xt_b ce 0) od os sq ab ap az aj hm hb ?_
      intro on sz' sq' hE
      have := iw_E0 hE (List.drop_eq_nil_of_le z)
      subst this
      exact br_t rfl ⟨rfl, iv_mk rfl hT hb hn hr hM⟩
    · refine br_f (by decide) ?_
      obtain ⟨p, e1, e2⟩ := xd_drop z
      obtain ⟨w1, w2⟩ := tr_ML_V e1
      obtain ⟨g1, g2, g3, g4⟩ := hR.2.2.1 m p e1
      by_cases h2 : v2 < 0
      · refine br_t h2 (yf_path mv (nI r) sz jm (xt_b ce 0) od os sq ab ap az aj hm hb e2 ?_)
        intro jm' sq' hS
        exact br_t h2 ⟨rfl, iv_mk rfl hT hb hn hr hM⟩
      · refine br_f h2 ⟨vp_in_nI (by omega) (by omega), ?_⟩
        obtain ⟨i, hi, rfl⟩ := nI_of h2
        rw [nI_clamp hm, show le' m = nI p.length from by rw [← g1, Nat.zero_mul, Nat.zero_add]]
        refine pk_lt i p.length (fun y => ?_) (fun y => ?_)
        · rw [xt_m10, nI_clamp (show m * 10 + i < 2 ^ 31 by omega)]
          refine ⟨vp_in_nI (by omega) (by omega), yf_path mv (nI r) sz jm (xt_b ce 0) od os sq ab ap az aj hm hb e2 ?_⟩
          intro jm' sq' hS
          refine br_f h2 (br_f (nI_ge y (by omega)) ⟨vp_in_nI (by omega) (by omega), ?_, iv_mk rfl hT hb hn hr hM⟩)
          rw [nI_clamp hi, tr_S_eq p _ _ hS g3 i y, Nat.zero_mul, Nat.zero_add]
        · refine yf_path mv (nI r) sz jm (xt_b ce 0) od os sq ab ap az aj hm hb e2 ?_
          intro jm' sq' hS
          exact br_f h2 (br_t (nI_le y hi) ⟨rfl, iv_mk rfl hT hb hn hr hM⟩)
theorem i_vc_length {k : Nat} {u : SX} {v : SY} (I : i_Rel k u v) (hk : k + 3 ≤ 1536) (v1 : Int32) : wpX_length (fun r u' => wpY_length (fun r' v' => r' = r ∧ i_Rel (k + 3) u' v') v v1) u v1 := by
  obtain ⟨mv, ce, ne, fa, li, le, ta, pa, tr, nw, pt, sz, jm, od, os, sq, ab, ap, az, aj, n, r, rfl, rfl, hT, hb, hn, hr, hM⟩ := I
  unfold wpX_length wpX_listAndFind
  dsimp only
  refine xm_list mv (nI n) (nI r) ce ne fa li le ta pa tr nw pt (q := 0) (by omega) hT ?_
  intro li' le' ta' pa' tr' nw' hR
  dsimp only
  have e0 : xm_sd 0 mv = mv := rfl
  rw [e0] at hR
  have hl := iw_512 (b := xt_b ce 0) (sd := mv)
  rw [hR.1]
  unfold wpY_length
  dsimp only
  by_cases h0 : v1 < 0
  · refine br_t h0 (br_t rfl ?_)
    refine yf_findN mv (nI r) sz jm (xt_b ce 0) od os sq ab ap az aj h0 ?_
    exact br_t rfl ⟨rfl, iv_mk rfl hT hb hn hr hM⟩
  · refine br_f h0 ?_
    obtain ⟨m, hm, rfl⟩ := nI_of h0
    refine pk_le (tr_ML (xt_b ce 0) mv).length m (fun z => ?_) (fun z => ?_)
    · refine br_t rfl ?_
      refine yf_find mv (nI r) sz jm (xt_b ce 0) od os sq ab ap az aj hm hb ?_
      intro on sz' sq' hE
      have := iw_E0 hE (List.drop_eq_nil_of_le z)
      subst this
      exact br_t rfl ⟨rfl, iv_mk rfl hT hb hn hr hM⟩
    · obtain ⟨p, e1, e2⟩ := xd_drop z
      obtain ⟨g1, g2, g3, g4⟩ := hR.2.2.1 m p e1
      refine br_f (by decide) ⟨vp_in_nI (by omega) (by omega), ?_⟩
      rw [nI_clamp hm, show le' m = nI p.length from by rw [← g1, Nat.zero_mul, Nat.zero_add]]
      refine yf_find mv (nI r) sz jm (xt_b ce 0) od os sq ab ap az aj hm hb ?_
      intro on sz' sq' hE
      rw [e2] at hE
      obtain ⟨a1, a2, a3, a4, a5⟩ := tr_E_sz hE
      subst a3 a5
      exact br_f (by decide) ⟨rfl, iv_mk rfl hT hb hn hr hM⟩
theorem i_vc_mostTaken {k : Nat} {u : SX} {v : SY} (I : i_Rel k u v) (hk : k + 3 ≤ 1536) : wpX_mostTaken (fun r u' => wpY_mostTaken (fun r' v' => r' = r ∧ i_Rel (k + 3) u' v') v) u := by
  obtain ⟨mv, ce, ne, fa, li, le, ta, pa, tr, nw, pt, sz, jm, od, os, sq, ab, ap, az, aj, n, r, rfl, rfl, hT, hb, hn, hr, hM⟩ := I
  unfold wpX_mostTaken
  dsimp only
  refine xm_list mv (nI n) (nI r) ce ne fa li le ta pa tr nw pt (q := 0) (by omega) hT ?_
  intro li' le' ta' pa' tr' nw' hR
  dsimp only
  have e0 : xm_sd 0 mv = mv := rfl
  rw [e0] at hR
  rw [hR.1]
  refine nm_e ⟨(tr_ML (xt_b ce 0) mv).length + 1, ?_⟩
  refine xd_mt mv (nI n) (nI r) ce ne fa li' le' ta' pa' tr' nw' pt (b := xt_b ce 0) hR.2.2.1 iw_512 (fun k p e => tr_ML_V e) (tr_ML (xt_b ce 0) mv).length 0 0 (by omega) ?_
  refine yf_most mv (nI r) sz jm (xt_b ce 0) od os sq ab ap az aj hb ?_
  intro sz' jm' sq'
  exact ⟨rfl, iv_mk rfl hT hb hn hr hM⟩
theorem i_vc_movable {k : Nat} {u : SX} {v : SY} (I : i_Rel k u v) (hk : k + 3 ≤ 1536) : wpX_movable (fun r u' => wpY_movable (fun r' v' => r' = r ∧ i_Rel (k + 3) u' v') v) u := by
  obtain ⟨mv, ce, ne, fa, li, le, ta, pa, tr, nw, pt, sz, jm, od, os, sq, ab, ap, az, aj, n, r, rfl, rfl, hT, hb, hn, hr, hM⟩ := I
  unfold wpX_movable
  dsimp only
  refine xm_list mv (nI n) (nI r) ce ne fa li le ta pa tr nw pt (q := 0) (by omega) hT ?_
  intro li' le' ta' pa' tr' nw' hR
  dsimp only
  have e0 : xm_sd 0 mv = mv := rfl
  rw [e0] at hR
  rw [hR.1]
  refine nm_e ⟨(tr_ML (xt_b ce 0) mv).length + 1, ?_⟩
  refine xd_mo mv (nI n) (nI r) ce ne fa li' le' ta' pa' tr' nw' pt (b := xt_b ce 0) hR.2.2.1 iw_512 (fun k p e => tr_ML_V e) (tr_ML (xt_b ce 0) mv).length 0 0 (by omega) ?_
  refine yf_mova mv (nI r) sz jm (xt_b ce 0) od os sq ab ap az aj hb ?_
  intro sz' jm' sq'
  exact ⟨rfl, iv_mk rfl hT hb hn hr hM⟩
end
section
/-! play, back, plays -/
theorem i_vc_play {k : Nat} {u : SX} {v : SY} (I : i_Rel k u v) (hk : k + 3 ≤ 1536) (v1 : Int32) : wpX_play (fun r u' => wpY_play (fun r' v' => r' = r ∧ i_Rel (k + 3) u' v') v v1) u v1 := by
  obtain ⟨mv, ce, ne, fa, li, le, ta, pa, tr, nw, pt, sz, jm, od, os, sq, ab, ap, az, aj, n, r, rfl, rfl, hT, hb, hn, hr, hM⟩ := I
  unfold wpX_play wpX_listAndFind
  dsimp only
  refine xm_list mv (nI n) (nI r) ce ne fa li le ta pa tr nw pt (q := 0) (by omega) hT ?_
  intro li' le' ta' pa' tr' nw' hR
  dsimp only
  have e0 : xm_sd 0 mv = mv := rfl
  rw [e0] at hR
  have hl := iw_512 (b := xt_b ce 0) (sd := mv)
  rw [hR.1]
  by_cases h0 : v1 < 0
  · refine br_t h0 (br_t rfl ?_)
    unfold wpY_play
    dsimp only
    refine yf_findN mv (nI r) sz jm (xt_b ce 0) od os sq ab ap az aj h0 ?_
    exact br_t rfl ⟨rfl, iv_mk rfl hT hb hn hr hM⟩
  · refine br_f h0 ?_
    obtain ⟨m, hm, rfl⟩ := nI_of h0
    refine pk_le (tr_ML (xt_b ce 0) mv).length m (fun z => ?_) (fun z => ?_)
    · refine br_t rfl ?_
      unfold wpY_play
      dsimp only
      refine yf_find mv (nI r) sz jm (xt_b ce 0) od os sq ab ap az aj hm hb ?_
      intro on sz' sq' hE
      have := iw_E0 hE (List.drop_eq_nil_of_le z)
      subst this
      exact br_t rfl ⟨rfl, iv_mk rfl hT hb hn hr hM⟩
    · refine br_f (by decide) ?_
      obtain ⟨p, e1, e2⟩ := xd_drop z
      obtain ⟨w1, w2⟩ := tr_ML_V e1
      obtain ⟨g1, g2, g3, g4⟩ := hR.2.2.1 m p e1
      refine xr_rem mv 0 0 ce ne fa li' le' ta' pa' tr' nw' pt hr hn ?_
      dsimp only
      refine xc_carry mv _ _ ce ne fa li' le' ta' pa' tr' nw' _ (q := 0) (q' := 0) (k := m) (by omega) (by omega) (by omega) w1 g1 g2 g3 ?_
      intro ce' c1 c2
      dsimp only
      refine nm_e ?_
      refine xd_takenBy (1 - mv) _ _ ce' ne fa li' le' ta' pa' tr' nw' _ hR.2.2.1 (by omega) e1 (tr_V_b w1) w2 ?_
      unfold wpY_play
      dsimp only
      refine yf_find mv (nI r) sz jm (xt_b ce 0) od os sq ab ap az aj hm hb ?_
      intro on sz' sq' hE
      rw [e2] at hE
      obtain ⟨a1, a2, a3, a4, a5⟩ := tr_E_sz hE
      subst a3 a5
      refine br_f (by decide) ?_
      refine yr_rem mv 0 _ _ (xt_b ce 0) od os sq' ab ap az aj (pt' := cp_ pt (n * 32) 32 ce) (ce := ce) hr hn hM (fun i hi => cp_in hi) (fun i hi => cp_out hi) (fun i hi => by rw [xt_in hi, Nat.zero_mul, Nat.zero_add]) hb ?_
      intro od' os' hM'
      dsimp only
      refine ye_carry mv _ 0 0 (xt_b ce 0) od' os' sq' ab ap az aj hb a1 a2 ?_
      exact ⟨rfl, iv_mk c1.symm hT (tr_ap_V hb) (by omega) (by split <;> omega) hM'⟩
theorem iz_yback {post : Int32 → SY → Prop} (mv rm sz jm : Int32) (bd od os sq ab ap az aj : Nat → Int32) {r : Nat} (hr : r + 1 ≤ 20) (h : post 1 (os r, nI r, sz, jm, cp_ bd 0 32 (fun i => od (32 * r + i)), od, os, sq, ab, ap, az, aj)) : wpY_back post (mv, nI (r + 1), sz, jm, bd, od, os, sq, ab, ap, az, aj) := by
  unfold wpY_back
  dsimp only
  refine br_f (nI_ne0 (by omega) (by omega)) (nm_r (nI_pred r) ⟨32 + 1, ?_⟩)
  have k := yk_21 (post := post) mv 0 sz jm bd od os sq ab ap az aj (r := r) (by omega) h 32 0 (by omega)
  rw [cp_0] at k
  exact k
theorem iz_xback {post : Int32 → SX → Prop} (mv pn pc : Int32) (ce ne fa li le ta pa tr nw pt : Nat → Int32) {n r : Nat} (hn : n < 20) (hr : r + 1 ≤ 20) (h : post 1 (1 - mv, nI ((n + 19) % 20), nI r, cp_ ce 0 32 (fun i => pt ((n + 19) % 20 * 32 + i)), ne, fa, li, le, ta, pa, tr, nw, pt)) : wpX_back post (mv, nI n, nI (r + 1), ce, ne, fa, li, le, ta, pa, tr, nw, pt) := by
  unfold wpX_back
  dsimp only
  refine br_f (nI_ne0 (by omega) (by omega)) (nm_r (nI_pred r) ?_)
  have k := xk_43 (post := post) mv 0 (nI r) ce ne fa li le ta pa tr nw pt (n := (n + 19) % 20) (by omega) h 32 0 (by omega)
  rw [cp_0] at k
  refine pk_eq n 0 (fun z => ⟨32 + 1, ?_⟩) (fun z => nm_r (e' := nI ((n + 19) % 20)) ?_ ⟨32 + 1, k⟩)
  · subst z
    exact k
  · obtain ⟨m, rfl⟩ : ∃ m, n = m + 1 := ⟨n - 1, by omega⟩
    rw [nI_pred, show (m + 1 + 19) % 20 = m by omega]
theorem i_vc_back {k : Nat} {u : SX} {v : SY} (I : i_Rel k u v) (hk : k + 3 ≤ 1536) : wpX_back (fun r u' => wpY_back (fun r' v' => r' = r ∧ i_Rel (k + 3) u' v') v) u := by
  obtain ⟨mv, ce, ne, fa, li, le, ta, pa, tr, nw, pt, sz, jm, od, os, sq, ab, ap, az, aj, n, r, rfl, rfl, hT, hb, hn, hr, hM⟩ := I
  cases r with
  | zero =>
    unfold wpX_back wpY_back
    dsimp only
    exact br_t rfl (br_t rfl ⟨rfl, iv_mk rfl hT hb hn hr hM⟩)
  | succ r =>
    refine iz_xback mv 0 0 ce ne fa li le ta pa tr nw pt hn hr ?_
    refine iz_yback mv 0 sz jm (xt_b ce 0) od os sq ab ap az aj hr ⟨rfl, ?_⟩
    obtain ⟨h1, h2⟩ := hM 0 (by omega)
    have e : os r = 1 - mv := h2
    rw [e]
    have hB : cp_ (xt_b ce 0) 0 32 (fun i => od (32 * r + i)) = xt_b (cp_ ce 0 32 (fun i => pt ((n + 19) % 20 * 32 + i))) 0 := by
      rw [← iv_cp]
      funext i
      unfold cp_
      split
      · rename_i hi
        exact (h1 (i - 0) (by omega)).1.symm
      · rfl
    refine iv_mk hB hT ?_ (by omega) (by omega) (mm_pop hr hn hM)
    intro i
    unfold cp_
    split
    · rename_i hi
      exact (h1 (i - 0) (by omega)).2
    · exact hb i
theorem iz_plays {k : Nat} {mv sz jm d : Int32} {ce ne fa li le ta pa tr nw pt od os sq ab ap az aj : Nat → Int32} {n r : Nat} (hT : xt_T ne fa) (hb : dr_V (xt_b ce 0)) (hn : n < 20) (hr : r ≤ 20) (hM : mm_ mv n r pt od os) (h0 : ¬ d < 0) (h3 : d ≤ 3) (h2 : 2 ≤ d) (hd0 : ¬ d = 0) (hd1 : ¬ d = 1) : wpX_plays (fun ra u' => wpY_plays (fun r' v' => r' = ra ∧ i_Rel (k + 3) u' v') (mv, nI r, sz, jm, xt_b ce 0, od, os, sq, ab, ap, az, aj) d) (mv, nI n, nI r, ce, ne, fa, li, le, ta, pa, tr, nw, pt) d := by
  unfold wpX_plays
  dsimp only
  refine br_f h0 (br_t h3 (br_f hd0 ?_))
  refine xm_list mv (nI n) (nI r) ce ne fa li le ta pa tr nw pt (q := 0) (by omega) hT ?_
  intro li' le' ta' pa' tr' nw' hR
  dsimp only
  have e0 : xm_sd 0 mv = mv := rfl
  rw [e0] at hR
  refine br_f hd1 ?_
  rw [hR.1]
  refine nm_e ⟨(tr_ML (xt_b ce 0) mv).length + 1, ?_⟩
  refine xe_pl mv (nI n) (nI r) ne fa pt (b := xt_b ce 0) hT iw_512 (fun k p e => tr_ML_V e) ?_ (tr_ML (xt_b ce 0) mv).length 0 0 ce li' le' ta' pa' tr' nw' (by omega) rfl ⟨hR.2.2.1, rfl⟩
  intro ce' li2 le2 ta2 pa2 tr2 nw2 hK
  refine yg_plays mv (nI r) sz jm (xt_b ce 0) od os sq ab ap az aj hb h0 h3 h2 ?_
  intro sz' jm' sq' ab' ap' az' aj'
  exact ⟨rfl, iv_mk hK.2.symm hT hb hn hr hM⟩
theorem i_vc_plays {k : Nat} {u : SX} {v : SY} (I : i_Rel k u v) (hk : k + 3 ≤ 1536) (v1 : Int32) : wpX_plays (fun r u' => wpY_plays (fun r' v' => r' = r ∧ i_Rel (k + 3) u' v') v v1) u v1 := by
  obtain ⟨mv, ce, ne, fa, li, le, ta, pa, tr, nw, pt, sz, jm, od, os, sq, ab, ap, az, aj, n, r, rfl, rfl, hT, hb, hn, hr, hM⟩ := I
  have R : i_Rel (k + 3) (mv, nI n, nI r, ce, ne, fa, li, le, ta, pa, tr, nw, pt) (mv, nI r, sz, jm, xt_b ce 0, od, os, sq, ab, ap, az, aj) := iv_mk rfl hT hb hn hr hM
  by_cases h0 : v1 < 0
  · unfold wpX_plays wpY_plays
    dsimp only
    exact br_t h0 (br_t h0 ⟨rfl, R⟩)
  · by_cases h3 : v1 ≤ 3
    · obtain ⟨j, hj, rfl⟩ := nI_of h0
      have hj3 : j ≤ 3 := by
        rcases Nat.lt_or_ge 3 j with z | z
        · exact absurd h3 (nI_ge (a := 3) z hj)
        · exact z
      obtain rfl | rfl | rfl | rfl : j = 0 ∨ j = 1 ∨ j = 2 ∨ j = 3 := by omega
      · unfold wpX_plays wpY_plays
        dsimp only
        exact br_f h0 (br_t h3 (br_t rfl (br_f h0 (br_t h3 (br_f (by decide) (br_t rfl ⟨rfl, R⟩))))))
      · unfold wpX_plays
        dsimp only
        refine br_f h0 (br_t h3 (br_f (by decide) ?_))
        refine xm_list mv (nI n) (nI r) ce ne fa li le ta pa tr nw pt (q := 0) (by omega) hT ?_
        intro li' le' ta' pa' tr' nw' hR
        dsimp only
        refine br_t rfl ?_
        rw [hR.1]
        unfold wpY_plays
        dsimp only
        refine br_f h0 (br_t h3 (br_f (by decide) (br_f (by decide) ?_)))
        refine yf_moves mv (nI r) sz jm (xt_b ce 0) od os sq ab ap az aj hb ?_
        intro sz' jm' sq'
        exact ⟨rfl, iv_mk rfl hT hb hn hr hM⟩
      · exact iz_plays hT hb hn hr hM h0 h3 (by decide) (by decide) (by decide)
      · exact iz_plays hT hb hn hr hM h0 h3 (by decide) (by decide) (by decide)
    · unfold wpX_plays wpY_plays
      dsimp only
      exact br_f h0 (br_f h3 (br_f h0 (br_f h3 ⟨rfl, R⟩)))
end
