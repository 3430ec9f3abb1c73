/-! copies -/
def cp_ (d : Nat → Int32) (o k : Nat) (g : Nat → Int32) : Nat → Int32 := fun i => if o ≤ i ∧ i < o + k then g (i - o) else d i
theorem cp_0 {d g : Nat → Int32} {o : Nat} : cp_ d o 0 g = d := by
  funext i
  unfold cp_
  rw [if_neg (by omega)]
theorem cp_s {d g : Nat → Int32} {o k : Nat} : upd (cp_ d o k g) (o + k) (g k) = cp_ d o (k + 1) g := by
  funext i
  unfold cp_ upd
  by_cases h : i = o + k
  · subst h
    rw [if_pos rfl, if_pos (by omega), Nat.add_sub_cancel_left]
  · rw [if_neg h]
    dsimp only
    by_cases h2 : o ≤ i ∧ i < o + k
    · rw [if_pos h2, if_pos (by omega)]
    · rw [if_neg h2, if_neg (by omega)]
theorem cp_in {d g : Nat → Int32} {o k i : Nat} (h : i < k) : cp_ d o k g (o + i) = g i := by
  unfold cp_
  rw [if_pos (by omega), Nat.add_sub_cancel_left]
theorem cp_in0 {d g : Nat → Int32} {k i : Nat} (h : i < k) : cp_ d 0 k g i = g i := by
  unfold cp_
  rw [if_pos (by omega), Nat.sub_zero]
theorem cp_out {d g : Nat → Int32} {o k i : Nat} (h : i < o ∨ o + k ≤ i) : cp_ d o k g i = d i := by
  unfold cp_
  rw [if_neg (by omega)]
theorem cp_eq {d g b : Nat → Int32} {k : Nat} (h1 : ∀ i, i < k → g i = b i) (h2 : ∀ i, k ≤ i → d i = b i) : cp_ d 0 k g = b := by
  funext i
  rcases Nat.lt_or_ge i k with h | h
  · rw [cp_in0 h, h1 i h]
  · rw [cp_out (by omega), h2 i h]
theorem tr_S_congr {sq sq' : Nat → Int32} : ∀ {p : List Nat}, (∀ i, i < p.length → sq' i = sq i) → tr_S sq p → tr_S sq' p
  | [], _, _ => True.intro
  | t :: q, hn, h => by
    simp only [List.length_cons] at hn
    exact ⟨(hn _ (by omega)).trans h.1, tr_S_congr (fun i hi => hn i (by omega)) h.2⟩
/-! a move carried out -/
def tr_ap (j : Bool) (b : Nat → Int32) (p : List Nat) : Nat → Int32 := fun i =>
  if i = p.headD 0 then (if dr_la (b (tr_l p)) (p.headD 0) = true then b (tr_l p) + 1 else b (tr_l p))
  else if i = tr_l p then 0 else if j = true ∧ (tr_cr p).contains i = true then 0 else b i
theorem tr_ap_cons (j : Bool) (b : Nat → Int32) (s : Nat) (q : List Nat) : tr_ap j b (s :: q) = fun i =>
  if i = s then (if dr_la (b (tr_l (s :: q))) s = true then b (tr_l (s :: q)) + 1 else b (tr_l (s :: q)))
  else if i = tr_l (s :: q) then 0 else if j = true ∧ (tr_cr (s :: q)).contains i = true then 0 else b i := rfl
def tr_tk (j : Bool) (p : List Nat) : Int32 := if j = true then nI (p.length - 1) else 0
theorem tr_5up {x : Int32} {s : Nat} (hx : dr_5 x) (h : dr_la x s = true) : dr_5 (x + 1) := by
  rcases hx with rfl | rfl | rfl | rfl | rfl
  · simp [dr_la] at h
  · exact Or.inr (Or.inr (Or.inl (by decide)))
  · simp [dr_la] at h
  · exact Or.inr (Or.inr (Or.inr (Or.inr (by decide))))
  · simp [dr_la] at h
theorem tr_ap_V {j : Bool} {b : Nat → Int32} {p : List Nat} (hb : dr_V b) : dr_V (tr_ap j b p) := by
  intro i
  unfold tr_ap
  split
  · split
    · rename_i h; exact tr_5up (hb _) h
    · exact hb _
  · split
    · exact Or.inl rfl
    · split
      · exact Or.inl rfl
      · exact hb _
theorem tr_cr_32 : ∀ {p : List Nat}, (∀ x, x ∈ p → x < 32) → ∀ x, x ∈ tr_cr p → x < 32
  | [], _, x, hx => absurd hx (by simp [tr_cr])
  | [_], _, x, hx => absurd hx (by simp [tr_cr])
  | t :: s :: q, hb, x, hx => by
    rcases List.mem_cons.mp hx with rfl | hx
    · exact ge_mid32 s (hb s (by simp)) t (hb t (by simp))
    · exact tr_cr_32 (p := s :: q) (fun y hy => hb y (List.mem_cons_of_mem _ hy)) x hx
theorem tr_ap_hi {j : Bool} {b : Nat → Int32} {p : List Nat} (hV : tr_V j b p) {i : Nat} (hi : 32 ≤ i) : tr_ap j b p i = b i := by
  have hl := tr_V_l hV
  cases p with
  | nil => exact hV.elim
  | cons s q =>
    have hs := tr_V_hd hV
    unfold tr_ap
    rw [if_neg (by simp only [List.headD_cons]; omega), if_neg (by omega), if_neg]
    intro h
    have := tr_cr_32 (tr_V_b hV) i (by simpa using h.2)
    omega
theorem ye_106 {post : Int32 → SY → Prop} (mv rm sz jm : Int32) (bd od os sq ab ap az aj : Nat → Int32) {z : Int32} {j : Bool} {k s : Nat} (hs : s < 32) (h : post (if j = true then nI k else 0) (1 - mv, rm, nI (k + 1), dr_bI j, upd bd s z, od, os, sq, ab, ap, az, aj)) : wY_carryOut_106 post z (nI s) mv rm (nI (k + 1)) (dr_bI j) bd od os sq ab ap az aj := by
  refine ⟨vp_in_nI hs (by omega), ?_⟩
  rw [nI_clamp (by omega)]
  refine nm_e (nm_e ?_)
  cases j with
  | true =>
    refine br_f (by decide) ?_
    rw [nI_pred]
    exact h
  | false => exact br_t rfl h
theorem ye_85 {post : Int32 → SY → Prop} (mv rm sz jm : Int32) (bd od os sq ab ap az aj : Nat → Int32) {x : Int32} {j : Bool} {k s : Nat} (hx : dr_5 x) (hs : s < 32) (h : post (if j = true then nI k else 0) (1 - mv, rm, nI (k + 1), dr_bI j, upd bd s (if dr_la x s = true then x + 1 else x), od, os, sq, ab, ap, az, aj)) : wY_carryOut_85 post x (nI s) mv rm (nI (k + 1)) (dr_bI j) bd od os sq ab ap az aj := by
  unfold wY_carryOut_85
  refine ya_last hx hs ?_
  cases hc : dr_la x s with
  | true =>
    rw [hc] at h
    exact br_f (by decide) (ye_106 mv rm sz jm bd od os sq ab ap az aj hs h)
  | false =>
    rw [hc] at h
    exact br_t rfl (ye_106 mv rm sz jm bd od os sq ab ap az aj hs h)
theorem ye_38 {post : Int32 → SY → Prop} (mv rm sz jm : Int32) (bd od os sq ab ap az aj : Nat → Int32) {x y : Int32} {k : Nat} (hk : k < 39) (hg : ∀ i, i ≤ k → sq i = nI (sq i).toNatClampNeg ∧ (sq i).toNatClampNeg < 32)
    (h : wY_carryOut_85 post x y mv rm (nI (k + 1)) (dr_bI true) (fun m => if ya_jf (fun i => (sq i).toNatClampNeg) m k = true then 0 else bd m) od os sq ab ap az aj) :
    ∀ d i, i + d = k → wY_carryOut_38 post x y mv rm (nI (k + 1)) (dr_bI true) (d + 1) (nI i) (fun m => if ya_jf (fun i => (sq i).toNatClampNeg) m i = true then 0 else bd m) od os sq ab ap az aj := by
  intro d
  induction d with
  | zero =>
    intro i hi
    obtain rfl : i = k := by omega
    exact pk_le (i + 1) (i + 1) (fun _ => h) (fun z => absurd z (by omega)) rfl (nI_1 i)
  | succ d ih =>
    intro i hi
    refine pk_le (k + 1) (i + 1) (fun z => absurd z (by omega)) (fun _ => ?_) rfl (nI_1 i)
    have h1 := ih (i + 1) (by omega)
    obtain ⟨ga, gb⟩ := hg i (by omega)
    obtain ⟨gc, gd⟩ := hg (i + 1) (by omega)
    have hm := ge_mid32 _ gb _ gd
    refine br_f (by decide) ⟨vp_in_nI (by omega) (by omega), by rw [nI_1]; exact vp_in_nI (by omega) (by omega), ?_⟩
    rw [nI_1 i, nI_clamp (by omega), nI_clamp (by omega), ga, gc]
    refine ya_btw gb gd ⟨vp_in_nI hm (by omega), nm_r ?_ (nm_e h1)⟩
    rw [nI_clamp (by omega)]
    funext m
    unfold upd
    simp only [ya_jf, Bool.or_eq_true, beq_iff_eq]
    by_cases z : m = ge_mid (sq i).toNatClampNeg (sq (i + 1)).toNatClampNeg
    · rw [if_pos (Or.inr z.symm), if_pos z]
    · rw [if_neg z]
      by_cases z2 : ya_jf (fun i => (sq i).toNatClampNeg) m i = true
      · rw [if_pos z2, if_pos (Or.inl z2)]
      · rw [if_neg z2, if_neg (by intro w; rcases w with w | w; exact z2 w; exact z w.symm)]
theorem ye_carry {post : Int32 → SY → Prop} (mv rm sz jm : Int32) (bd od os sq ab ap az aj : Nat → Int32) {j : Bool} {p : List Nat} (hb : dr_V bd) (hV : tr_V j bd p) (hS : tr_S sq p) (h : post (tr_tk j p) (1 - mv, rm, nI p.length, dr_bI j, tr_ap j bd p, od, os, sq, ab, ap, az, aj)) : wpY_carryOut post (mv, rm, nI p.length, dr_bI j, bd, od, os, sq, ab, ap, az, aj) := by
  cases p with
  | nil => exact hV.elim
  | cons s q =>
    have hs := tr_V_hd hV
    have hl := tr_V_l hV
    have hn := tr_V_len hV
    have e0 := tr_S_0 (by simp) hS
    have e1 : nI (s :: q).length - 1 = nI q.length := nI_pred _
    have hB := tr_V_b hV
    simp only [List.length_cons] at hn
    unfold wpY_carryOut
    dsimp only
    rw [e0, e1, nI_clamp (by omega), nI_clamp (by omega), hS.1]
    refine ⟨vp_in_nI hl (by omega), nm_e ⟨vp_in_nI (by omega) (by omega), nm_e ⟨vp_in_nI hl (by omega), nm_e ?_⟩⟩⟩
    cases j with
    | true =>
      refine ⟨q.length + 1, ?_⟩
      have k := ye_38 (post := post) mv rm sz jm (upd bd (tr_l (s :: q)) 0) od os sq ab ap az aj (x := bd (tr_l (s :: q))) (y := nI s) (k := q.length) (by omega) (fun i hi => tr_S_at hB hS i (by simp only [List.length_cons]; omega)) (by
        refine ye_85 mv rm sz jm _ od os sq ab ap az aj (j := true) (k := q.length) (hb _) hs ?_
        have e : upd (fun m => if ya_jf (fun i => (sq i).toNatClampNeg) m q.length = true then 0 else upd bd (tr_l (s :: q)) 0 m) s (if dr_la (bd (tr_l (s :: q))) s = true then bd (tr_l (s :: q)) + 1 else bd (tr_l (s :: q))) = tr_ap true bd (s :: q) := by
          funext m
          rw [show (fun m => if ya_jf (fun i => (sq i).toNatClampNeg) m q.length = true then 0 else upd bd (tr_l (s :: q)) 0 m) = (fun m => if (tr_cr (s :: q)).contains m = true then 0 else upd bd (tr_l (s :: q)) 0 m) from by funext m; rw [ya_jf_cr q s hB hS]]
          rw [tr_ap_cons]
          unfold upd
          dsimp only
          by_cases z : m = s
          · rw [if_pos z, if_pos z]
          · rw [if_neg z, if_neg z]
            by_cases z2 : m = tr_l (s :: q)
            · rw [if_pos z2, if_pos z2]; split <;> rfl
            · rw [if_neg z2, if_neg z2]
              by_cases z4 : (tr_cr (s :: q)).contains m = true
              · rw [if_pos z4, if_pos ⟨rfl, z4⟩]
              · rw [if_neg z4, if_neg (fun w => z4 w.2)]
        rw [e]
        exact h) q.length 0 (by omega)
      have e3 : (fun m => if ya_jf (fun i => (sq i).toNatClampNeg) m 0 = true then 0 else upd bd (tr_l (s :: q)) 0 m) = upd bd (tr_l (s :: q)) 0 := by
        funext m
        rw [if_neg (by simp [ya_jf])]
      rw [e3] at k
      exact k
    | false =>
      refine ⟨1, ?_⟩
      have k : wY_carryOut_85 post (bd (tr_l (s :: q))) (nI s) mv rm (nI (q.length + 1)) (dr_bI false) (upd bd (tr_l (s :: q)) 0) od os sq ab ap az aj := by
        refine ye_85 mv rm sz jm _ od os sq ab ap az aj (j := false) (k := q.length) (hb _) hs ?_
        have e : upd (upd bd (tr_l (s :: q)) 0) s (if dr_la (bd (tr_l (s :: q))) s = true then bd (tr_l (s :: q)) + 1 else bd (tr_l (s :: q))) = tr_ap false bd (s :: q) := by
          funext m
          rw [tr_ap_cons]
          unfold upd
          simp
        rw [e]
        exact h
      exact br_c (fun _ => k) (fun _ => br_t rfl k)
