theorem enumC_home (fbe : Nat → Nat) {fho fho' : Nat → Nat} : ∀ d n L, (∀ k, n ≤ k → k < n + d → fho k = fho' k) → enumC fbe fho d n L = enumC fbe fho' d n L := by
  intro d
  induction d with
  | zero => intro n L _; rfl
  | succ d ih =>
    intro n L h
    rw [enumC, enumC, h n (Nat.le_refl _) (by omega)]
    congr 1
    funext cd
    rw [ih (n + 1) _ (fun k h1 h2 => h k (by omega) (by omega))]
theorem costS_home {fho fho' : Nat → Nat} : ∀ t n, (∀ k, n ≤ k → k < n + t.length → fho k = fho' k) → costS fho n t = costS fho' n t := by
  intro t
  induction t with
  | nil => intro n _; rfl
  | cons cd t ih =>
    intro n h
    show costN cd (fho n) + costS fho (n + 1) t = costN cd (fho' n) + costS fho' (n + 1) t
    rw [h n (Nat.le_refl _) (by simp), ih (n + 1) (fun k h1 h2 => h k (by omega) (by simp; omega))]
theorem fold_best (fho : Nat → Nat) (nm : Nat) (tr : Nat → Nat) : ∀ (E : List (List Nat)) (b : (Nat → Nat) × Nat × Nat),
    ((∀ t ∈ E, b.2.2 ≤ costS fho 0 t) ∧ E.foldl (stB fho nm 0 0 tr 0) b = b) ∨ (∃ t E1 E2, E = E1 ++ t :: E2 ∧ costS fho 0 t < b.2.2 ∧ (∀ t' ∈ E, costS fho 0 t ≤ costS fho 0 t') ∧ (∀ t' ∈ E1, costS fho 0 t < costS fho 0 t') ∧ (E.foldl (stB fho nm 0 0 tr 0) b).2 = (costS fho 0 t, costS fho 0 t) ∧ ∀ j, j < nm → (E.foldl (stB fho nm 0 0 tr 0) b).1 j = t.getD j 0) := by
  intro E
  induction E with
  | nil => intro b; exact Or.inl ⟨fun t h => absurd h List.not_mem_nil, rfl⟩
  | cons t0 E ih =>
    intro b
    rw [List.foldl_cons]
    by_cases hc : costS fho 0 t0 < b.2.2
    · have e : stB fho nm 0 0 tr 0 b t0 = ((fun j => if j < nm then (if j < 0 then tr j else t0.getD (j - 0) 0) else b.1 j), costS fho 0 t0, costS fho 0 t0) := by
        unfold stB
        rw [Nat.zero_add, if_pos hc, if_pos rfl]
      rw [e]
      rcases ih ((fun j => if j < nm then (if j < 0 then tr j else t0.getD (j - 0) 0) else b.1 j), costS fho 0 t0, costS fho 0 t0) with ⟨h1, h2⟩ | ⟨t, E1, E2, h0, h1, h2, h3, h4, h5⟩
      · refine Or.inr ⟨t0, [], E, rfl, hc, ?_, fun t' h => absurd h List.not_mem_nil, ?_, ?_⟩
        · intro t' ht'
          rcases List.mem_cons.mp ht' with q | q
          · rw [q]; exact Nat.le_refl _
          · exact h1 t' q
        · rw [h2]
        · intro j hj
          rw [h2]
          show (if j < nm then (if j < 0 then tr j else t0.getD (j - 0) 0) else b.1 j) = _
          rw [if_pos hj, if_neg (by omega)]
          rfl
      · have h1' : costS fho 0 t < costS fho 0 t0 := h1
        refine Or.inr ⟨t, t0 :: E1, E2, by rw [h0]; rfl, by omega, ?_, ?_, h4, h5⟩
        · intro t' ht'
          rcases List.mem_cons.mp ht' with q | q
          · rw [q]; omega
          · exact h2 t' q
        · intro t' ht'
          rcases List.mem_cons.mp ht' with q | q
          · rw [q]; exact h1'
          · exact h3 t' q
    · have e : stB fho nm 0 0 tr 0 b t0 = b := by
        unfold stB
        rw [Nat.zero_add, if_neg hc]
      rw [e]
      rcases ih b with ⟨h1, h2⟩ | ⟨t, E1, E2, h0, h1, h2, h3, h4, h5⟩
      · refine Or.inl ⟨?_, h2⟩
        intro t' ht'
        rcases List.mem_cons.mp ht' with q | q
        · rw [q]; omega
        · exact h1 t' q
      · refine Or.inr ⟨t, t0 :: E1, E2, by rw [h0]; rfl, h1, ?_, ?_, h4, h5⟩
        · intro t' ht'
          rcases List.mem_cons.mp ht' with q | q
          · rw [q]; omega
          · exact h2 t' q
        · intro t' ht'
          rcases List.mem_cons.mp ht' with q | q
          · rw [q]; omega
          · exact h3 t' q
theorem findY_at {nn : Nat} {fhm fbd fal fho fle : Nat → Nat} : ∀ k i (y : (Nat → Nat) × (Nat → Nat)) j, (zlp (findBody fhm fbd fal) k i y).1 j = (if i ≤ j ∧ j < i + k then fhm j else y.1 j) ∧ (zlp (findBody fhm fbd fal) k i y).2 j = (if i ≤ j ∧ j < i + k then (fal j) &&& ((fbd j) ^^^ 4294967295) else y.2 j) := by
  intro k
  induction k with
  | zero => intro i y j; rw [if_neg (by omega), if_neg (by omega)]; exact ⟨rfl, rfl⟩
  | succ k ih =>
    intro i y j
    have h := ih (i + 1) (findBody fhm fbd fal i y) j
    have e1 : (findBody fhm fbd fal i y).1 j = if j = i then fhm i else y.1 j := rfl
    have e2 : (findBody fhm fbd fal i y).2 j = if j = i then (fal i) &&& ((fbd i) ^^^ 4294967295) else y.2 j := rfl
    rw [e1, e2] at h
    refine ⟨h.1.trans ?_, h.2.trans ?_⟩
    · by_cases h1 : i + 1 ≤ j ∧ j < i + 1 + k
      · rw [if_pos h1, if_pos (by omega)]
      · rw [if_neg h1]
        by_cases h2 : j = i
        · rw [if_pos h2, if_pos (by omega), h2]
        · rw [if_neg h2, if_neg (by omega)]
    · by_cases h1 : i + 1 ≤ j ∧ j < i + 1 + k
      · rw [if_pos h1, if_pos (by omega)]
      · rw [if_neg h1]
        by_cases h2 : j = i
        · rw [if_pos h2, if_pos (by omega), h2]
        · rw [if_neg h2, if_neg (by omega)]
/-- the class's find, in the choices E of the masks L, counted from the home -/
theorem findX_fold {nn ef : Nat} {fbe fhm fbd fal fho fle ftr fke : Nat → Nat} (hn : nn ≤ 8) (h1 : ∀ j, j < nn → fhm j < 32) (h3 : ∀ j, fal j < 128) : (findX nn ef fbe fhm fbd fal fho fle ftr fke).2.2 = (enumC fbe fhm nn 0 (fun k => (fal k) &&& ((fbd k) ^^^ 4294967295))).foldl (stB (findY nn fhm fbd fal fho fle).1 nn ef 0 ftr 0) (fke, 144, 144) := by
  have h := (gf_main nn ef fbe (findY nn fhm fbd fal fho fle).1 hn (fun j hj => by
      show (zlp (findBody fhm fbd fal) nn 0 (fho, fle)).1 j < 32
      rw [(findY_at (nn := nn) (fho := fho) (fle := fle) nn 0 (fho, fle) j).1, if_pos (by omega)]
      exact h1 j hj) nn 0 0 ((findY nn fhm fbd fal fho fle).2, ftr, fke, 144, 144) (by omega) (by show 0 < 144; decide) (fun j _ hj => by
      show (zlp (findBody fhm fbd fal) nn 0 (fho, fle)).2 (0 * 8 + j) < 128
      rw [show 0 * 8 + j = j by omega, (findY_at (nn := nn) (fho := fho) (fle := fle) nn 0 (fho, fle) j).2, if_pos (by omega)]
      exact and_lt128 (h3 j))).1
  unfold findX
  rw [h]
  have e1 : enumC fbe (findY nn fhm fbd fal fho fle).1 nn 0 (fun k => (findY nn fhm fbd fal fho fle).2 (0 * 8 + k)) = enumC fbe fhm nn 0 (fun k => (fal k) &&& ((fbd k) ^^^ 4294967295)) := by
    rw [enumC_home fbe (fho' := fhm) nn 0 _ (fun k _ hk => by
      show (zlp (findBody fhm fbd fal) nn 0 (fho, fle)).1 k = _
      rw [(findY_at (nn := nn) (fho := fho) (fle := fle) nn 0 (fho, fle) k).1, if_pos (by omega)])]
    refine enumC_congr _ _ _ _ _ _ (fun k _ hk => ?_)
    show (zlp (findBody fhm fbd fal) nn 0 (fho, fle)).2 (0 * 8 + k) = _
    rw [show 0 * 8 + k = k by omega, (findY_at (nn := nn) (fho := fho) (fle := fle) nn 0 (fho, fle) k).2, if_pos (by omega)]
  show List.foldl _ _ (enumC fbe (findY nn fhm fbd fal fho fle).1 nn 0 (fun k => (findY nn fhm fbd fal fho fle).2 (0 * 8 + k))) = _
  rw [e1]
theorem costS_lt (fho : Nat → Nat) : ∀ t n, t.length ≤ 8 → costS fho n t ≤ 17 * t.length := by
  intro t
  induction t with
  | nil => intro n _; exact Nat.le_refl _
  | cons cd t ih =>
    intro n h
    have h1 := ih (n + 1) (by simp at h; omega)
    have h2 := costN_le cd (fho n)
    show costN cd (fho n) + costS fho (n + 1) t ≤ 17 * (t.length + 1)
    omega
theorem findB {nn : Nat} {fbe fhm fbd fal fho fle ftr fke : Nat → Nat} (hn : nn ≤ 8) (h1 : ∀ j, j < nn → fhm j < 32) (h3 : ∀ j, fal j < 128) :
    (enumC fbe fhm nn 0 (fun k => (fal k) &&& ((fbd k) ^^^ 4294967295)) = [] ∧ (findX nn 0 fbe fhm fbd fal fho fle ftr fke).2.2.2.1 = 144) ∨ (∃ t, isBest fhm (enumC fbe fhm nn 0 (fun k => (fal k) &&& ((fbd k) ^^^ 4294967295))) t ∧ t.length = nn ∧ (findX nn 0 fbe fhm fbd fal fho fle ftr fke).2.2.2.1 = costS fhm 0 t ∧ ∀ j, j < nn → (findX nn 0 fbe fhm fbd fal fho fle ftr fke).2.2.1 j = t.getD j 0) := by
  have hf := findX_fold (ef := 0) (fbe := fbe) (fhm := fhm) (fbd := fbd) (fal := fal) (fho := fho) (fle := fle) (ftr := ftr) (fke := fke) hn h1 h3
  have hlen : ∀ t ∈ enumC fbe fhm nn 0 (fun k => (fal k) &&& ((fbd k) ^^^ 4294967295)), t.length = nn := fun t ht => enumC_len _ _ _ _ _ _ ht
  have hco : ∀ t ∈ enumC fbe fhm nn 0 (fun k => (fal k) &&& ((fbd k) ^^^ 4294967295)), costS (findY nn fhm fbd fal fho fle).1 0 t = costS fhm 0 t := fun t ht => costS_home t 0 (fun k _ hk => by
    rw [hlen t ht] at hk
    show (zlp (findBody fhm fbd fal) nn 0 (fho, fle)).1 k = _
    rw [(findY_at (nn := nn) (fho := fho) (fle := fle) nn 0 (fho, fle) k).1, if_pos (by omega)])
  generalize enumC fbe fhm nn 0 (fun k => (fal k) &&& ((fbd k) ^^^ 4294967295)) = E at hf hlen hco ⊢
  generalize findX nn 0 fbe fhm fbd fal fho fle ftr fke = X at hf ⊢
  rcases fold_best (findY nn fhm fbd fal fho fle).1 nn ftr E (fke, 144, 144) with ⟨h1, h2⟩ | ⟨t, E1, E2, h0, h1, h2, h3, h4, h5⟩
  · refine Or.inl ⟨?_, ?_⟩
    · cases E with
      | nil => rfl
      | cons t E =>
        exfalso
        have a := h1 t List.mem_cons_self
        have b := costS_lt (findY nn fhm fbd fal fho fle).1 t 0 (by rw [hlen t List.mem_cons_self]; exact hn)
        rw [hlen t List.mem_cons_self] at b
        have a' : 144 ≤ costS (findY nn fhm fbd fal fho fle).1 0 t := a
        omega
    · show X.2.2.2.1 = 144
      rw [hf, h2]
  · have ht : t ∈ E := by rw [h0]; simp
    refine Or.inr ⟨t, ⟨E1, E2, h0, ?_, ?_⟩, hlen t ht, ?_, ?_⟩
    · intro t' ht'
      rw [← hco t ht, ← hco t' ht']
      exact h2 t' ht'
    · intro t' ht'
      have hin : t' ∈ E := by rw [h0]; exact List.mem_append_left _ ht'
      rw [← hco t ht, ← hco t' hin]
      exact h3 t' ht'
    · show X.2.2.2.1 = _
      rw [hf, h4, hco t ht]
    · intro j hj
      show X.2.2.1 j = _
      rw [hf]
      exact h5 j hj
/-- the class's findFirst: the head of the list -/
theorem findF {nn : Nat} {fbe fhm fbd fal fho fle ftr fke : Nat → Nat} (hn : nn ≤ 8) (h1 : ∀ j, j < nn → fhm j < 32) (h3 : ∀ j, fal j < 128) {t : List Nat} {E' : List (List Nat)} (hE : enumC fbe fhm nn 0 (fun k => (fal k) &&& ((fbd k) ^^^ 4294967295)) = t :: E') : (findX nn 1 fbe fhm fbd fal fho fle ftr fke).2.2.2.1 = costS fhm 0 t ∧ ∀ j, j < nn → (findX nn 1 fbe fhm fbd fal fho fle ftr fke).2.2.1 j = t.getD j 0 := by
  have hf := findX_fold (ef := 1) (fbe := fbe) (fhm := fhm) (fbd := fbd) (fal := fal) (fho := fho) (fle := fle) (ftr := ftr) (fke := fke) hn h1 h3
  have hlen : t.length = nn := enumC_len fbe fhm nn 0 _ t (by rw [hE]; exact List.mem_cons_self)
  have hco : costS (findY nn fhm fbd fal fho fle).1 0 t = costS fhm 0 t := costS_home t 0 (fun k _ hk => by
    rw [hlen] at hk
    show (zlp (findBody fhm fbd fal) nn 0 (fho, fle)).1 k = _
    rw [(findY_at (nn := nn) (fho := fho) (fle := fle) nn 0 (fho, fle) k).1, if_pos (by omega)])
  have hb := costS_lt (findY nn fhm fbd fal fho fle).1 t 0 (by rw [hlen]; exact hn)
  rw [hE, List.foldl_cons] at hf
  have e : stB (findY nn fhm fbd fal fho fle).1 nn 1 0 ftr 0 (fke, 144, 144) t = ((fun j => if j < nn then (if j < 0 then ftr j else t.getD (j - 0) 0) else fke j), costS (findY nn fhm fbd fal fho fle).1 0 t, 0) := by
    unfold stB
    rw [Nat.zero_add, if_pos (by show _ < 144; omega), if_neg (by decide)]
  rw [e, stB_skip _ _ _ _ _ _ _ E' (fun t' _ => Nat.zero_le _)] at hf
  generalize findX nn 1 fbe fhm fbd fal fho fle ftr fke = X at hf ⊢
  refine ⟨?_, ?_⟩
  · show X.2.2.2.1 = _
    rw [hf]
    exact hco
  · intro j hj
    show X.2.2.1 j = _
    rw [hf]
    show (if j < nn then (if j < 0 then ftr j else t.getD (j - 0) 0) else fke j) = _
    rw [if_pos hj, if_neg (by omega)]
    rfl
