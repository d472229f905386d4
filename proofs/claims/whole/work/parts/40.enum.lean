/-! pure: the choices in their order, and what the class's search makes of them -/
def bitc (cs cd : Nat) : Prop := ¬ (cs >>> cd) &&& 1 = 0
def codes7 : List Nat := [6, 5, 4, 3, 2, 1, 0]
def ordC (fi cs : Nat) : List Nat := (if (cs >>> fi) &&& 1 = 0 then [] else [fi]) ++ codes7.filter (fun cd => decide (¬ cd = fi) && decide (¬ (cs >>> cd) &&& 1 = 0))
def enumC (fbe fho : Nat → Nat) : Nat → Nat → (Nat → Nat) → List (List Nat)
  | 0, _, _ => [[]]
  | d + 1, n, Lm => (ordC (fho n) (Lm n)).flatMap (fun cd => (enumC fbe fho d (n + 1) (fun k => (Lm k) &&& (fbe ((n * 7 + cd) * 8 + 0 + k)))).map (fun t => cd :: t))
def costS (fho : Nat → Nat) : Nat → List Nat → Nat
  | _, [] => 0
  | n, cd :: t => costN cd (fho n) + costS fho (n + 1) t
theorem enumC_congr (fbe fho : Nat → Nat) : ∀ d n (L L' : Nat → Nat), (∀ k, n ≤ k → k < n + d → L k = L' k) → enumC fbe fho d n L = enumC fbe fho d n L' := by
  intro d
  induction d with
  | zero => intro n L L' _; rfl
  | succ d ih =>
    intro n L L' h
    rw [enumC, enumC, h n (Nat.le_refl _) (by omega)]
    congr 1
    funext cd
    rw [ih (n + 1) _ (fun k => (L' k) &&& (fbe ((n * 7 + cd) * 8 + 0 + k))) (fun k h1 h2 => by rw [h k (by omega) (by omega)])]
theorem ordC_bit {fi cs cd : Nat} (h : cd ∈ ordC fi cs) : ¬ (cs >>> cd) &&& 1 = 0 := by
  unfold ordC at h
  rcases List.mem_append.mp h with q | q
  · split at q
    · simp at q
    · next hq => simp at q; rw [q]; exact hq
  · have := (List.mem_filter.mp q).2
    simp only [Bool.and_eq_true, decide_eq_true_eq] at this
    exact this.2
theorem enumC_len (fbe fho : Nat → Nat) : ∀ d n L t, t ∈ enumC fbe fho d n L → t.length = d := by
  intro d
  induction d with
  | zero => intro n L t h; simp [enumC] at h; rw [h]; rfl
  | succ d ih =>
    intro n L t h
    rw [enumC] at h
    obtain ⟨cd, _, h2⟩ := List.mem_flatMap.mp h
    obtain ⟨t', h3, rfl⟩ := List.mem_map.mp h2
    simp [ih _ _ _ h3]
theorem and_bit {a b k : Nat} (h : ¬ ((a &&& b) >>> k) &&& 1 = 0) : ¬ (a >>> k) &&& 1 = 0 := by
  intro q
  apply h
  rw [Nat.shiftRight_and_distrib, Nat.and_assoc, Nat.and_comm (b >>> k), ← Nat.and_assoc, q, Nat.zero_and]
theorem bit_ne0 {a k : Nat} (h : ¬ (a >>> k) &&& 1 = 0) : ¬ a = 0 := by
  intro q
  apply h
  rw [q, Nat.zero_shiftRight, Nat.zero_and]
/-- a choice takes a bit of each mask -/
theorem enumC_bit (fbe fho : Nat → Nat) : ∀ d n L t, t ∈ enumC fbe fho d n L → ∀ i, i < d → ¬ (L (n + i) >>> (t.getD i 0)) &&& 1 = 0 := by
  intro d
  induction d with
  | zero => intro n L t _ i hi; omega
  | succ d ih =>
    intro n L t h i hi
    rw [enumC] at h
    obtain ⟨cd, h1, h2⟩ := List.mem_flatMap.mp h
    obtain ⟨t', h3, rfl⟩ := List.mem_map.mp h2
    cases i with
    | zero => exact ordC_bit h1
    | succ i =>
      have := ih (n + 1) _ t' h3 i (by omega)
      have h5 := and_bit this
      rw [show n + (i + 1) = n + 1 + i by omega]
      exact h5
theorem enumC_ne (fbe fho : Nat → Nat) {d n : Nat} {L : Nat → Nat} {k : Nat} (h1 : n ≤ k) (h2 : k < n + d) (h0 : L k = 0) : enumC fbe fho d n L = [] := by
  cases he : enumC fbe fho d n L with
  | nil => rfl
  | cons t ts =>
    exfalso
    have := enumC_bit fbe fho d n L t (by rw [he]; exact List.mem_cons_self) (k - n) (by omega)
    rw [show n + (k - n) = k by omega] at this
    exact bit_ne0 this h0
theorem lcost_bit {cs cd h : Nat} (hc : ¬ (cs >>> cd) &&& 1 = 0) : lcost cs h ≤ costN cd h := by
  unfold lcost costN
  have h0 := bit_ne0 hc
  rw [if_neg h0]
  by_cases hh : cd = h
  · subst hh
    rw [if_neg hc]
    exact Nat.zero_le _
  · rw [if_neg hh]
    by_cases q : (cs >>> h) &&& 1 = 0
    · rw [if_pos q]
      by_cases q2 : cs &&& 1 = 0 ∧ cs >>> h = 0
      · have hd : cd ≠ 0 ∧ cd < h := by
          refine ⟨?_, ?_⟩
          · intro e
            rw [e, Nat.shiftRight_zero] at hc
            exact hc q2.1
          · rcases Nat.lt_or_ge cd h with z | z
            · exact z
            · exfalso
              apply hc
              have : cs >>> cd = 0 := by
                rw [show cd = h + (cd - h) by omega, Nat.shiftRight_add, q2.2, Nat.zero_shiftRight]
              rw [this, Nat.zero_and]
        rw [if_pos q2, if_pos hd]
        exact Nat.le_refl _
      · rw [if_neg q2]
        omega
    · rw [if_neg q]
      exact Nat.zero_le _
theorem lcost_and (a b h : Nat) : lcost a h ≤ lcost (a &&& b) h := by
  by_cases q0 : a &&& b = 0
  · have : lcost (a &&& b) h = 144 := by unfold lcost; rw [if_pos q0]
    rw [this]
    exact lcost_le a h
  · have ha : ¬ a = 0 := fun e => q0 (by rw [e, Nat.zero_and])
    unfold lcost
    rw [if_neg ha, if_neg q0]
    by_cases q1 : (a >>> h) &&& 1 = 0
    · have q2 : ((a &&& b) >>> h) &&& 1 = 0 := Classical.byContradiction fun z => and_bit z q1
      rw [if_pos q1, if_pos q2]
      by_cases q3 : a &&& 1 = 0 ∧ a >>> h = 0
      · have q4 : (a &&& b) &&& 1 = 0 ∧ (a &&& b) >>> h = 0 := by
          refine ⟨?_, ?_⟩
          · rw [Nat.and_assoc, Nat.and_comm b, ← Nat.and_assoc, q3.1, Nat.zero_and]
          · rw [Nat.shiftRight_and_distrib, q3.2, Nat.zero_and]
        rw [if_pos q3, if_pos q4]
        exact Nat.le_refl _
      · rw [if_neg q3]
        split <;> omega
    · rw [if_neg q1]
      exact Nat.zero_le _
/-- the least that names n .. n + d - 1 must cost -/
def lsum (fho : Nat → Nat) (L : Nat → Nat) : Nat → Nat → Nat
  | 0, _ => 0
  | d + 1, n => lcost (L n) (fho n) + lsum fho L d (n + 1)
theorem lsum_and (fho : Nat → Nat) (L M : Nat → Nat) : ∀ d n, lsum fho L d n ≤ lsum fho (fun k => (L k) &&& (M k)) d n := by
  intro d
  induction d with
  | zero => intro n; exact Nat.le_refl _
  | succ d ih =>
    intro n
    exact Nat.add_le_add (lcost_and _ _ _) (ih (n + 1))
theorem enumC_lsum (fbe fho : Nat → Nat) : ∀ d n L t, t ∈ enumC fbe fho d n L → lsum fho L d n ≤ costS fho n t := by
  intro d
  induction d with
  | zero => intro n L t _; exact Nat.zero_le _
  | succ d ih =>
    intro n L t h
    rw [enumC] at h
    obtain ⟨cd, h1, h2⟩ := List.mem_flatMap.mp h
    obtain ⟨t', h3, rfl⟩ := List.mem_map.mp h2
    have q1 := ih (n + 1) _ t' h3
    have q2 := lsum_and fho L (fun k => fbe ((n * 7 + cd) * 8 + 0 + k)) d (n + 1)
    have q3 := lcost_bit (h := fho n) (ordC_bit h1)
    show lcost (L n) (fho n) + lsum fho L d (n + 1) ≤ costN cd (fho n) + costS fho (n + 1) t'
    exact Nat.add_le_add q3 (Nat.le_trans q2 q1)
/-- narrowRest: nothing below its row is written; the sum is a lower bound; if it is below the bound the row is whole -/
theorem nrLoop_low (fbe fho : Nat → Nat) (fr to bs nw cb : Nat) : ∀ k o co x, ∀ j, j < to + o → (nrLoop fbe fho fr to bs nw cb k o co x).2 j = x j := by
  intro k
  induction k with
  | zero => intro o co x j _; rfl
  | succ k ih =>
    intro o co x j hj
    rw [nrLoop]
    split
    · rw [ih _ _ _ j (by omega)]
      unfold va_up
      rw [if_neg (by omega)]
    · rfl
theorem nrLoop_sum (fbe fho : Nat → Nat) (fr to bs nw cb : Nat) : ∀ k o co x, (∀ j, j < o + k → fr + j < to) → (nrLoop fbe fho fr to bs nw cb k o co x).1 ≤ co + lsum fho (fun j => (x (fr + j)) &&& (fbe (bs + j))) k o := by
  intro k
  induction k with
  | zero => intro o co x _; exact Nat.le_refl _
  | succ k ih =>
    intro o co x hf
    rw [nrLoop]
    split
    · refine Nat.le_trans (ih _ _ _ (fun j hj => hf j (by omega))) ?_
      have e : lsum fho (fun j => ((va_up x (to + o) ((x (fr + o)) &&& (fbe (bs + o)))) (fr + j)) &&& (fbe (bs + j))) k (o + 1) = lsum fho (fun j => (x (fr + j)) &&& (fbe (bs + j))) k (o + 1) := by
        have hh : ∀ k' o', o' + k' ≤ o + 1 + k → lsum fho (fun j => ((va_up x (to + o) ((x (fr + o)) &&& (fbe (bs + o)))) (fr + j)) &&& (fbe (bs + j))) k' o' = lsum fho (fun j => (x (fr + j)) &&& (fbe (bs + j))) k' o' := by
          intro k'
          induction k' with
          | zero => intro o' _; rfl
          | succ k' ihk =>
            intro o' ho
            have e1 : va_up x (to + o) ((x (fr + o)) &&& (fbe (bs + o))) (fr + o') = x (fr + o') := by
              unfold va_up
              have := hf o' (by omega)
              rw [if_neg (by omega)]
            show lcost (va_up x (to + o) ((x (fr + o)) &&& (fbe (bs + o))) (fr + o') &&& fbe (bs + o')) (fho o') + _ = lcost (x (fr + o') &&& fbe (bs + o')) (fho o') + _
            rw [e1, ihk (o' + 1) (by omega)]
        exact hh k (o + 1) (by omega)
      rw [e]
      show _ ≤ co + (lcost ((x (fr + o)) &&& (fbe (bs + o))) (fho o) + _)
      omega
    · show co ≤ _
      omega
theorem nrLoop_row (fbe fho : Nat → Nat) (fr to bs nw cb : Nat) : ∀ k o co x, (∀ j, j < o + k → fr + j < to) → (nrLoop fbe fho fr to bs nw cb k o co x).1 + nw < cb → ∀ j, o ≤ j → j < o + k → (nrLoop fbe fho fr to bs nw cb k o co x).2 (to + j) = (x (fr + j)) &&& (fbe (bs + j)) := by
  intro k
  induction k with
  | zero => intro o co x _ _ j h1 h2; omega
  | succ k ih =>
    intro o co x hf hr j h1 h2
    rw [nrLoop] at hr ⊢
    by_cases hc : co + nw < cb
    · rw [if_pos hc] at hr ⊢
      by_cases hj : j = o
      · subst hj
        rw [nrLoop_low fbe fho fr to bs nw cb k (j + 1) _ _ (to + j) (by omega)]
        exact va_up_self _ _ _
      · rw [ih (o + 1) _ _ (fun j' hj' => hf j' (by omega)) hr j (by omega) (by omega)]
        have e1 : va_up x (to + o) ((x (fr + o)) &&& (fbe (bs + o))) (fr + j) = x (fr + j) := by
          unfold va_up
          have := hf j (by omega)
          rw [if_neg (by omega)]
        rw [e1]
    · rw [if_neg hc] at hr
      exact absurd hr hc
/-- one choice against the best so far -/
def stB (fho : Nat → Nat) (nm ef na : Nat) (tr : Nat → Nat) (co : Nat) (b : (Nat → Nat) × Nat × Nat) (t : List Nat) : (Nat → Nat) × Nat × Nat :=
  if co + costS fho na t < b.2.2 then ((fun j => if j < nm then (if j < na then tr j else t.getD (j - na) 0) else b.1 j), co + costS fho na t, if ef = 0 then co + costS fho na t else 0) else b
theorem stB_cons (fho : Nat → Nat) (nm ef na : Nat) (tr : Nat → Nat) (co cd : Nat) (b : (Nat → Nat) × Nat × Nat) (t : List Nat) : stB fho nm ef (na + 1) (va_up tr na cd) (co + costN cd (fho na)) b t = stB fho nm ef na tr co b (cd :: t) := by
  have e : co + costN cd (fho na) + costS fho (na + 1) t = co + costS fho na (cd :: t) := by
    show _ = co + (costN cd (fho na) + costS fho (na + 1) t)
    omega
  unfold stB
  rw [e]
  split
  · refine Prod.ext ?_ rfl
    funext j
    show (if j < nm then (if j < na + 1 then va_up tr na cd j else t.getD (j - (na + 1)) 0) else b.1 j) = (if j < nm then (if j < na then tr j else (cd :: t).getD (j - na) 0) else b.1 j)
    by_cases h1 : j < nm
    · rw [if_pos h1, if_pos h1]
      by_cases h2 : j < na
      · rw [if_pos h2, if_pos (by omega)]
        unfold va_up
        rw [if_neg (by omega)]
      · rw [if_neg h2]
        by_cases h3 : j = na
        · subst h3
          rw [if_pos (by omega), va_up_self, Nat.sub_self]
          rfl
        · rw [if_neg (by omega), show j - na = (j - (na + 1)) + 1 by omega]
          rfl
    · rw [if_neg h1, if_neg h1]
  · rfl
theorem stB_congr (fho : Nat → Nat) (nm ef na : Nat) {tr tr' : Nat → Nat} (h : ∀ j, j < na → tr j = tr' j) (co : Nat) : stB fho nm ef na tr co = stB fho nm ef na tr' co := by
  funext b t
  unfold stB
  split
  · refine Prod.ext ?_ rfl
    funext j
    show (if j < nm then (if j < na then tr j else _) else _) = (if j < nm then (if j < na then tr' j else _) else _)
    by_cases h1 : j < na
    · rw [if_pos h1, if_pos h1, h j h1]
    · rw [if_neg h1, if_neg h1]
  · rfl
theorem stB_skip (fho : Nat → Nat) (nm ef na : Nat) (tr : Nat → Nat) (co : Nat) (b : (Nat → Nat) × Nat × Nat) : ∀ l : List (List Nat), (∀ t ∈ l, b.2.2 ≤ co + costS fho na t) → l.foldl (stB fho nm ef na tr co) b = b := by
  intro l
  induction l with
  | nil => intro _; rfl
  | cons t l ih =>
    intro h
    have e : stB fho nm ef na tr co b t = b := by
      unfold stB
      rw [if_neg (by have := h t List.mem_cons_self; omega)]
    rw [List.foldl_cons, e]
    exact ih (fun t' ht => h t' (List.mem_cons_of_mem _ ht))
theorem zlp_copy (g : Nat → Nat) : ∀ k i f j, zlp (kpBody g) k i f j = if i ≤ j ∧ j < i + k then g j else f j := by
  intro k
  induction k with
  | zero => intro i f j; rw [if_neg (by omega)]; rfl
  | succ k ih =>
    intro i f j
    show zlp (kpBody g) k (i + 1) (kpBody g i f) j = _
    rw [ih]
    by_cases h1 : i + 1 ≤ j ∧ j < i + 1 + k
    · rw [if_pos h1, if_pos (by omega)]
    · rw [if_neg h1]
      unfold kpBody va_up
      by_cases h2 : j = i
      · rw [if_pos h2, if_pos (by omega), h2]
      · rw [if_neg h2, if_neg (by omega)]

theorem gfLoop_fold (g : Nat → Sg → Sg) (cs fi : Nat) : ∀ k x, gfLoop g cs fi k x = ((List.range k).reverse.filter (fun cd => decide (¬ cd = fi) && decide (¬ (cs >>> cd) &&& 1 = 0))).foldl (fun y cd => g cd y) x := by
  intro k
  induction k with
  | zero => intro x; rfl
  | succ k ih =>
    intro x
    rw [gfLoop, ih, List.range_succ, List.reverse_append]
    show _ = List.foldl _ x (List.filter _ (k :: (List.range k).reverse))
    rw [List.filter_cons]
    by_cases h1 : k = fi
    · rw [if_pos h1, if_neg (by simp [h1])]
    · rw [if_neg h1]
      by_cases h2 : (cs >>> k) &&& 1 = 0
      · rw [if_pos h2, if_neg (by simp [h2])]
      · rw [if_neg h2, if_pos (by simp only [Bool.and_eq_true, decide_eq_true_eq]; exact ⟨h1, h2⟩), List.foldl_cons]
theorem codes7_eq : codes7 = (List.range 7).reverse := rfl
theorem gf_ordC (g : Nat → Sg → Sg) (cs fi : Nat) (x : Sg) : gfLoop g cs fi 7 (if (cs >>> fi) &&& 1 = 0 then x else g fi x) = (ordC fi cs).foldl (fun y cd => g cd y) x := by
  rw [gfLoop_fold, ordC, List.foldl_append, codes7_eq]
  split
  · rfl
  · rfl
/-- THE CLASS'S SEARCH: it goes through all the choices in their order, keeping the first that costs least -/
theorem gf_main (nm ef : Nat) (fbe fho : Nat → Nat) (hnm : nm ≤ 8) : ∀ d na co (x : Sg), na + d = nm → co < x.2.2.2.2 →
    (giveFromF nm ef fbe fho d na co x).2.2 = (enumC fbe fho d na (fun k => x.1 (na * 8 + k))).foldl (stB fho nm ef na x.2.1 co) x.2.2 ∧ (∀ j, j < na * 8 + 8 → (giveFromF nm ef fbe fho d na co x).1 j = x.1 j) ∧ (∀ j, j < na → (giveFromF nm ef fbe fho d na co x).2.1 j = x.2.1 j) := by
  intro d
  induction d with
  | zero =>
    intro na co x hn hc
    refine ⟨?_, fun _ _ => rfl, fun _ _ => rfl⟩
    show (keepF nm ef co x).2.2 = stB fho nm ef na x.2.1 co x.2.2 []
    unfold stB keepF
    have e : co + costS fho na [] = co := rfl
    rw [e, if_pos hc]
    refine Prod.ext ?_ rfl
    funext j
    show zlp (kpBody x.2.1) nm 0 x.2.2.1 j = (if j < nm then (if j < na then x.2.1 j else ([] : List Nat).getD (j - na) 0) else x.2.2.1 j)
    rw [zlp_copy]
    by_cases h1 : j < nm
    · rw [if_pos (by omega), if_pos h1, if_pos (by omega)]
    · rw [if_neg (by omega), if_neg h1]
  | succ d ih =>
    intro na co x hn hc
    have gs : ∀ cd (y : Sg), (∀ j, j < na * 8 + 8 → y.1 j = x.1 j) → (∀ j, j < na → y.2.1 j = x.2.1 j) →
        (giveStep (giveFromF nm ef fbe fho d) nm fbe fho na cd co y).2.2 = ((enumC fbe fho d (na + 1) (fun k => (x.1 (na * 8 + k)) &&& (fbe ((na * 7 + cd) * 8 + 0 + k)))).map (fun t => cd :: t)).foldl (stB fho nm ef na x.2.1 co) y.2.2 ∧ (∀ j, j < na * 8 + 8 → (giveStep (giveFromF nm ef fbe fho d) nm fbe fho na cd co y).1 j = x.1 j) ∧ (∀ j, j < na → (giveStep (giveFromF nm ef fbe fho d) nm fbe fho na cd co y).2.1 j = x.2.1 j) := by
      intro cd y hy ht
      have hE : enumC fbe fho d (na + 1) (fun k => (x.1 (na * 8 + k)) &&& (fbe ((na * 7 + cd) * 8 + 0 + k))) = enumC fbe fho d (na + 1) (fun k => (y.1 (na * 8 + k)) &&& (fbe ((na * 7 + cd) * 8 + 0 + k))) := enumC_congr _ _ _ _ _ _ (fun k h1 h2 => by rw [hy (na * 8 + k) (by omega)])
      rw [hE]
      have hd : nm - (na + 1) = d := by omega
      have hlow : ∀ j, j < na * 8 + 8 → (nrF nm fbe fho na cd y.2.2.2.2 (co + costN cd (fho na)) y.1).2 j = x.1 j := fun j hj => by
        rw [← hy j hj]
        exact nrLoop_low _ _ _ _ _ _ _ _ _ _ _ j (by omega)
      unfold giveStep
      by_cases hp : (co + costN cd (fho na)) + (nrF nm fbe fho na cd y.2.2.2.2 (co + costN cd (fho na)) y.1).1 < y.2.2.2.2
      · rw [if_pos hp]
        obtain ⟨i1, i2, i3⟩ := ih (na + 1) (co + costN cd (fho na)) ((nrF nm fbe fho na cd y.2.2.2.2 (co + costN cd (fho na)) y.1).2, va_up y.2.1 na cd, y.2.2) (by omega) (by show _ < y.2.2.2.2; omega)
        refine ⟨?_, ?_, ?_⟩
        · rw [i1, List.foldl_map]
          have e1 : enumC fbe fho d (na + 1) (fun k => (nrF nm fbe fho na cd y.2.2.2.2 (co + costN cd (fho na)) y.1).2 ((na + 1) * 8 + k)) = enumC fbe fho d (na + 1) (fun k => (y.1 (na * 8 + k)) &&& (fbe ((na * 7 + cd) * 8 + 0 + k))) := by
            refine enumC_congr _ _ _ _ _ _ (fun k h1 h2 => ?_)
            have hr := nrLoop_row fbe fho (na * 8) (na * 8 + 8) ((na * 7 + cd) * 8 + 0) (co + costN cd (fho na)) y.2.2.2.2 (nm - (na + 1)) (na + 1) 0 y.1 (fun j hj => by omega) (by show (nrF nm fbe fho na cd y.2.2.2.2 (co + costN cd (fho na)) y.1).1 + _ < _; omega) k h1 (by omega)
            rw [show (na + 1) * 8 + k = na * 8 + 8 + k by omega]
            exact hr
          have e2 : stB fho nm ef (na + 1) (va_up y.2.1 na cd) (co + costN cd (fho na)) = fun b t => stB fho nm ef na x.2.1 co b (cd :: t) := by
            funext b t
            rw [stB_cons, stB_congr fho nm ef na ht co]
          show List.foldl (stB fho nm ef (na + 1) (va_up y.2.1 na cd) (co + costN cd (fho na))) y.2.2 (enumC fbe fho d (na + 1) (fun k => (nrF nm fbe fho na cd y.2.2.2.2 (co + costN cd (fho na)) y.1).2 ((na + 1) * 8 + k))) = _
          rw [e1, e2]
        · intro j hj
          rw [i2 j (by omega)]
          exact hlow j hj
        · intro j hj
          rw [i3 j (by omega)]
          show va_up y.2.1 na cd j = _
          unfold va_up
          rw [if_neg (by omega)]
          exact ht j hj
      · rw [if_neg hp]
        refine ⟨?_, hlow, ht⟩
        refine (stB_skip fho nm ef na x.2.1 co y.2.2 _ ?_).symm
        intro t ht'
        obtain ⟨t', h3, rfl⟩ := List.mem_map.mp ht'
        have q1 := enumC_lsum fbe fho d (na + 1) _ t' h3
        have q2 := nrLoop_sum fbe fho (na * 8) (na * 8 + 8) ((na * 7 + cd) * 8 + 0) (co + costN cd (fho na)) y.2.2.2.2 (nm - (na + 1)) (na + 1) 0 y.1 (fun j hj => by omega)
        rw [hd] at q2
        have q3 : (nrF nm fbe fho na cd y.2.2.2.2 (co + costN cd (fho na)) y.1).1 ≤ costS fho (na + 1) t' := by
          unfold nrF
          rw [hd]
          omega
        show y.2.2.2.2 ≤ co + (costN cd (fho na) + costS fho (na + 1) t')
        omega
    have gl : ∀ (l : List Nat) (y : Sg), (∀ j, j < na * 8 + 8 → y.1 j = x.1 j) → (∀ j, j < na → y.2.1 j = x.2.1 j) →
        (l.foldl (fun y cd => giveStep (giveFromF nm ef fbe fho d) nm fbe fho na cd co y) y).2.2 = (l.flatMap (fun cd => (enumC fbe fho d (na + 1) (fun k => (x.1 (na * 8 + k)) &&& (fbe ((na * 7 + cd) * 8 + 0 + k)))).map (fun t => cd :: t))).foldl (stB fho nm ef na x.2.1 co) y.2.2 ∧ (∀ j, j < na * 8 + 8 → (l.foldl (fun y cd => giveStep (giveFromF nm ef fbe fho d) nm fbe fho na cd co y) y).1 j = x.1 j) ∧ (∀ j, j < na → (l.foldl (fun y cd => giveStep (giveFromF nm ef fbe fho d) nm fbe fho na cd co y) y).2.1 j = x.2.1 j) := by
      intro l
      induction l with
      | nil => intro y hy ht; exact ⟨rfl, hy, ht⟩
      | cons cd l ihl =>
        intro y hy ht
        obtain ⟨g1, g2, g3⟩ := gs cd y hy ht
        obtain ⟨k1, k2, k3⟩ := ihl _ g2 g3
        rw [List.foldl_cons, List.flatMap_cons, List.foldl_append, ← g1]
        exact ⟨k1, k2, k3⟩
    rw [giveFromF, gf_ordC (fun cd y => giveStep (giveFromF nm ef fbe fho d) nm fbe fho na cd co y), enumC]
    exact gl _ x (fun _ _ => rfl) (fun _ _ => rfl)
