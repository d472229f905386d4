/-! pure: the choices in their order, and what the class's search makes of them -/
def bitc (cs cd : Nat) : Prop := ¬ (cs >>> cd) &&& 1 = 0
def codes7 : List Nat := [6, 5, 4, 3, 2, 1, 0]
def ordC (fi cs : Nat) : List Nat := (if (cs >>> fi) &&& 1 = 0 then [] else [fi]) ++ codes7.filter (fun cd => decide (¬ cd = fi) && decide (¬ (cs >>> cd) &&& 1 = 0))
def enumC (fbe fho : Nat → Nat) : Nat → Nat → (Nat → Nat) → List (List Nat)
  | 0, _, _ => [[]]
  | d + 1, n, Lm => (ordC (fho n) (Lm n)).flatMap (fun cd => (enumC fbe fho d (n + 1) (fun k => (Lm k) &&& (fbe ((n * 7 + cd) * 8 + 0 + k)))).map (fun t => cd :: t))
def costS (fho : Nat → Nat) : Nat → List Nat → Nat
  | _, [] => 0
  | n, cd :: t => costN cd (fho n) + costS fho (n + 1) t
theorem enumC_congr (fbe fho : Nat → Nat) : ∀ d n (L L' : Nat → Nat), (∀ k, n ≤ k → k < n + d → L k = L' k) → enumC fbe fho d n L = enumC fbe fho d n L' := by
  intro d
  induction d with
  | zero => intro n L L' _; rfl
  | succ d ih =>
    intro n L L' h
    rw [enumC, enumC, h n (Nat.le_refl _) (by omega)]
    congr 1
    funext cd
    rw [ih (n + 1) _ (fun k => (L' k) &&& (fbe ((n * 7 + cd) * 8 + 0 + k))) (fun k h1 h2 => by rw [h k (by omega) (by omega)])]
theorem ordC_bit {fi cs cd : Nat} (h : cd ∈ ordC fi cs) : ¬ (cs >>> cd) &&& 1 = 0 := by
  unfold ordC at h
  rcases List.mem_append.mp h with q | q
  · split at q
    · simp at q
    · next hq => simp at q; rw [q]; exact hq
  · have := (List.mem_filter.mp q).2
    simp only [Bool.and_eq_true, decide_eq_true_eq] at this
    exact this.2
theorem enumC_len (fbe fho : Nat → Nat) : ∀ d n L t, t ∈ enumC fbe fho d n L → t.length = d := by
  intro d
  induction d with
  | zero => intro n L t h; simp [enumC] at h; rw [h]; rfl
  | succ d ih =>
    intro n L t h
    rw [enumC] at h
    obtain ⟨cd, _, h2⟩ := List.mem_flatMap.mp h
    obtain ⟨t', h3, rfl⟩ := List.mem_map.mp h2
    simp [ih _ _ _ h3]
theorem and_bit {a b k : Nat} (h : ¬ ((a &&& b) >>> k) &&& 1 = 0) : ¬ (a >>> k) &&& 1 = 0 := by
  intro q
  apply h
  rw [Nat.shiftRight_and_distrib, Nat.and_assoc, Nat.and_comm (b >>> k), ← Nat.and_assoc, q, Nat.zero_and]
theorem bit_ne0 {a k : Nat} (h : ¬ (a >>> k) &&& 1 = 0) : ¬ a = 0 := by
  intro q
  apply h
  rw [q, Nat.zero_shiftRight, Nat.zero_and]
/-- a choice takes a bit of each mask -/
theorem enumC_bit (fbe fho : Nat → Nat) : ∀ d n L t, t ∈ enumC fbe fho d n L → ∀ i, i < d → ¬ (L (n + i) >>> (t.getD i 0)) &&& 1 = 0 := by
  intro d
  induction d with
  | zero => intro n L t _ i hi; omega
  | succ d ih =>
    intro n L t h i hi
    rw [enumC] at h
    obtain ⟨cd, h1, h2⟩ := List.mem_flatMap.mp h
    obtain ⟨t', h3, rfl⟩ := List.mem_map.mp h2
    cases i with
    | zero => exact ordC_bit h1
    | succ i =>
      have := ih (n + 1) _ t' h3 i (by omega)
      have h5 := and_bit this
      rw [show n + (i + 1) = n + 1 + i by omega]
      exact h5
theorem enumC_ne (fbe fho : Nat → Nat) {d n : Nat} {L : Nat → Nat} {k : Nat} (h1 : n ≤ k) (h2 : k < n + d) (h0 : L k = 0) : enumC fbe fho d n L = [] := by
  cases he : enumC fbe fho d n L with
  | nil => rfl
  | cons t ts =>
    exfalso
    have := enumC_bit fbe fho d n L t (by rw [he]; exact List.mem_cons_self) (k - n) (by omega)
    rw [show n + (k - n) = k by omega] at this
    exact bit_ne0 this h0
theorem lcost_bit {cs cd h : Nat} (hc : ¬ (cs >>> cd) &&& 1 = 0) : lcost cs h ≤ costN cd h := by
  unfold lcost costN
  have h0 := bit_ne0 hc
  rw [if_neg h0]
  by_cases hh : cd = h
  · subst hh
    rw [if_neg hc]
    exact Nat.zero_le _
  · rw [if_neg hh]
    by_cases q : (cs >>> h) &&& 1 = 0
    · rw [if_pos q]
      by_cases q2 : cs &&& 1 = 0 ∧ cs >>> h = 0
      · have hd : cd ≠ 0 ∧ cd < h := by
          refine ⟨?_, ?_⟩
          · intro e
            rw [e, Nat.shiftRight_zero] at hc
            exact hc q2.1
          · rcases Nat.lt_or_ge cd h with z | z
            · exact z
            · exfalso
              apply hc
              have : cs >>> cd = 0 := by
                rw [show cd = h + (cd - h) by omega, Nat.shiftRight_add, q2.2, Nat.zero_shiftRight]
              rw [this, Nat.zero_and]
        rw [if_pos q2, if_pos hd]
        exact Nat.le_refl _
      · rw [if_neg q2]
        omega
    · rw [if_neg q]
      exact Nat.zero_le _
theorem lcost_and (a b h : Nat) : lcost a h ≤ lcost (a &&& b) h := by
  by_cases q0 : a &&& b = 0
  · have : lcost (a &&& b) h = 144 := by unfold lcost; rw [if_pos q0]
    rw [this]
    exact lcost_le a h
  · have ha : ¬ a = 0 := fun e => q0 (by rw [e, Nat.zero_and])
    unfold lcost
    rw [if_neg ha, if_neg q0]
    by_cases q1 : (a >>> h) &&& 1 = 0
    · have q2 : ((a &&& b) >>> h) &&& 1 = 0 := Classical.byContradiction fun z => and_bit z q1
      rw [if_pos q1, if_pos q2]
      by_cases q3 : a &&& 1 = 0 ∧ a >>> h = 0
      · have q4 : (a &&& b) &&& 1 = 0 ∧ (a &&& b) >>> h = 0 := by
          refine ⟨?_, ?_⟩
          · rw [Nat.and_assoc, Nat.and_comm b, ← Nat.and_assoc, q3.1, Nat.zero_and]
          · rw [Nat.shiftRight_and_distrib, q3.2, Nat.zero_and]
        rw [if_pos q3, if_pos q4]
        exact Nat.le_refl _
      · rw [if_neg q3]
        split <;> omega
    · rw [if_neg q1]
      exact Nat.zero_le _
/-- the least that names n .. n + d - 1 must cost -/
def lsum (fho : Nat → Nat) (L : Nat → Nat) : Nat → Nat → Nat
  | 0, _ => 0
  | d + 1, n => lcost (L n) (fho n) + lsum fho L d (n + 1)
theorem lsum_and (fho : Nat → Nat) (L M : Nat → Nat) : ∀ d n, lsum fho L d n ≤ lsum fho (fun k => (L k) &&& (M k)) d n := by
  intro d
  induction d with
  | zero => intro n; exact Nat.le_refl _
  | succ d ih =>
    intro n
    exact Nat.add_le_add (lcost_and _ _ _) (ih (n + 1))
theorem enumC_lsum (fbe fho : Nat → Nat) : ∀ d n L t, t ∈ enumC fbe fho d n L → lsum fho L d n ≤ costS fho n t := by
  intro d
  induction d with
  | zero => intro n L t _; exact Nat.zero_le _
  | succ d ih =>
    intro n L t h
    rw [enumC] at h
    obtain ⟨cd, h1, h2⟩ := List.mem_flatMap.mp h
    obtain ⟨t', h3, rfl⟩ := List.mem_map.mp h2
    have q1 := ih (n + 1) _ t' h3
    have q2 := lsum_and fho L (fun k => fbe ((n * 7 + cd) * 8 + 0 + k)) d (n + 1)
    have q3 := lcost_bit (h := fho n) (ordC_bit h1)
    show lcost (L n) (fho n) + lsum fho L d (n + 1) ≤ costN cd (fho n) + costS fho (n + 1) t'
    exact Nat.add_le_add q3 (Nat.le_trans q2 q1)
/-- narrowRest: nothing below its row is written; the sum is a lower bound; if it is below the bound the row is whole -/
theorem nrLoop_low (fbe fho : Nat → Nat) (fr to bs nw cb : Nat) : ∀ k o co x, ∀ j, j < to + o → (nrLoop fbe fho fr to bs nw cb k o co x).2 j = x j := by
  intro k
  induction k with
  | zero => intro o co x j _; rfl
  | succ k ih =>
    intro o co x j hj
    rw [nrLoop]
    split
    · rw [ih _ _ _ j (by omega)]
      unfold va_up
      rw [if_neg (by omega)]
    · rfl
theorem nrLoop_sum (fbe fho : Nat → Nat) (fr to bs nw cb : Nat) : ∀ k o co x, (∀ j, j < o + k → fr + j < to) → (nrLoop fbe fho fr to bs nw cb k o co x).1 ≤ co + lsum fho (fun j => (x (fr + j)) &&& (fbe (bs + j))) k o := by
  intro k
  induction k with
  | zero => intro o co x _; exact Nat.le_refl _
  | succ k ih =>
    intro o co x hf
    rw [nrLoop]
    split
    · refine Nat.le_trans (ih _ _ _ (fun j hj => hf j (by omega))) ?_
      have e : lsum fho (fun j => ((va_up x (to + o) ((x (fr + o)) &&& (fbe (bs + o)))) (fr + j)) &&& (fbe (bs + j))) k (o + 1) = lsum fho (fun j => (x (fr + j)) &&& (fbe (bs + j))) k (o + 1) := by
        have hh : ∀ k' o', o' + k' ≤ o + 1 + k → lsum fho (fun j => ((va_up x (to + o) ((x (fr + o)) &&& (fbe (bs + o)))) (fr + j)) &&& (fbe (bs + j))) k' o' = lsum fho (fun j => (x (fr + j)) &&& (fbe (bs + j))) k' o' := by
          intro k'
          induction k' with
          | zero => intro o' _; rfl
          | succ k' ihk =>
            intro o' ho
            have e1 : va_up x (to + o) ((x (fr + o)) &&& (fbe (bs + o))) (fr + o') = x (fr + o') := by
              unfold va_up
              have := hf o' (by omega)
              rw [if_neg (by omega)]
            show lcost (va_up x (to + o) ((x (fr + o)) &&& (fbe (bs + o))) (fr + o') &&& fbe (bs + o')) (fho o') + _ = lcost (x (fr + o') &&& fbe (bs + o')) (fho o') + _
            rw [e1, ihk (o' + 1) (by omega)]
        exact hh k (o + 1) (by omega)
      rw [e]
      show _ ≤ co + (lcost ((x (fr + o)) &&& (fbe (bs + o))) (fho o) + _)
      omega
    · show co ≤ _
      omega
theorem nrLoop_row (fbe fho : Nat → Nat) (fr to bs nw cb : Nat) : ∀ k o co x, (∀ j, j < o + k → fr + j < to) → (nrLoop fbe fho fr to bs nw cb k o co x).1 + nw < cb → ∀ j, o ≤ j → j < o + k → (nrLoop fbe fho fr to bs nw cb k o co x).2 (to + j) = (x (fr + j)) &&& (fbe (bs + j)) := by
  intro k
  induction k with
  | zero => intro o co x _ _ j h1 h2; omega
  | succ k ih =>
    intro o co x hf hr j h1 h2
    rw [nrLoop] at hr ⊢
    by_cases hc : co + nw < cb
    · rw [if_pos hc] at hr ⊢
      by_cases hj : j = o
      · subst hj
        rw [nrLoop_low fbe fho fr to bs nw cb k (j + 1) _ _ (to + j) (by omega)]
        exact va_up_self _ _ _
      · rw [ih (o + 1) _ _ (fun j' hj' => hf j' (by omega)) hr j (by omega) (by omega)]
        have e1 : va_up x (to + o) ((x (fr + o)) &&& (fbe (bs + o))) (fr + j) = x (fr + j) := by
          unfold va_up
          have := hf j (by omega)
          rw [if_neg (by omega)]
        rw [e1]
    · rw [if_neg hc] at hr
      exact absurd hr hc
/-- one choice against the best so far -/
def stB (fho : Nat → Nat) (nm ef na : Nat) (tr : Nat → Nat) (co : Nat) (b : (Nat → Nat) × Nat × Nat) (t : List Nat) : (Nat → Nat) × Nat × Nat :=
  if co + costS fho na t < b.2.2 then ((fun j => if j < nm then (if j < na then tr j else t.getD (j - na) 0) else b.1 j), co + costS fho na t, if ef = 0 then co + costS fho na t else 0) else b
theorem stB_cons (fho : Nat → Nat) (nm ef na : Nat) (tr : Nat → Nat) (co cd : Nat) (b : (Nat → Nat) × Nat × Nat) (t : List Nat) : stB fho nm ef (na + 1) (va_up tr na cd) (co + costN cd (fho na)) b t = stB fho nm ef na tr co b (cd :: t) := by
  have e : co + costN cd (fho na) + costS fho (na + 1) t = co + costS fho na (cd :: t) := by
    show _ = co + (costN cd (fho na) + costS fho (na + 1) t)
    omega
  unfold stB
  rw [e]
  split
  · refine Prod.ext ?_ rfl
    funext j
    show (if j < nm then (if j < na + 1 then va_up tr na cd j else t.getD (j - (na + 1)) 0) else b.1 j) = (if j < nm then (if j < na then tr j else (cd :: t).getD (j - na) 0) else b.1 j)
    by_cases h1 : j < nm
    · rw [if_pos h1, if_pos h1]
      by_cases h2 : j < na
      · rw [if_pos h2, if_pos (by omega)]
        unfold va_up
        rw [if_neg (by omega)]
      · rw [if_neg h2]
        by_cases h3 : j = na
        · subst h3
          rw [if_pos (by omega), va_up_self, Nat.sub_self]
          rfl
        · rw [if_neg (by omega), show j - na = (j - (na + 1)) + 1 by omega]
          rfl
    · rw [if_neg h1, if_neg h1]
  · rfl
theorem stB_congr (fho : Nat → Nat) (nm ef na : Nat) {tr tr' : Nat → Nat} (h : ∀ j, j < na → tr j = tr' j) (co : Nat) : stB fho nm ef na tr co = stB fho nm ef na tr' co := by
  funext b t
  unfold stB
  split
  · refine Prod.ext ?_ rfl
    funext j
    show (if j < nm then (if j < na then tr j else _) else _) = (if j < nm then (if j < na then tr' j else _) else _)
    by_cases h1 : j < na
    · rw [if_pos h1, if_pos h1, h j h1]
    · rw [if_neg h1, if_neg h1]
  · rfl
theorem stB_skip (fho : Nat → Nat) (nm ef na : Nat) (tr : Nat → Nat) (co : Nat) (b : (Nat → Nat) × Nat × Nat) : ∀ l : List (List Nat), (∀ t ∈ l, b.2.2 ≤ co + costS fho na t) → l.foldl (stB fho nm ef na tr co) b = b := by
  intro l
  induction l with
  | nil => intro _; rfl
  | cons t l ih =>
    intro h
    have e : stB fho nm ef na tr co b t = b := by
      unfold stB
      rw [if_neg (by have := h t List.mem_cons_self; omega)]
    rw [List.foldl_cons, e]
    exact ih (fun t' ht => h t' (List.mem_cons_of_mem _ ht))
theorem zlp_copy (g : Nat → Nat) : ∀ k i f j, zlp (kpBody g) k i f j = if i ≤ j ∧ j < i + k then g j else f j := by
  intro k
  induction k with
  | zero => intro i f j; rw [if_neg (by omega)]; rfl
  | succ k ih =>
    intro i f j
    show zlp (kpBody g) k (i + 1) (kpBody g i f) j = _
    rw [ih]
    by_cases h1 : i + 1 ≤ j ∧ j < i + 1 + k
    · rw [if_pos h1, if_pos (by omega)]
    · rw [if_neg h1]
      unfold kpBody va_up
      by_cases h2 : j = i
      · rw [if_pos h2, if_pos (by omega), h2]
      · rw [if_neg h2, if_neg (by omega)]

theorem ordC_mem {fi cs cd : Nat} (hb : ¬ (cs >>> cd) &&& 1 = 0) (h : cd = fi ∨ cd < 7) : cd ∈ ordC fi cs := by
  unfold ordC
  by_cases hc : cd = fi
  · subst hc
    rw [if_neg hb]
    exact List.mem_append_left _ List.mem_cons_self
  · refine List.mem_append_right _ (List.mem_filter.mpr ⟨?_, ?_⟩)
    · have h7 : cd < 7 := h.elim (fun q => absurd q hc) id
      have : cd = 0 ∨ cd = 1 ∨ cd = 2 ∨ cd = 3 ∨ cd = 4 ∨ cd = 5 ∨ cd = 6 := by omega
      unfold codes7
      rcases this with q | q | q | q | q | q | q <;> rw [q] <;> decide
    · simp only [Bool.and_eq_true, decide_eq_true_eq]
      exact ⟨hc, hb⟩
theorem ordC_or {fi cs cd : Nat} (h : cd ∈ ordC fi cs) : cd = fi ∨ cd < 7 := by
  unfold ordC at h
  rcases List.mem_append.mp h with q | q
  · split at q
    · simp at q
    · simp at q; exact Or.inl q
  · have h1 := (List.mem_filter.mp q).1
    unfold codes7 at h1
    simp only [List.mem_cons, List.not_mem_nil, or_false] at h1
    exact Or.inr (by omega)
theorem bit_and {a b k : Nat} (h1 : ¬ (a >>> k) &&& 1 = 0) (h2 : ¬ (b >>> k) &&& 1 = 0) : ¬ ((a &&& b) >>> k) &&& 1 = 0 := by
  have e1 : (a >>> k) &&& 1 = 1 := by have := Nat.and_one_is_mod (a >>> k); omega
  have e2 : (b >>> k) &&& 1 = 1 := by have := Nat.and_one_is_mod (b >>> k); omega
  rw [Nat.shiftRight_and_distrib, Nat.and_assoc, e2, e1]
  decide
/-- what leaves more has more choices -/
theorem enumC_mono (fbe fho : Nat → Nat) : ∀ d n (L L' : Nat → Nat), (∀ k, n ≤ k → k < n + d → ∀ cd, ¬ (L k >>> cd) &&& 1 = 0 → ¬ (L' k >>> cd) &&& 1 = 0) → ∀ t, t ∈ enumC fbe fho d n L → t ∈ enumC fbe fho d n L' := by
  intro d
  induction d with
  | zero => intro n L L' _ t h; exact h
  | succ d ih =>
    intro n L L' h t ht
    rw [enumC] at ht ⊢
    obtain ⟨cd, h1, h2⟩ := List.mem_flatMap.mp ht
    obtain ⟨t', h3, rfl⟩ := List.mem_map.mp h2
    refine List.mem_flatMap.mpr ⟨cd, ordC_mem (h n (Nat.le_refl _) (by omega) cd (ordC_bit h1)) (ordC_or h1), List.mem_map.mpr ⟨t', ?_, rfl⟩⟩
    refine ih (n + 1) _ _ ?_ t' h3
    intro k h5 h6 c9 h7
    have h8 := and_bit h7
    have h9 : ¬ (fbe ((n * 7 + cd) * 8 + 0 + k) >>> c9) &&& 1 = 0 := by
      refine and_bit (b := L k) ?_
      rw [Nat.and_comm _ (L k)]
      exact h7
    exact bit_and (h k (by omega) (by omega) c9 h8) h9
/-- a code that leaves no bit outside the rival's -/
theorem as_much {a b r k : Nat} (ha : a < 128) (h : (a &&& b) &&& (r ^^^ 4294967295) = 0) (hb : ¬ ((a &&& b) >>> k) &&& 1 = 0) : ¬ ((a &&& r) >>> k) &&& 1 = 0 := by
  have h1 := and_bit hb
  have hk := bit_lt7 ha h1
  refine bit_and h1 ?_
  intro q
  apply bit_and (a := a &&& b) (b := r ^^^ 4294967295) (k := k) hb
  · intro q2
    have e : (r ^^^ 4294967295) >>> k = (r >>> k) ^^^ (4294967295 >>> k) := Nat.shiftRight_xor_distrib ..
    rw [e, Nat.and_xor_distrib_right, q, Nat.zero_xor] at q2
    have : k = 0 ∨ k = 1 ∨ k = 2 ∨ k = 3 ∨ k = 4 ∨ k = 5 ∨ k = 6 := by omega
    rcases this with z | z | z | z | z | z | z <;> rw [z] at q2 <;> exact absurd q2 (by decide)
  · rw [h, Nat.zero_shiftRight, Nat.zero_and]
theorem lamL_one (fbe fle : Nat → Nat) (fr br bs : Nat) : ∀ k o, ¬ lamL fbe fle fr br bs k o = 0 → ∀ j, o ≤ j → j < o + k → ((fle (fr + j)) &&& (fbe (bs + j))) &&& ((fbe (br + j)) ^^^ 4294967295) = 0 := by
  intro k
  induction k with
  | zero => intro o _ j h1 h2; omega
  | succ k ih =>
    intro o h j h1 h2
    rw [lamL] at h
    by_cases hc : ((fle (fr + o)) &&& (fbe (bs + o))) &&& ((fbe (br + o)) ^^^ 4294967295) = 0
    · rw [if_pos hc] at h
      by_cases hj : j = o
      · rw [hj]; exact hc
      · exact ih (o + 1) h j (by omega) (by omega)
    · rw [if_neg hc] at h
      exact absurd rfl h
theorem ndL_one (P : Nat → Nat) (rv : Nat) : ∀ k r, ¬ ndL P rv k r = 0 → ∃ j, ¬ (rv >>> j) &&& 1 = 0 ∧ ¬ P j = 0 := by
  intro k
  induction k with
  | zero => intro r h; exact absurd rfl h
  | succ k ih =>
    intro r h
    rw [ndL] at h
    by_cases h1 : (rv >>> r) &&& 1 = 0
    · rw [if_pos h1] at h; exact ih _ h
    · rw [if_neg h1] at h
      by_cases h2 : P r = 0
      · rw [if_pos h2] at h; exact ih _ h
      · exact ⟨r, h1, h2⟩
theorem down_bits : ∀ hm, hm < 32 → ∀ r, r < 7 → ¬ (((((1 <<< hm) - 1) &&& 4294967294) ^^^ 4294967295) >>> r) &&& 1 = 0 → r = 0 ∨ hm ≤ r := by decide +kernel
/-- a rival came before and costs no more -/
theorem riv_cost {hm cd bf r : Nat} (hh : hm < 32) (hbf : bf < 128) (hc : ¬ cd = hm ∨ bf = 0) (h : ¬ (rivF hm cd bf >>> r) &&& 1 = 0) : ¬ (bf >>> r) &&& 1 = 0 ∧ costN r hm ≤ costN cd hm := by
  unfold rivF at h
  have hne : ¬ bf = 0 → ¬ cd = hm := fun q => hc.elim id (fun z => absurd z q)
  by_cases q : cd ≠ 0 ∧ cd < hm
  · rw [if_pos q] at h
    refine ⟨h, ?_⟩
    have e : costN cd hm = 17 := by
      unfold costN
      rw [if_pos q, if_neg (hne (bit_ne0 h))]
    rw [e]
    exact costN_le _ _
  · rw [if_neg q] at h
    have h1 := and_bit h
    refine ⟨h1, ?_⟩
    have h2 : ¬ (((((1 <<< hm) - 1) &&& 4294967294) ^^^ 4294967295) >>> r) &&& 1 = 0 := by
      refine and_bit (b := bf) ?_
      rw [Nat.and_comm _ bf]
      exact h
    have h3 := down_bits hm hh r (bit_lt7 hbf h1) h2
    unfold costN
    rw [if_neg (show ¬ (r ≠ 0 ∧ r < hm) by omega), if_neg (hne (bit_ne0 h1))]
    split <;> omega
/-- the bound only falls, and what was gone through costs no less -/
theorem stB_le (fho : Nat → Nat) (nm ef na : Nat) (tr : Nat → Nat) (co : Nat) (b : (Nat → Nat) × Nat × Nat) (t : List Nat) : (stB fho nm ef na tr co b t).2.2 ≤ b.2.2 ∧ (stB fho nm ef na tr co b t).2.2 ≤ co + costS fho na t := by
  unfold stB
  by_cases h : co + costS fho na t < b.2.2
  · rw [if_pos h]
    show (if ef = 0 then co + costS fho na t else 0) ≤ b.2.2 ∧ (if ef = 0 then co + costS fho na t else 0) ≤ co + costS fho na t
    split <;> omega
  · rw [if_neg h]
    omega
theorem fold_le (fho : Nat → Nat) (nm ef na : Nat) (tr : Nat → Nat) (co : Nat) : ∀ (l : List (List Nat)) (b : (Nat → Nat) × Nat × Nat), (l.foldl (stB fho nm ef na tr co) b).2.2 ≤ b.2.2 ∧ ∀ t ∈ l, (l.foldl (stB fho nm ef na tr co) b).2.2 ≤ co + costS fho na t := by
  intro l
  induction l with
  | nil => intro b; exact ⟨Nat.le_refl _, fun t h => absurd h List.not_mem_nil⟩
  | cons t l ih =>
    intro b
    rw [List.foldl_cons]
    obtain ⟨h1, h2⟩ := ih (stB fho nm ef na tr co b t)
    obtain ⟨h3, h4⟩ := stB_le fho nm ef na tr co b t
    refine ⟨Nat.le_trans h1 h3, ?_⟩
    intro t' ht
    rcases List.mem_cons.mp ht with q | q
    · rw [q]; exact Nat.le_trans h1 h4
    · exact h2 t' q
theorem one_bitP {k r : Nat} (h : ¬ r = k) : ((1 <<< k) >>> r) &&& 1 = 0 := by
  rw [Nat.one_shiftLeft, Nat.shiftRight_eq_div_pow, Nat.and_one_is_mod]
  rcases Nat.lt_or_ge r k with q | q
  · rw [show k = r + ((k - r - 1) + 1) by omega, Nat.pow_add, Nat.mul_div_cancel_left _ (Nat.two_pow_pos r), Nat.pow_succ, Nat.mul_mod_left]
  · rw [Nat.div_eq_of_lt (Nat.pow_lt_pow_right (by decide) (by omega))]
theorem or_bitP {b k r : Nat} (h : ¬ ((b ||| (1 <<< k)) >>> r) &&& 1 = 0) : ¬ (b >>> r) &&& 1 = 0 ∨ r = k := by
  by_cases q : r = k
  · exact Or.inr q
  · refine Or.inl (fun z => h ?_)
    rw [Nat.shiftRight_or_distrib, Nat.and_or_distrib_right, z, Nat.zero_or]
    exact one_bitP q
theorem codes7_eq : codes7 = (List.range 7).reverse := rfl
/-- THE CLASS'S SEARCH: it goes through all the choices in their order, keeping the first that costs least -/
theorem gf_main (nm ef : Nat) (fbe fho : Nat → Nat) (hnm : nm ≤ 8) (hho : ∀ j, j < nm → fho j < 32) : ∀ d na co (x : Sg), na + d = nm → co < x.2.2.2.2 → (∀ j, na ≤ j → j < nm → x.1 (na * 8 + j) < 128) →
    (giveFromF nm ef fbe fho d na co x).2.2 = (enumC fbe fho d na (fun k => x.1 (na * 8 + k))).foldl (stB fho nm ef na x.2.1 co) x.2.2 ∧ (∀ j, j < na * 8 + 8 → (giveFromF nm ef fbe fho d na co x).1 j = x.1 j) ∧ (∀ j, j < na → (giveFromF nm ef fbe fho d na co x).2.1 j = x.2.1 j) := by
  intro d
  induction d with
  | zero =>
    intro na co x hn hc hx
    refine ⟨?_, fun _ _ => rfl, fun _ _ => rfl⟩
    show (keepF nm ef co x).2.2 = stB fho nm ef na x.2.1 co x.2.2 []
    unfold stB keepF
    have e : co + costS fho na [] = co := rfl
    rw [e, if_pos hc]
    refine Prod.ext ?_ rfl
    funext j
    show zlp (kpBody x.2.1) nm 0 x.2.2.1 j = (if j < nm then (if j < na then x.2.1 j else ([] : List Nat).getD (j - na) 0) else x.2.2.1 j)
    rw [zlp_copy]
    by_cases h1 : j < nm
    · rw [if_pos (by omega), if_pos h1, if_pos (by omega)]
    · rw [if_neg (by omega), if_neg h1]
  | succ d ih =>
    intro na co x hn hc hx
    have gs : ∀ cd bf (y : Sg), (∀ j, j < na * 8 + 8 → y.1 j = x.1 j) → (∀ j, j < na → y.2.1 j = x.2.1 j) → bf < 128 → (¬ cd = fho na ∨ bf = 0) → (∀ r, ¬ (bf >>> r) &&& 1 = 0 → ∀ t ∈ enumC fbe fho d (na + 1) (fun k => (x.1 (na * 8 + k)) &&& (fbe ((na * 7 + r) * 8 + 0 + k))), y.2.2.2.2 ≤ co + costS fho na (r :: t)) →
        (giveStep (giveFromF nm ef fbe fho d) nm fbe fho na cd co bf y).2.2 = ((enumC fbe fho d (na + 1) (fun k => (x.1 (na * 8 + k)) &&& (fbe ((na * 7 + cd) * 8 + 0 + k)))).map (fun t => cd :: t)).foldl (stB fho nm ef na x.2.1 co) y.2.2 ∧ (∀ j, j < na * 8 + 8 → (giveStep (giveFromF nm ef fbe fho d) nm fbe fho na cd co bf y).1 j = x.1 j) ∧ (∀ j, j < na → (giveStep (giveFromF nm ef fbe fho d) nm fbe fho na cd co bf y).2.1 j = x.2.1 j) := by
      intro cd bf y hy ht hbf hcb hri
      have hE : enumC fbe fho d (na + 1) (fun k => (x.1 (na * 8 + k)) &&& (fbe ((na * 7 + cd) * 8 + 0 + k))) = enumC fbe fho d (na + 1) (fun k => (y.1 (na * 8 + k)) &&& (fbe ((na * 7 + cd) * 8 + 0 + k))) := enumC_congr _ _ _ _ _ _ (fun k h1 h2 => by rw [hy (na * 8 + k) (by omega)])
      have hd : nm - (na + 1) = d := by omega
      have hlow : ∀ j, j < na * 8 + 8 → (nrF nm fbe fho na cd y.2.2.2.2 (co + costN cd (fho na)) y.1).2 j = x.1 j := fun j hj => by
        rw [← hy j hj]
        exact nrLoop_low _ _ _ _ _ _ _ _ _ _ _ j (by omega)
      unfold giveStep
      by_cases hp : (co + costN cd (fho na)) + (nrF nm fbe fho na cd y.2.2.2.2 (co + costN cd (fho na)) y.1).1 < y.2.2.2.2
      · rw [if_pos hp]
        by_cases hnd : ndF nm fbe (nrF nm fbe fho na cd y.2.2.2.2 (co + costN cd (fho na)) y.1).2 (fho na) na cd bf = 0
        · rw [if_pos hnd, hE]
          have hrow : ∀ k, na + 1 ≤ k → k < nm → (nrF nm fbe fho na cd y.2.2.2.2 (co + costN cd (fho na)) y.1).2 ((na + 1) * 8 + k) = (y.1 (na * 8 + k)) &&& (fbe ((na * 7 + cd) * 8 + 0 + k)) := by
            intro k h1 h2
            have hr := nrLoop_row fbe fho (na * 8) (na * 8 + 8) ((na * 7 + cd) * 8 + 0) (co + costN cd (fho na)) y.2.2.2.2 (nm - (na + 1)) (na + 1) 0 y.1 (fun j hj => by omega) (by show (nrF nm fbe fho na cd y.2.2.2.2 (co + costN cd (fho na)) y.1).1 + _ < _; omega) k h1 (by omega)
            rw [show (na + 1) * 8 + k = na * 8 + 8 + k by omega]
            exact hr
          obtain ⟨i1, i2, i3⟩ := ih (na + 1) (co + costN cd (fho na)) ((nrF nm fbe fho na cd y.2.2.2.2 (co + costN cd (fho na)) y.1).2, va_up y.2.1 na cd, y.2.2) (by omega) (by show _ < y.2.2.2.2; omega) (fun k h1 h2 => by
            show (nrF nm fbe fho na cd y.2.2.2.2 (co + costN cd (fho na)) y.1).2 ((na + 1) * 8 + k) < 128
            rw [hrow k h1 h2, hy (na * 8 + k) (by omega)]
            exact and_lt128 (hx k (by omega) h2))
          refine ⟨?_, ?_, ?_⟩
          · rw [i1, List.foldl_map]
            have e1 : enumC fbe fho d (na + 1) (fun k => (nrF nm fbe fho na cd y.2.2.2.2 (co + costN cd (fho na)) y.1).2 ((na + 1) * 8 + k)) = enumC fbe fho d (na + 1) (fun k => (y.1 (na * 8 + k)) &&& (fbe ((na * 7 + cd) * 8 + 0 + k))) := by
              exact enumC_congr _ _ _ _ _ _ (fun k h1 h2 => hrow k h1 (by omega))
            have e2 : stB fho nm ef (na + 1) (va_up y.2.1 na cd) (co + costN cd (fho na)) = fun b t => stB fho nm ef na x.2.1 co b (cd :: t) := by
              funext b t
              rw [stB_cons, stB_congr fho nm ef na ht co]
            show List.foldl (stB fho nm ef (na + 1) (va_up y.2.1 na cd) (co + costN cd (fho na))) y.2.2 (enumC fbe fho d (na + 1) (fun k => (nrF nm fbe fho na cd y.2.2.2.2 (co + costN cd (fho na)) y.1).2 ((na + 1) * 8 + k))) = _
            rw [e1, e2]
          · intro j hj
            rw [i2 j (by omega)]
            exact hlow j hj
          · intro j hj
            rw [i3 j (by omega)]
            show va_up y.2.1 na cd j = _
            unfold va_up
            rw [if_neg (by omega)]
            exact ht j hj
        · rw [if_neg hnd]
          refine ⟨?_, hlow, ht⟩
          refine (stB_skip fho nm ef na x.2.1 co y.2.2 _ ?_).symm
          intro t ht'
          obtain ⟨t', h3, rfl⟩ := List.mem_map.mp ht'
          obtain ⟨r, hr1, hr2⟩ := ndL_one _ _ _ _ hnd
          obtain ⟨hr3, hr4⟩ := riv_cost (hho na (by omega)) hbf hcb hr1
          have hr5 := lamL_one _ _ _ _ _ _ _ hr2
          have hin : t' ∈ enumC fbe fho d (na + 1) (fun k => (x.1 (na * 8 + k)) &&& (fbe ((na * 7 + r) * 8 + 0 + k))) := by
            refine enumC_mono fbe fho d (na + 1) _ _ ?_ t' h3
            intro k h1 h2 c9 h6
            have h7 := hr5 k h1 (by omega)
            rw [hlow (na * 8 + k) (by omega)] at h7
            exact as_much (hx k (by omega) (by omega)) h7 h6
          have h8 := hri r hr3 t' hin
          have h9 : y.2.2.2.2 ≤ co + (costN r (fho na) + costS fho (na + 1) t') := h8
          show y.2.2.2.2 ≤ co + (costN cd (fho na) + costS fho (na + 1) t')
          omega
      · rw [if_neg hp, hE]
        refine ⟨?_, hlow, ht⟩
        refine (stB_skip fho nm ef na x.2.1 co y.2.2 _ ?_).symm
        intro t ht'
        obtain ⟨t', h3, rfl⟩ := List.mem_map.mp ht'
        have q1 := enumC_lsum fbe fho d (na + 1) _ t' h3
        have q2 := nrLoop_sum fbe fho (na * 8) (na * 8 + 8) ((na * 7 + cd) * 8 + 0) (co + costN cd (fho na)) y.2.2.2.2 (nm - (na + 1)) (na + 1) 0 y.1 (fun j hj => by omega)
        rw [hd] at q2
        have q3 : (nrF nm fbe fho na cd y.2.2.2.2 (co + costN cd (fho na)) y.1).1 ≤ costS fho (na + 1) t' := by
          unfold nrF
          rw [hd]
          omega
        show y.2.2.2.2 ≤ co + (costN cd (fho na) + costS fho (na + 1) t')
        omega
    have gl : ∀ k bf (y : Sg), k ≤ 7 → (∀ j, j < na * 8 + 8 → y.1 j = x.1 j) → (∀ j, j < na → y.2.1 j = x.2.1 j) → bf < 128 → (∀ r, ¬ (bf >>> r) &&& 1 = 0 → ∀ t ∈ enumC fbe fho d (na + 1) (fun k => (x.1 (na * 8 + k)) &&& (fbe ((na * 7 + r) * 8 + 0 + k))), y.2.2.2.2 ≤ co + costS fho na (r :: t)) →
        (gfLoop (fun cd b9 y => giveStep (giveFromF nm ef fbe fho d) nm fbe fho na cd co b9 y) (x.1 (na * 8 + na)) (fho na) k bf y).2.2 = (((List.range k).reverse.filter (fun cd => decide (¬ cd = fho na) && decide (¬ ((x.1 (na * 8 + na)) >>> cd) &&& 1 = 0))).flatMap (fun cd => (enumC fbe fho d (na + 1) (fun k => (x.1 (na * 8 + k)) &&& (fbe ((na * 7 + cd) * 8 + 0 + k)))).map (fun t => cd :: t))).foldl (stB fho nm ef na x.2.1 co) y.2.2 ∧ (∀ j, j < na * 8 + 8 → (gfLoop (fun cd b9 y => giveStep (giveFromF nm ef fbe fho d) nm fbe fho na cd co b9 y) (x.1 (na * 8 + na)) (fho na) k bf y).1 j = x.1 j) ∧ (∀ j, j < na → (gfLoop (fun cd b9 y => giveStep (giveFromF nm ef fbe fho d) nm fbe fho na cd co b9 y) (x.1 (na * 8 + na)) (fho na) k bf y).2.1 j = x.2.1 j) := by
      intro k
      induction k with
      | zero => intro bf y _ hy ht _ _; exact ⟨rfl, hy, ht⟩
      | succ k ihk =>
        intro bf y hk hy ht hbf hri
        have er : (List.range (k + 1)).reverse = k :: (List.range k).reverse := by
          rw [List.range_succ, List.reverse_append]
          rfl
        rw [gfLoop, er, List.filter_cons]
        by_cases h1 : k = fho na
        · rw [if_pos h1, if_neg (by simp [h1])]
          exact ihk bf y (by omega) hy ht hbf hri
        · rw [if_neg h1]
          by_cases h2 : ((x.1 (na * 8 + na)) >>> k) &&& 1 = 0
          · rw [if_pos h2, if_neg (by simp [h2])]
            exact ihk bf y (by omega) hy ht hbf hri
          · rw [if_neg h2, if_pos (by simp only [Bool.and_eq_true, decide_eq_true_eq]; exact ⟨h1, h2⟩), List.flatMap_cons, List.foldl_append]
            obtain ⟨g1, g2, g3⟩ := gs k bf y hy ht hbf (Or.inl h1) hri
            rw [← g1]
            refine ihk (bf ||| (1 <<< k)) _ (by omega) g2 g3 (or_lt128 hbf (by omega)) ?_
            intro r hr t ht'
            have hle := fold_le fho nm ef na x.2.1 co ((enumC fbe fho d (na + 1) (fun k' => (x.1 (na * 8 + k')) &&& (fbe ((na * 7 + k) * 8 + 0 + k')))).map (fun t => k :: t)) y.2.2
            rw [← g1] at hle
            rcases or_bitP hr with q | q
            · exact Nat.le_trans hle.1 (hri r q t ht')
            · subst q
              exact hle.2 _ (List.mem_map.mpr ⟨t, ht', rfl⟩)
    rw [giveFromF, enumC, ordC, codes7_eq]
    by_cases h0 : ((x.1 (na * 8 + na)) >>> (fho na)) &&& 1 = 0
    · rw [if_pos h0, if_pos h0, List.nil_append]
      exact gl 7 0 x (Nat.le_refl _) (fun _ _ => rfl) (fun _ _ => rfl) (by decide) (fun r hr => absurd (by rw [Nat.zero_shiftRight, Nat.zero_and]) hr)
    · rw [if_neg h0, if_neg h0, List.flatMap_append, List.foldl_append]
      obtain ⟨g1, g2, g3⟩ := gs (fho na) 0 x (fun _ _ => rfl) (fun _ _ => rfl) (by decide) (Or.inr rfl) (fun r hr => absurd (by rw [Nat.zero_shiftRight, Nat.zero_and]) hr)
      rw [List.flatMap_cons, List.flatMap_nil, List.append_nil, ← g1]
      have h7 : fho na < 7 := bit_lt7 (hx na (Nat.le_refl _) (by omega)) h0
      refine gl 7 (1 <<< (fho na)) _ (Nat.le_refl _) g2 g3 (shl_lt128 h7) ?_
      intro r hr t ht'
      have hle := fold_le fho nm ef na x.2.1 co ((enumC fbe fho d (na + 1) (fun k' => (x.1 (na * 8 + k')) &&& (fbe ((na * 7 + fho na) * 8 + 0 + k')))).map (fun t => fho na :: t)) x.2.2
      rw [← g1] at hle
      have q : r = fho na := by
        rcases or_bitP (b := 0) (k := fho na) (r := r) (by rw [Nat.zero_or]; exact hr) with q | q
        · exact absurd (by rw [Nat.zero_shiftRight, Nat.zero_and]) q
        · exact q
      subst q
      exact hle.2 _ (List.mem_map.mpr ⟨t, ht', rfl⟩)
