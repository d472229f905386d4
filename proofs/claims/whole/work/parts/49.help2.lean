theorem ithL_neg {gv : Nat} {xx : Int32} (hx : xx < 0) : ∀ w i bf, bf + w < 1000 → ithL gv xx w i bf = 0 := by
  intro w
  induction w with
  | zero => intro i bf _; rfl
  | succ w ih =>
    intro i bf hb
    rw [ithL, ih _ _ (by omega), ih _ _ (by omega)]
    split
    · rfl
    · rw [if_neg]
      intro e
      rw [← e] at hx
      exact nI_pos (by omega) hx
theorem ithL_hi {gv : Nat} {xx : Int32} {fn : Nat} (hb : ∀ j, j < 8 → fn ≤ j → (gv >>> j) &&& 1 = 0) : ∀ w i bf, fn ≤ i → i + w = 8 → ithL gv xx w i bf = 0 := by
  intro w
  induction w with
  | zero => intro i bf _ _; rfl
  | succ w ih =>
    intro i bf h1 h2
    rw [ithL, if_pos (hb i (by omega) h1)]
    exact ih _ _ (by omega) (by omega)
theorem nI_bf {xx : Int32} {X bf rho : Nat} (hX : xx = nI X) (hlt : X < 2147483648) (he : X = bf + rho) : (nI bf = xx ↔ rho = 0) := by
  rw [hX, nI_eq (by omega) hlt]
  omega
theorem down_eq {dn fn : Nat} {gga gwa : Nat → Nat} (hfn : fn ≤ 8) (hb : ∀ j, j < 8 → ((dn >>> j) &&& 1 = 0 ↔ ¬ (j < fn ∧ gga j ≠ 0 ∧ gga j < gwa j))) (p0 : Int32) : ithL dn p0 8 0 0 = mdnF gga gwa fn p0 := by
  unfold mdnF
  by_cases hneg : p0 < 0
  · rw [if_pos hneg, ithL_neg hneg 8 0 0 (by decide)]
  · rw [if_neg hneg]
    obtain ⟨X, hX, rfl⟩ := nI_of hneg
    have hall : ∀ w i bf rho, i + w = 8 → i ≤ fn → bf ≤ i → X = bf + rho → ithL dn (nI X) w i bf = mdnL gga gwa (fn - i) i (nI rho) := by
      intro w
      induction w with
      | zero => intro i bf rho h1 h2 _ _; rw [show fn - i = 0 by omega]; rfl
      | succ w ih =>
        intro i bf rho h1 h2 h3 h4
        by_cases hi : i = fn
        · rw [show fn - i = 0 by omega, ithL_hi (fn := fn) (fun j hj hf => (hb j hj).mpr (fun z => by omega)) (w + 1) i bf (by omega) h1]
          rfl
        · rw [show fn - i = (fn - (i + 1)) + 1 by omega, ithL, mdnL]
          have hbi := hb i (by omega)
          by_cases hg0 : gga i = 0
          · rw [if_pos (hbi.mpr (fun z => z.2.1 hg0)), if_pos hg0]
            exact ih (i + 1) bf rho (by omega) (by omega) (by omega) h4
          · rw [if_neg hg0]
            by_cases hg1 : gga i < gwa i
            · rw [if_neg (fun z => hbi.mp z ⟨by omega, hg0, hg1⟩), if_pos hg1]
              have hz : nI rho = 0 ↔ rho = 0 := nI_z (by omega)
              by_cases hr : rho = 0
              · rw [if_pos ((nI_bf rfl hX h4).mpr hr), if_pos (hz.mpr hr)]
              · rw [if_neg (fun z => hr ((nI_bf rfl hX h4).mp z)), if_neg (fun z => hr (hz.mp z)), nI_dec (by omega)]
                exact ih (i + 1) (bf + 1) (rho - 1) (by omega) (by omega) (by omega) (by omega)
            · rw [if_pos (hbi.mpr (fun z => hg1 z.2.2)), if_neg hg1]
              exact ih (i + 1) bf rho (by omega) (by omega) (by omega) h4
    exact hall 8 0 0 X (by decide) (Nat.zero_le _) (Nat.le_refl _) (by omega)
theorem lock_ith {gv fn : Nat} {gga : Nat → Nat} (hfn : fn ≤ 8) (hb : ∀ j, j < 8 → ((gv >>> j) &&& 1 = 0 ↔ ¬ (j < fn ∧ gga j ≠ 0))) {X : Nat} (hX : X < 2147483648) : ithL gv (nI X) 8 0 0 = if mlkL gga fn 0 (nI X) = fn then 0 else mlkL gga fn 0 (nI X) + 1 := by
  have hall : ∀ w i bf rho, i + w = 8 → i ≤ fn → bf ≤ i → X = bf + rho → ithL gv (nI X) w i bf = if mlkL gga (fn - i) i (nI rho) = fn then 0 else mlkL gga (fn - i) i (nI rho) + 1 := by
    intro w
    induction w with
    | zero =>
      intro i bf rho h1 h2 _ _
      rw [show fn - i = 0 by omega]
      show 0 = if i = fn then 0 else i + 1
      rw [if_pos (by omega)]
    | succ w ih =>
      intro i bf rho h1 h2 h3 h4
      by_cases hi : i = fn
      · rw [show fn - i = 0 by omega, ithL_hi (fn := fn) (fun j hj hf => (hb j hj).mpr (fun z => by omega)) (w + 1) i bf (by omega) h1]
        show 0 = if i = fn then 0 else i + 1
        rw [if_pos hi]
      · rw [show fn - i = (fn - (i + 1)) + 1 by omega, ithL, mlkL]
        have hbi := hb i (by omega)
        by_cases hg0 : gga i = 0
        · rw [if_pos (hbi.mpr (fun z => z.2 hg0)), if_pos hg0, nI_sub (Nat.zero_le _), Nat.sub_zero]
          exact ih (i + 1) bf rho (by omega) (by omega) (by omega) h4
        · rw [if_neg (fun z => hbi.mp z ⟨by omega, hg0⟩), if_neg hg0]
          have hz : nI rho ≤ 0 ↔ rho = 0 := by
            rw [← nI_0, nI_leI (by omega) (by decide)]
            omega
          by_cases hr : rho = 0
          · rw [if_pos ((nI_bf rfl hX h4).mpr hr), if_pos (hz.mpr hr), if_neg hi]
          · rw [if_neg (fun z => hr ((nI_bf rfl hX h4).mp z)), if_neg (fun z => hr (hz.mp z)), nI_sub (by omega)]
            exact ih (i + 1) (bf + 1) (rho - 1) (by omega) (by omega) (by omega) (by omega)
  exact hall 8 0 0 X (by decide) (Nat.zero_le _) (Nat.le_refl _) (by omega)
theorem lock_eq {gv ch nc fn : Nat} {gga gwa fco : Nat → Nat} (hnc : nc ≤ 8) (hfn : fn ≤ nc) (hb : ∀ j, j < 8 → ((gv >>> j) &&& 1 = 0 ↔ ¬ (j < fn ∧ gga j ≠ 0))) (hc : ∀ j, j < 8 → (ch >>> j) &&& 1 = (if j < fn ∧ gga j ≠ gwa j then 1 else 0)) (hco : ∀ j, j < fn → fco j = gga j) (p0 p1 : Int32) : lockF (ithL gv p0 8 0 0) p1 nc ch fco = mlockF p0 p1 fn gga gwa := by
  unfold mlockF
  by_cases hneg : p0 < 0
  · rw [if_pos hneg, ithL_neg hneg 8 0 0 (by decide)]
    unfold lockF
    rw [if_neg (by omega)]
  · rw [if_neg hneg]
    obtain ⟨X, hX, rfl⟩ := nI_of hneg
    rw [lock_ith (by omega) hb hX]
    have hle := mlkL_le gga fn 0 (nI X)
    generalize mlkL gga fn 0 (nI X) = n at hle ⊢
    by_cases hn : n = fn
    · rw [if_pos hn, if_pos hn]
      unfold lockF
      rw [if_neg (by omega)]
    · rw [if_neg hn, if_neg hn]
      unfold lockF
      rw [if_pos (by omega), Nat.add_sub_cancel, hco n (by omega), hc n (by omega)]
      by_cases hg : gga n = gwa n
      · have e : (if n < fn ∧ gga n ≠ gwa n then 1 else 0 : Nat) = 0 := if_neg (fun z => z.2 hg)
        rw [e, if_pos hg]
      · have e : (if n < fn ∧ gga n ≠ gwa n then 1 else 0 : Nat) = 1 := if_pos ⟨by omega, hg⟩
        rw [e, if_neg hg]
set_option maxRecDepth 100000 in
theorem or_bit : ∀ x, x < 256 → ∀ i, i < 8 → (x ||| (1 <<< i) < 256 ∧ ∀ j, j < 8 → ((x ||| (1 <<< i)) >>> j) &&& 1 = if j = i then 1 else (x >>> j) &&& 1) := by decide +kernel
/-- what is found, bit by bit -/
theorem kn_bits {fke fhm : Nat → Nat} : ∀ k i (y : Fg), i + k ≤ 8 → y.2.1 < 256 → y.2.2.1 < 256 → y.2.2.2 < 256 →
    ((zlp (knBody fke fhm) k i y).2.1 < 256 ∧ ∀ j, j < 8 → ((zlp (knBody fke fhm) k i y).2.1 >>> j) &&& 1 = if (i ≤ j ∧ j < i + k) ∧ ¬ fke j = 0 then 1 else (y.2.1 >>> j) &&& 1) ∧
    ((zlp (knBody fke fhm) k i y).2.2.1 < 256 ∧ ∀ j, j < 8 → ((zlp (knBody fke fhm) k i y).2.2.1 >>> j) &&& 1 = if (i ≤ j ∧ j < i + k) ∧ ¬ fke j = fhm j then 1 else (y.2.2.1 >>> j) &&& 1) ∧
    ((zlp (knBody fke fhm) k i y).2.2.2 < 256 ∧ ∀ j, j < 8 → ((zlp (knBody fke fhm) k i y).2.2.2 >>> j) &&& 1 = if (i ≤ j ∧ j < i + k) ∧ (fke j ≠ 0 ∧ fke j < fhm j) then 1 else (y.2.2.2 >>> j) &&& 1) := by
  have one : ∀ (P : Nat → Prop) [DecidablePred P] (x i k : Nat) (Y : Nat), i + (k + 1) ≤ 8 → x < 256 → (∀ x', x' < 256 → (∀ j, j < 8 → (x' >>> j) &&& 1 = if j = i ∧ P i then 1 else (x >>> j) &&& 1) → ((Y < 256) ∧ ∀ j, j < 8 → (Y >>> j) &&& 1 = if (i + 1 ≤ j ∧ j < i + 1 + k) ∧ P j then 1 else (x' >>> j) &&& 1) → ((Y < 256) ∧ ∀ j, j < 8 → (Y >>> j) &&& 1 = if (i ≤ j ∧ j < i + (k + 1)) ∧ P j then 1 else (x >>> j) &&& 1)) := by
    intro P _ x i k Y hik hx x' hx' hb hY
    refine ⟨hY.1, fun j hj => ?_⟩
    rw [hY.2 j hj, hb j hj]
    by_cases h1 : (i + 1 ≤ j ∧ j < i + 1 + k) ∧ P j
    · rw [if_pos h1, if_pos ⟨by omega, h1.2⟩]
    · rw [if_neg h1]
      by_cases h2 : j = i ∧ P i
      · rw [if_pos h2, if_pos ⟨by omega, by rw [h2.1]; exact h2.2⟩]
      · rw [if_neg h2, if_neg]
        intro z
        by_cases h3 : j = i
        · exact h2 ⟨h3, by rw [← h3]; exact z.2⟩
        · exact h1 ⟨by omega, z.2⟩
  have st : ∀ (c : Prop) [Decidable c] (x i : Nat), i < 8 → x < 256 → (x ||| (if c then 1 <<< i else 0)) < 256 ∧ ∀ j, j < 8 → ((x ||| (if c then 1 <<< i else 0)) >>> j) &&& 1 = if j = i ∧ c then 1 else (x >>> j) &&& 1 := by
    intro c _ x i hi hx
    by_cases hc : c
    · rw [if_pos hc]
      have h := or_bit x hx i hi
      refine ⟨h.1, fun j hj => ?_⟩
      rw [h.2 j hj]
      by_cases hq : j = i
      · rw [if_pos hq, if_pos ⟨hq, hc⟩]
      · rw [if_neg hq, if_neg (fun z => hq z.1)]
    · rw [if_neg hc, Nat.or_zero]
      exact ⟨hx, fun j _ => by rw [if_neg (fun z => hc z.2)]⟩
  intro k
  induction k with
  | zero =>
    intro i y _ h1 h2 h3
    exact ⟨⟨h1, fun j _ => by rw [if_neg (by omega)]; rfl⟩, ⟨h2, fun j _ => by rw [if_neg (by omega)]; rfl⟩, ⟨h3, fun j _ => by rw [if_neg (by omega)]; rfl⟩⟩
  | succ k ih =>
    intro i y hi h1 h2 h3
    have s1 := st (¬ fke i = 0) y.2.1 i (by omega) h1
    have s2 := st (¬ fke i = fhm i) y.2.2.1 i (by omega) h2
    have s3 := st (fke i ≠ 0 ∧ fke i < fhm i) y.2.2.2 i (by omega) h3
    have e1 : (knBody fke fhm i y).2.1 = y.2.1 ||| (if ¬ fke i = 0 then 1 <<< i else 0) := by
      show y.2.1 ||| (if fke i = 0 then 0 else 1 <<< i) = _
      by_cases q : fke i = 0
      · rw [if_pos q, if_neg (fun z => z q)]
      · rw [if_neg q, if_pos q]
    have e2 : (knBody fke fhm i y).2.2.1 = y.2.2.1 ||| (if ¬ fke i = fhm i then 1 <<< i else 0) := by
      show y.2.2.1 ||| (if fke i = fhm i then 0 else 1 <<< i) = _
      by_cases q : fke i = fhm i
      · rw [if_pos q, if_neg (fun z => z q)]
      · rw [if_neg q, if_pos q]
    have e3 : (knBody fke fhm i y).2.2.2 = y.2.2.2 ||| (if fke i ≠ 0 ∧ fke i < fhm i then 1 <<< i else 0) := rfl
    rw [← e1] at s1
    rw [← e2] at s2
    rw [← e3] at s3
    obtain ⟨a, b, c⟩ := ih (i + 1) (knBody fke fhm i y) (by omega) s1.1 s2.1 s3.1
    exact ⟨one (fun j => ¬ fke j = 0) _ _ _ _ hi h1 _ s1.1 s1.2 a, one (fun j => ¬ fke j = fhm j) _ _ _ _ hi h2 _ s2.1 s2.2 b, one (fun j => fke j ≠ 0 ∧ fke j < fhm j) _ _ _ _ hi h3 _ s3.1 s3.2 c⟩
theorem kn_codes {fke fhm : Nat → Nat} : ∀ k i (y : Fg) j, (zlp (knBody fke fhm) k i y).1 j = if i ≤ j ∧ j < i + k then fke j else y.1 j := by
  intro k
  induction k with
  | zero => intro i y j; rw [if_neg (by omega)]; rfl
  | succ k ih =>
    intro i y j
    refine (ih (i + 1) (knBody fke fhm i y) j).trans ?_
    have e : (knBody fke fhm i y).1 j = if j = i then fke i else y.1 j := rfl
    rw [e]
    by_cases h1 : i + 1 ≤ j ∧ j < i + 1 + k
    · rw [if_pos h1, if_pos (by omega)]
    · rw [if_neg h1]
      by_cases h2 : j = i
      · rw [if_pos h2, if_pos (by omega), h2]
      · rw [if_neg h2, if_neg (by omega)]
theorem kb_at {gbt gbs : Nat → Nat} : ∀ k i (y : Kg) j, (zlp (kbB gbt gbs) k i y).1 j = (if i ≤ j ∧ j < i + k then gvC (gbt j) else y.1 j) ∧ (zlp (kbB gbt gbs) k i y).2.1 j = (if i ≤ j ∧ j < i + k then gbs j else y.2.1 j) := by
  intro k
  induction k with
  | zero => intro i y j; rw [if_neg (by omega), if_neg (by omega)]; exact ⟨rfl, rfl⟩
  | succ k ih =>
    intro i y j
    have h := ih (i + 1) (kbB gbt gbs i y) j
    have e1 : (kbB gbt gbs i y).1 j = if j = i then gvC (gbt i) else y.1 j := rfl
    have e2 : (kbB gbt gbs i y).2.1 j = if j = i then gbs i else y.2.1 j := rfl
    rw [e1, e2] at h
    refine ⟨h.1.trans ?_, h.2.trans ?_⟩
    · by_cases h1 : i + 1 ≤ j ∧ j < i + 1 + k
      · rw [if_pos h1, if_pos (by omega)]
      · rw [if_neg h1]
        by_cases h2 : j = i
        · rw [if_pos h2, if_pos (by omega), h2]
        · rw [if_neg h2, if_neg (by omega)]
    · by_cases h1 : i + 1 ≤ j ∧ j < i + 1 + k
      · rw [if_pos h1, if_pos (by omega)]
      · rw [if_neg h1]
        by_cases h2 : j = i
        · rw [if_pos h2, if_pos (by omega), h2]
        · rw [if_neg h2, if_neg (by omega)]
theorem kb_count {gbt gbs : Nat → Nat} : ∀ (t : List Nat) i (y : Kg), (∀ j, j < t.length → gvC (gbt (i + j)) = t.getD j 0) → (zlp (kbB gbt gbs) t.length i y).2.2 = y.2.2 + chS gbs i t := by
  intro t
  induction t with
  | nil => intro i y _; rfl
  | cons cd t ih =>
    intro i y h
    have h0 : gvC (gbt i) = cd := h 0 (by simp)
    show (zlp (kbB gbt gbs) t.length (i + 1) (kbB gbt gbs i y)).2.2 = y.2.2 + ((if cd = gbs i then 0 else 1) + chS gbs (i + 1) t)
    rw [ih (i + 1) _ (fun j hj => by have := h (j + 1) (by simp; omega); rw [show i + (j + 1) = i + 1 + j by omega] at this; exact this)]
    show y.2.2 + (if gvC (gbt i) = gbs i then 0 else 1) + _ = _
    rw [h0, Nat.add_assoc]
theorem chS_home {fho fho' : Nat → Nat} : ∀ t n, (∀ k, n ≤ k → k < n + t.length → fho k = fho' k) → chS fho n t = chS fho' n t := by
  intro t
  induction t with
  | nil => intro n _; rfl
  | cons cd t ih =>
    intro n h
    show (if cd = fho n then 0 else 1) + chS fho (n + 1) t = (if cd = fho' n then 0 else 1) + chS fho' (n + 1) t
    rw [h n (Nat.le_refl _) (by simp), ih (n + 1) (fun k h1 h2 => h k (by omega) (by simp; omega))]
theorem flatMap_mem {l : List Nat} {f g : Nat → List (List Nat)} (h : ∀ a ∈ l, f a = g a) : l.flatMap f = l.flatMap g := by
  induction l with
  | nil => rfl
  | cons a l ih => rw [List.flatMap_cons, List.flatMap_cons, h a List.mem_cons_self, ih (fun b hb => h b (List.mem_cons_of_mem _ hb))]
theorem enumC_be {fbe fbe' fho : Nat → Nat} (h : ∀ j, j < 448 → fbe j = fbe' j) : ∀ d n L, n + d ≤ 8 → (∀ k, L k < 128) → enumC fbe fho d n L = enumC fbe' fho d n L := by
  intro d
  induction d with
  | zero => intro n L _ _; rfl
  | succ d ih =>
    intro n L hn hL
    rw [enumC, enumC]
    refine flatMap_mem (fun cd hcd => ?_)
    have h7 : cd < 7 := bit_lt7 (hL n) (ordC_bit hcd)
    rw [ih (n + 1) _ (by omega) (fun k => and_lt128 (hL k))]
    rw [enumC_congr fbe' fho d (n + 1) (fun k => (L k) &&& (fbe ((n * 7 + cd) * 8 + 0 + k))) (fun k => (L k) &&& (fbe' ((n * 7 + cd) * 8 + 0 + k))) (fun k h1 h2 => by rw [h _ (by omega)])]
