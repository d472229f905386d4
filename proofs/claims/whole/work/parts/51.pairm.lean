theorem jo_at {nc pp : Nat} {flk fjo : Nat → Nat} {j : Nat} (hj : j < nc) : joF nc pp flk fjo j = (if flk j < ((pp >>> (3 * j)) &&& 7) then ((pp >>> (3 * j)) &&& 7) else flk j) := by
  have h := zlp_copy (fun i => if flk i < ((pp >>> (3 * i)) &&& 7) then ((pp >>> (3 * i)) &&& 7) else flk i) nc 0 fjo j
  rw [if_pos (by omega)] at h
  exact h
theorem mj_at {nc pp : Nat} {glk gbs : Nat → Nat} {j : Nat} (hj : j < nc) : mjF nc pp glk gbs j = (if ((pp >>> (3 * j)) &&& 7) ≤ glk j then glk j else ((pp >>> (3 * j)) &&& 7)) := by
  have h := zlp_copy (fun i => if ((pp >>> (3 * i)) &&& 7) ≤ glk i then glk i else ((pp >>> (3 * i)) &&& 7)) nc 0 gbs j
  rw [if_pos (by omega)] at h
  exact h
theorem jm_home {nc pp : Nat} {flk fjo glk gbs : Nat → Nat} (slk : ∀ j, j < nc → flk j = glk j) : ∀ j, j < nc → joF nc pp flk fjo j = mjF nc pp glk gbs j := by
  intro j hj
  rw [jo_at hj, mj_at hj, slk j hj]
  split <;> split <;> omega
theorem lt_at {fco : Nat → Nat} : ∀ k i (y : (Nat → Nat) × (Nat → Nat)) j, (zlp (ltBody fco) k i y).1 j = (if i ≤ j ∧ j < i + k then fco j else y.1 j) ∧ (zlp (ltBody fco) k i y).2 j = (if (i ≤ j ∧ j < i + k) ∧ ¬ fco j = y.1 j then 0 else y.2 j) := by
  intro k
  induction k with
  | zero => intro i y j; exact ⟨by rw [if_neg (by omega)]; rfl, by rw [if_neg (fun q => by have := q.1; omega)]; rfl⟩
  | succ k ih =>
    intro i y j
    have e1 : (ltBody fco i y).1 j = if j = i then fco i else y.1 j := by
      unfold ltBody
      split
      · next h => split
                  · next q => rw [q]; exact h.symm
                  · rfl
      · exact va_up_at
    have e2 : (ltBody fco i y).2 j = if j = i ∧ ¬ fco i = y.1 i then 0 else y.2 j := by
      unfold ltBody
      by_cases h : fco i = y.1 i
      · rw [if_pos h, if_neg (fun q => q.2 h)]
      · rw [if_neg h]
        show va_up _ _ _ _ = _
        rw [va_up_at]
        by_cases q : j = i
        · rw [if_pos q, if_pos ⟨q, h⟩]
        · rw [if_neg q, if_neg (fun w => q w.1)]
    obtain ⟨a1, a2⟩ := ih (i + 1) (ltBody fco i y) j
    refine ⟨a1.trans ?_, a2.trans ?_⟩
    · rw [e1]
      by_cases h1 : i + 1 ≤ j ∧ j < i + 1 + k
      · rw [if_pos h1, if_pos (by omega)]
      · rw [if_neg h1]
        by_cases h2 : j = i
        · rw [if_pos h2, if_pos (by omega), h2]
        · rw [if_neg h2, if_neg (by omega)]
    · rw [e1, e2]
      by_cases h2 : j = i
      · rw [if_neg (fun q => by have := q.1.1; omega)]
        subst h2
        by_cases h : fco j = y.1 j
        · rw [if_neg (fun q => q.2 h), if_neg (fun q => q.2 h)]
        · rw [if_pos ⟨rfl, h⟩, if_pos ⟨by omega, h⟩]
      · rw [if_neg h2, if_neg (fun q : j = i ∧ _ => h2 q.1)]
        by_cases h1 : i + 1 ≤ j ∧ j < i + 1 + k
        · by_cases h : fco j = y.1 j
          · rw [if_neg (fun q => q.2 h), if_neg (fun q => q.2 h)]
          · rw [if_pos ⟨h1, h⟩, if_pos ⟨by omega, h⟩]
        · rw [if_neg (fun q => h1 q.1), if_neg (fun q => by have := q.1; omega)]
theorem ml_at {gga : Nat → Nat} : ∀ k i (y : (Nat → Nat) × (Nat → Nat)) j, (zlp (mlB gga) k i y).1 j = (if i ≤ j ∧ j < i + k then gga j else y.1 j) ∧ (zlp (mlB gga) k i y).2 j = (if (i ≤ j ∧ j < i + k) ∧ ¬ gga j = y.1 j then 0 else y.2 j) := by
  intro k
  induction k with
  | zero => intro i y j; exact ⟨by rw [if_neg (by omega)]; rfl, by rw [if_neg (fun q => by have := q.1; omega)]; rfl⟩
  | succ k ih =>
    intro i y j
    have e1 : (mlB gga i y).1 j = if j = i then gga i else y.1 j := va_up_at
    have e2 : (mlB gga i y).2 j = if j = i ∧ ¬ gga i = y.1 i then 0 else y.2 j := by
      unfold mlB
      by_cases h : gga i = y.1 i
      · rw [if_pos h, if_neg (fun q => q.2 h)]
      · rw [if_neg h]
        show va_up _ _ _ _ = _
        rw [va_up_at]
        by_cases q : j = i
        · rw [if_pos q, if_pos ⟨q, h⟩]
        · rw [if_neg q, if_neg (fun w => q w.1)]
    obtain ⟨a1, a2⟩ := ih (i + 1) (mlB gga i y) j
    refine ⟨a1.trans ?_, a2.trans ?_⟩
    · rw [e1]
      by_cases h1 : i + 1 ≤ j ∧ j < i + 1 + k
      · rw [if_pos h1, if_pos (by omega)]
      · rw [if_neg h1]
        by_cases h2 : j = i
        · rw [if_pos h2, if_pos (by omega), h2]
        · rw [if_neg h2, if_neg (by omega)]
    · rw [e1, e2]
      by_cases h2 : j = i
      · rw [if_neg (fun q => by have := q.1.1; omega)]
        subst h2
        by_cases h : gga j = y.1 j
        · rw [if_neg (fun q => q.2 h), if_neg (fun q => q.2 h)]
        · rw [if_pos ⟨rfl, h⟩, if_pos ⟨by omega, h⟩]
      · rw [if_neg h2, if_neg (fun q : j = i ∧ _ => h2 q.1)]
        by_cases h1 : i + 1 ≤ j ∧ j < i + 1 + k
        · by_cases h : gga j = y.1 j
          · rw [if_neg (fun q => q.2 h), if_neg (fun q => q.2 h)]
          · rw [if_pos ⟨h1, h⟩, if_pos ⟨by omega, h⟩]
        · rw [if_neg (fun q => h1 q.1), if_neg (fun q => by have := q.1; omega)]
theorem lm_rel {nc : Nat} {fco gga flk glk fba gba : Nat → Nat} (slk : ∀ j, j < nc → flk j = glk j) (sba : ∀ j, fba j = 2 * gba j) (sb64 : ∀ j, gba j < 64) (h1 : ∀ j, flk j < 32) (hlk : ∀ j, glk j < 32) (hco : ∀ j, fco j < 32) (hga : ∀ j, gga j < 32) (hcg : ∀ j, j < nc → fco j = gga j) :
    (∀ j, (zlp (ltBody fco) nc 0 (flk, fba)).1 j < 32) ∧ (∀ j, (zlp (mlB gga) nc 0 (glk, gba)).1 j < 32) ∧ (∀ j, j < nc → (zlp (ltBody fco) nc 0 (flk, fba)).1 j = (zlp (mlB gga) nc 0 (glk, gba)).1 j) ∧ (∀ j, (zlp (ltBody fco) nc 0 (flk, fba)).2 j = 2 * (zlp (mlB gga) nc 0 (glk, gba)).2 j) ∧ (∀ j, (zlp (mlB gga) nc 0 (glk, gba)).2 j < 64) := by
  refine ⟨fun j => ?_, fun j => ?_, fun j hj => ?_, fun j => ?_, fun j => ?_⟩
  · rw [(lt_at nc 0 (flk, fba) j).1]
    split
    · exact hco j
    · exact h1 j
  · rw [(ml_at nc 0 (glk, gba) j).1]
    split
    · exact hga j
    · exact hlk j
  · rw [(lt_at nc 0 (flk, fba) j).1, (ml_at nc 0 (glk, gba) j).1, if_pos (by omega), if_pos (by omega), hcg j hj]
  · rw [(lt_at nc 0 (flk, fba) j).2, (ml_at nc 0 (glk, gba) j).2]
    dsimp only
    by_cases hj : j < nc
    · have a1 := hcg j hj
      have a2 := slk j hj
      have a3 := sba j
      by_cases q : gga j = glk j
      · rw [if_neg (fun w => w.2 (by rw [a1, a2]; exact q)), if_neg (fun w => w.2 q)]
        exact a3
      · rw [if_pos ⟨by omega, fun w => q (by rw [← a1, ← a2]; exact w)⟩, if_pos ⟨by omega, q⟩]
    · rw [if_neg (fun q => by have := q.1.2; omega), if_neg (fun q => by have := q.1.2; omega)]
      exact sba j
  · rw [(ml_at nc 0 (glk, gba) j).2]
    split
    · decide
    · exact sb64 j
