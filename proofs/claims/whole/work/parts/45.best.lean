section LK
variable {K mn mr : Nat} {gve gba gbs gki gfi gat gse gst : Nat → Nat}
def L0 (gve gba gki gfi gat gse gst : Nat → Nat) (mr : Nat) : Nat → Nat := fun k => (alR gve gki gfi gat gse gst mr k) &&& ((2 * gba k) ^^^ 4294967295)
def EE (gve gba gbs gki gfi gat gse gst : Nat → Nat) (mn mr : Nat) : List (List Nat) := enumC (beR gki gfi gat gse gst mr) gbs mn 0 (L0 gve gba gki gfi gat gse gst mr)
theorem TT_mono : ∀ a b, a ≤ b → TT a ≤ TT b := by
  intro a b h
  induction h with
  | refl => exact Nat.le_refl _
  | step _ ih => refine Nat.le_trans ih ?_; show _ ≤ 8 * (1 + TT _) + 1; omega
theorem smB0_0 {f : Nat → Nat} : ∀ k i, zlp (smB0 f) k i 0 = 0 := by
  intro k
  induction k with
  | zero => intro i; rfl
  | succ k ih => intro i; exact ih (i + 1)
theorem smB0_ex {f : Nat → Nat} : ∀ k i, zlp (smB0 f) k i 1 = 0 → ∃ j, i ≤ j ∧ j < i + k ∧ f j = 0 := by
  intro k
  induction k with
  | zero => intro i h; exact absurd (show (1 : Nat) = 0 from h) (by decide)
  | succ k ih =>
    intro i h
    by_cases h0 : f i = 0
    · exact ⟨i, Nat.le_refl _, by omega, h0⟩
    · have e : smB0 f i 1 = 1 := by unfold smB0; rw [if_neg (by decide), if_neg h0]
      have h' : zlp (smB0 f) k (i + 1) (smB0 f i 1) = 0 := h
      rw [e] at h'
      obtain ⟨j, a, b, c⟩ := ih (i + 1) h'
      exact ⟨j, by omega, by omega, c⟩
def LookR (gbs : Nat → Nat) (mn c0 d0 : Nat) (E : List (List Nat)) (z z' : Zg) : Prop :=
  match E.find? (fun t => decide (chS gbs 0 t ≤ c0 ∧ dwS gbs 0 t ≤ d0)) with
  | some t => z'.2.2.2.2.2.2.2.2.2 = 1 ∧ (∀ i, i < mn → gvC (z'.2.2.1 i) = t.getD i 0 ∧ z'.2.2.1 i ≤ 6) ∧ (∀ i, mn ≤ i → z'.2.2.1 i = z.2.2.1 i) ∧ z'.2.2.2.2.2.2.1 = chS gbs 0 t
  | none => z'.2.2.2.2.2.2.2.2.2 = 0 ∧ z'.2.2.1 = z.2.2.1
theorem cyB_at (g : Nat → Nat) : ∀ k i f j, zlp (cyB g) k i f j = if i ≤ j ∧ j < i + k then g j else f j := zlp_copy g
theorem sh2 (v : Nat) : (2 <<< v) - 1 < 2 ^ (v + 1) := by
  rw [Nat.shiftLeft_eq, Nat.pow_succ, Nat.mul_comm]
  have := Nat.one_le_two_pow (n := v)
  omega
theorem q0_res (hmn : mn ≤ 8) (hve : ∀ j, gve j ≤ 6) (hbs : ∀ j, gbs j < 32) (hba : ∀ j, gba j < 64) (hR : RowOK mn mr gki gfi gat gse gst) (hK : TT 8 ≤ K) (c0 d0 : Nat) (z : Zg) :
    Res gbs mn c0 d0 0 mn (EE gve gba gbs gki gfi gat gse gst mn mr) (1, beginF mn mr gve gba gki gfi gat gse gst z.1, z.2.1, va_up z.2.2.2.1 0 0, va_up z.2.2.2.2.1 0 0, va_up z.2.2.2.2.2.1 0 0) (skRun mn mr c0 d0 gve gbs gki gfi gat gse gst K (1, beginF mn mr gve gba gki gfi gat gse gst z.1, z.2.1, va_up z.2.2.2.1 0 0, va_up z.2.2.2.2.1 0 0, va_up z.2.2.2.2.2.1 0 0)) := by
  obtain ⟨s, hs, h⟩ := sk_main (mr := mr) (xc := c0) (xd := d0) (gki := gki) (gfi := gfi) (gat := gat) (gse := gse) (gst := gst) hmn hve hbs (lv_ok hmn hR) mn 0 (1, beginF mn mr gve gba gki gfi gat gse gst z.1, z.2.1, va_up z.2.2.2.1 0 0, va_up z.2.2.2.2.1 0 0, va_up z.2.2.2.2.2.1 0 0) (L0 gve gba gki gfi gat gse gst mr) (by omega) rfl (by show va_up z.2.2.2.1 0 0 0 = 0; exact va_up_self _ _ _) (by show va_up z.2.2.2.2.1 0 0 0 ≤ c0; rw [va_up_self]; exact Nat.zero_le _) (by show va_up z.2.2.2.2.2.1 0 0 0 ≤ d0; rw [va_up_self]; exact Nat.zero_le _) (fun k _ hk => by
    have hlt := alR_lt (gki := gki) (gfi := gfi) (gat := gat) (gse := gse) (gst := gst) hve mr k
    refine ⟨?_, and_lt128 hlt, Nat.lt_of_le_of_lt (Nat.le_trans Nat.and_le_left (alR_le mr k)) (sh2 _)⟩
    show beginF mn mr gve gba gki gfi gat gse gst z.1 (8 * 0 + k) = _
    rw [show 8 * 0 + k = k by omega]
    exact begin_at hve hba hR.2.2.2.1 hR.2.2.1 z.1 k hk)
  have hsK : s ≤ K := Nat.le_trans hs (Nat.le_trans (TT_mono _ _ hmn) hK)
  have hdone : ∀ q' : Mg, Res gbs mn c0 d0 0 mn (EE gve gba gbs gki gfi gat gse gst mn mr) (1, beginF mn mr gve gba gki gfi gat gse gst z.1, z.2.1, va_up z.2.2.2.1 0 0, va_up z.2.2.2.2.1 0 0, va_up z.2.2.2.2.2.1 0 0) q' → q'.1 = 0 ∨ mn + 1 ≤ q'.1 := by
    intro q' hq
    unfold Res at hq
    split at hq
    · exact Or.inr (by rw [hq.1]; exact Nat.le_refl _)
    · exact Or.inl hq.1
  rw [show K = s + (K - s) by omega, skRun_add, skRun_done (hdone _ h)]
  exact h
theorem q0_done (hmn : mn ≤ 8) (hve : ∀ j, gve j ≤ 6) (hbs : ∀ j, gbs j < 32) (hba : ∀ j, gba j < 64) (hR : RowOK mn mr gki gfi gat gse gst) (hK : TT 8 ≤ K) (c0 d0 : Nat) (z : Zg) : skDone mn (skRun mn mr c0 d0 gve gbs gki gfi gat gse gst K (1, beginF mn mr gve gba gki gfi gat gse gst z.1, z.2.1, va_up z.2.2.2.1 0 0, va_up z.2.2.2.2.1 0 0, va_up z.2.2.2.2.2.1 0 0)) := by
  have h := q0_res (z := z) (c0 := c0) (d0 := d0) hmn hve hbs hba hR hK
  unfold Res at h
  split at h
  · exact Or.inr (by rw [h.1]; exact Nat.le_refl _)
  · exact Or.inl h.1
theorem look_res (hmn : mn ≤ 8) (hve : ∀ j, gve j ≤ 6) (hbs : ∀ j, gbs j < 32) (hba : ∀ j, gba j < 64) (hR : RowOK mn mr gki gfi gat gse gst) (hK : TT 8 ≤ K) (c0 d0 : Nat) (z : Zg) : LookR gbs mn c0 d0 (EE gve gba gbs gki gfi gat gse gst mn mr) z (lookF K mn mr gve gba gbs gki gfi gat gse gst c0 d0 z) := by
  have h := q0_res (z := z) (c0 := c0) (d0 := d0) hmn hve hbs hba hR hK
  unfold lookF
  by_cases ha : allF mn (beginF mn mr gve gba gki gfi gat gse gst z.1) = 0
  · rw [if_pos ha]
    obtain ⟨j, h1, h2, h3⟩ := smB0_ex _ _ ha
    rw [begin_at hve hba hR.2.2.2.1 hR.2.2.1 z.1 j (by omega)] at h3
    have hE : EE gve gba gbs gki gfi gat gse gst mn mr = [] := enumC_ne _ _ (k := j) h1 h2 (toM_0 h3)
    unfold LookR
    rw [hE]
    exact ⟨rfl, rfl⟩
  · rw [if_neg ha]
    generalize skRun mn mr c0 d0 gve gbs gki gfi gat gse gst K (1, beginF mn mr gve gba gki gfi gat gse gst z.1, z.2.1, va_up z.2.2.2.1 0 0, va_up z.2.2.2.2.1 0 0, va_up z.2.2.2.2.2.1 0 0) = Y at h ⊢
    unfold Res at h
    have e0 : va_up z.2.2.2.2.1 0 0 0 = 0 := va_up_self _ _ _
    have e1 : va_up z.2.2.2.2.2.1 0 0 0 = 0 := va_up_self _ _ _
    dsimp only at h
    have hfn : (fun t => decide (va_up z.2.2.2.2.1 0 0 0 + chS gbs 0 t ≤ c0 ∧ va_up z.2.2.2.2.2.1 0 0 0 + dwS gbs 0 t ≤ d0)) = (fun t => decide (chS gbs 0 t ≤ c0 ∧ dwS gbs 0 t ≤ d0)) := by
      funext t
      simp only [e0, e1, Nat.zero_add]
    rw [hfn] at h
    unfold LookR
    split at h
    · next t ht =>
      rw [ht]
      obtain ⟨r1, _, r3, r4⟩ := h
      have hY : ¬ Y.1 = 0 := by omega
      refine ⟨?_, ?_, ?_, ?_⟩
      · show (if Y.1 = 0 then 0 else 1) = 1
        rw [if_neg hY]
      · intro i hi
        show gvC ((if Y.1 = 0 then z.2.2.1 else zlp (cyB Y.2.2.1) mn 0 z.2.2.1) i) = _ ∧ (if Y.1 = 0 then z.2.2.1 else zlp (cyB Y.2.2.1) mn 0 z.2.2.1) i ≤ 6
        rw [if_neg hY, cyB_at, if_pos (by omega)]
        have r3' := r3 i hi
        rw [Nat.zero_add] at r3'
        exact r3'
      · intro i hi
        show (if Y.1 = 0 then z.2.2.1 else zlp (cyB Y.2.2.1) mn 0 z.2.2.1) i = _
        rw [if_neg hY, cyB_at, if_neg (by omega)]
      · show (if Y.1 = 0 then z.2.2.2.2.2.2.1 else Y.2.2.2.2.1 (Y.1 - 1)) = _
        rw [if_neg hY, show Y.1 - 1 = mn by omega, r4, e0, Nat.zero_add]
    · next ht =>
      rw [ht]
      have hY : Y.1 = 0 := h.1
      refine ⟨?_, ?_⟩
      · show (if Y.1 = 0 then 0 else 1) = 0
        rw [if_pos hY]
      · show (if Y.1 = 0 then z.2.2.1 else zlp (cyB Y.2.2.1) mn 0 z.2.2.1) = _
        rw [if_pos hY]
theorem chS_len (fho : Nat → Nat) : ∀ t n, chS fho n t ≤ t.length := by
  intro t
  induction t with
  | nil => intro n; exact Nat.le_refl _
  | cons cd t ih =>
    intro n
    have h1 := ih (n + 1)
    show (if cd = fho n then 0 else 1) + chS fho (n + 1) t ≤ t.length + 1
    split <;> omega
theorem dwS_len (fho : Nat → Nat) : ∀ t n, dwS fho n t ≤ t.length := by
  intro t
  induction t with
  | nil => intro n; exact Nat.le_refl _
  | cons cd t ih =>
    intro n
    have h1 := ih (n + 1)
    show (if cd ≠ 0 ∧ cd < fho n then 1 else 0) + dwS fho (n + 1) t ≤ t.length + 1
    split <;> omega
theorem costS_eq (fho : Nat → Nat) : ∀ t n, costS fho n t = 16 * chS fho n t + dwS fho n t := by
  intro t
  induction t with
  | nil => intro n; rfl
  | cons cd t ih =>
    intro n
    show costN cd (fho n) + costS fho (n + 1) t = 16 * ((if cd = fho n then 0 else 1) + chS fho (n + 1) t) + ((if cd ≠ 0 ∧ cd < fho n then 1 else 0) + dwS fho (n + 1) t)
    rw [ih (n + 1)]
    unfold costN
    (repeat' split) <;> omega
/-- the first of those that cost least -/
def isBest (fho : Nat → Nat) (E : List (List Nat)) (t : List Nat) : Prop := ∃ E1 E2, E = E1 ++ t :: E2 ∧ (∀ t' ∈ E, costS fho 0 t ≤ costS fho 0 t') ∧ (∀ t' ∈ E1, costS fho 0 t < costS fho 0 t')
theorem isBest_uniq {fho : Nat → Nat} {E : List (List Nat)} {t u : List Nat} (h1 : isBest fho E t) (h2 : isBest fho E u) : t = u := by
  obtain ⟨A, B, e1, a1, a2⟩ := h1
  obtain ⟨C, D, e2, b1, b2⟩ := h2
  have ht : t ∈ E := by rw [e1]; simp
  have hu : u ∈ E := by rw [e2]; simp
  have hc : costS fho 0 t = costS fho 0 u := Nat.le_antisymm (a1 u hu) (b1 t ht)
  have e : A ++ t :: B = C ++ u :: D := by rw [← e1, e2]
  rcases List.append_eq_append_iff.mp e with ⟨X, h1, h2⟩ | ⟨X, h1, h2⟩
  · cases X with
    | nil => simp at h2; exact h2.1
    | cons x X =>
      simp at h2
      have : t ∈ C := by rw [h1, ← h2.1]; simp
      have := b2 t this
      omega
  · cases X with
    | nil => simp at h2; exact h2.1.symm
    | cons x X =>
      simp at h2
      have : u ∈ A := by rw [h1, ← h2.1]; simp
      have := a2 u this
      omega

variable {E : List (List Nat)}
/-- what a look says of the choices, without its match -/
theorem lookR_some {c0 d0 : Nat} {z z' : Zg} (h : LookR gbs mn c0 d0 E z z') (hz : ¬ z'.2.2.2.2.2.2.2.2.2 = 0) : ∃ t E1 E2, E = E1 ++ t :: E2 ∧ (chS gbs 0 t ≤ c0 ∧ dwS gbs 0 t ≤ d0) ∧ (∀ t' ∈ E1, ¬ (chS gbs 0 t' ≤ c0 ∧ dwS gbs 0 t' ≤ d0)) ∧ (∀ i, i < mn → gvC (z'.2.2.1 i) = t.getD i 0 ∧ z'.2.2.1 i ≤ 6) ∧ z'.2.2.2.2.2.2.1 = chS gbs 0 t := by
  unfold LookR at h
  split at h
  · next t ht =>
    obtain ⟨hp, E1, E2, e, hE1⟩ := List.find?_eq_some_iff_append.mp ht
    refine ⟨t, E1, E2, e, of_decide_eq_true hp, ?_, h.2.1, h.2.2.2⟩
    intro t' ht' z9
    have q9 : (!decide (chS gbs 0 t' ≤ c0 ∧ dwS gbs 0 t' ≤ d0)) = true := hE1 t' ht'
    rw [decide_eq_true z9] at q9
    exact absurd q9 (by decide)
  · exact absurd h.1 hz
theorem lookR_none {c0 d0 : Nat} {z z' : Zg} (h : LookR gbs mn c0 d0 E z z') (hz : z'.2.2.2.2.2.2.2.2.2 = 0) : ∀ t ∈ E, ¬ (chS gbs 0 t ≤ c0 ∧ dwS gbs 0 t ≤ d0) := by
  unfold LookR at h
  split at h
  · rw [h.1] at hz; exact absurd hz (by decide)
  · next ht =>
    intro t h1
    have q9 : ¬ decide (chS gbs 0 t ≤ c0 ∧ dwS gbs 0 t ≤ d0) = true := List.find?_eq_none.mp ht t h1
    exact fun z9 => q9 (decide_eq_true z9)
theorem lookR_bt {c0 d0 B : Nat} (hB : 6 ≤ B) {z z' : Zg} (h : LookR gbs mn c0 d0 E z z') (hz : ∀ j, z.2.2.1 j ≤ B) : ∀ j, z'.2.2.1 j ≤ B := by
  intro j
  unfold LookR at h
  split at h
  · rcases Nat.lt_or_ge j mn with q | q
    · exact Nat.le_trans (h.2.1 j q).2 hB
    · rw [h.2.2.1 j q]; exact hz j
  · rw [h.2]; exact hz j
/-- the best one, as the reference's looks come to it -/
def Out (gbs : Nat → Nat) (mn : Nat) (E : List (List Nat)) (r : Nat × Zg) : Prop := r.1 = 1 ∧ ∃ t, isBest gbs E t ∧ (∀ i, i < mn → gvC (r.2.2.2.1 i) = t.getD i 0 ∧ r.2.2.2.1 i ≤ 6) ∧ r.2.2.2.2.2.2.2.1 = chS gbs 0 t
theorem EE_len {t : List Nat} (h : t ∈ EE gve gba gbs gki gfi gat gse gst mn mr) : t.length = mn := enumC_len _ _ _ _ _ _ h
theorem dL_res (hmn : mn ≤ 8) (hve : ∀ j, gve j ≤ 6) (hbs : ∀ j, gbs j < 32) (hba : ∀ j, gba j < 64) (hR : RowOK mn mr gki gfi gat gse gst) (hK : TT 8 ≤ K) {c0 : Nat} (hc : ∀ t ∈ EE gve gba gbs gki gfi gat gse gst mn mr, c0 ≤ chS gbs 0 t) (hex : ∃ t ∈ EE gve gba gbs gki gfi gat gse gst mn mr, chS gbs 0 t ≤ c0) :
    ∀ k d0 (z : Zg), d0 + k = 9 → (∀ t ∈ EE gve gba gbs gki gfi gat gse gst mn mr, chS gbs 0 t ≤ c0 → d0 ≤ dwS gbs 0 t) → dDone K mn mr gve gba gbs gki gfi gat gse gst c0 k d0 z ∧ Out gbs mn (EE gve gba gbs gki gfi gat gse gst mn mr) (1, dL K mn mr gve gba gbs gki gfi gat gse gst c0 k d0 z) := by
  intro k
  induction k with
  | zero =>
    intro d0 z hd hlo
    exfalso
    obtain ⟨t, ht, h1⟩ := hex
    have h2 := hlo t ht h1
    have h3 := dwS_len gbs t 0
    rw [EE_len ht] at h3
    omega
  | succ k ih =>
    intro d0 z hd hlo
    have hl := look_res hmn hve hbs hba hR hK c0 d0 z
    rw [dL]
    by_cases ha : (lookF K mn mr gve gba gbs gki gfi gat gse gst c0 d0 z).2.2.2.2.2.2.2.2.2 = 0
    · rw [if_pos ha]
      have hn := lookR_none hl ha
      have := ih (d0 + 1) (lookF K mn mr gve gba gbs gki gfi gat gse gst c0 d0 z) (by omega) (fun t ht h1 => by
        have a1 := hlo t ht h1
        have a2 := hn t ht
        rcases Nat.lt_or_ge d0 (dwS gbs 0 t) with q | q
        · exact q
        · exact absurd ⟨h1, q⟩ a2)
      exact ⟨fun _ => this.1, this.2⟩
    · rw [if_neg ha]
      refine ⟨fun h => absurd h ha, rfl, ?_⟩
      obtain ⟨t, E1, E2, e, hp, hE1, hb, hbc⟩ := lookR_some hl ha
      have ht : t ∈ EE gve gba gbs gki gfi gat gse gst mn mr := by rw [e]; simp
      have c1 := hc t ht
      have d1 := hlo t ht hp.1
      refine ⟨t, ⟨E1, E2, e, ?_, ?_⟩, hb, hbc⟩
      · intro t' ht'
        rw [costS_eq, costS_eq]
        have c2 := hc t' ht'
        have l1 := dwS_len gbs t 0
        rw [EE_len ht] at l1
        rcases Nat.lt_or_ge c0 (chS gbs 0 t') with q | q
        · omega
        · have d2 := hlo t' ht' q
          omega
      · intro t' ht'
        rw [costS_eq, costS_eq]
        have hin : t' ∈ EE gve gba gbs gki gfi gat gse gst mn mr := by rw [e]; exact List.mem_append_left _ ht'
        have c2 := hc t' hin
        have l1 := dwS_len gbs t 0
        rw [EE_len ht] at l1
        have n1 := hE1 t' ht'
        rcases Nat.lt_or_ge c0 (chS gbs 0 t') with q | q
        · omega
        · have d2 := hlo t' hin q
          rcases Nat.lt_or_ge d0 (dwS gbs 0 t') with w | w
          · omega
          · exact absurd ⟨q, w⟩ n1
theorem bfL_res (hmn : mn ≤ 8) (hve : ∀ j, gve j ≤ 6) (hbs : ∀ j, gbs j < 32) (hba : ∀ j, gba j < 64) (hR : RowOK mn mr gki gfi gat gse gst) (hK : TT 8 ≤ K) (hne : EE gve gba gbs gki gfi gat gse gst mn mr ≠ []) :
    ∀ k c0 (z : Zg), c0 + k = 9 → (∀ t ∈ EE gve gba gbs gki gfi gat gse gst mn mr, c0 ≤ chS gbs 0 t) → Out gbs mn (EE gve gba gbs gki gfi gat gse gst mn mr) (bfL K mn mr gve gba gbs gki gfi gat gse gst k c0 z) := by
  intro k
  induction k with
  | zero =>
    intro c0 z hc hlo
    exfalso
    obtain ⟨t, ht⟩ := List.exists_mem_of_ne_nil _ hne
    have h2 := hlo t ht
    have h3 := chS_len gbs t 0
    rw [EE_len ht] at h3
    omega
  | succ k ih =>
    intro c0 z hc hlo
    have hl := look_res hmn hve hbs hba hR hK c0 8 z
    rw [bfL]
    by_cases ha : (lookF K mn mr gve gba gbs gki gfi gat gse gst c0 8 z).2.2.2.2.2.2.2.2.2 = 0
    · rw [if_pos ha]
      have hn := lookR_none hl ha
      refine ih (c0 + 1) _ (by omega) (fun t ht => ?_)
      have a1 := hlo t ht
      have a2 := hn t ht
      have l1 := dwS_len gbs t 0
      rw [EE_len ht] at l1
      rcases Nat.lt_or_ge c0 (chS gbs 0 t) with q | q
      · exact q
      · exact absurd ⟨q, by omega⟩ a2
    · rw [if_neg ha]
      obtain ⟨t, E1, E2, e, hp, hE1, hb, hbc⟩ := lookR_some hl ha
      exact (dL_res hmn hve hbs hba hR hK hlo ⟨t, by rw [e]; simp, hp.1⟩ 9 0 _ (by omega) (fun _ _ _ => Nat.zero_le _)).2
theorem lfb_none (hmn : mn ≤ 8) (hve : ∀ j, gve j ≤ 6) (hbs : ∀ j, gbs j < 32) (hba : ∀ j, gba j < 64) (hR : RowOK mn mr gki gfi gat gse gst) (hK : TT 8 ≤ K) (z : Zg) (he : EE gve gba gbs gki gfi gat gse gst mn mr = []) : (lfbF K mn mr gve gba gbs gki gfi gat gse gst z).1 = 0 := by
  have hl := look_res hmn hve hbs hba hR hK 8 8 z
  unfold lfbF
  by_cases ha : (lookF K mn mr gve gba gbs gki gfi gat gse gst 8 8 z).2.2.2.2.2.2.2.2.2 = 0
  · rw [if_pos ha]
  · obtain ⟨t, E1, E2, e, _⟩ := lookR_some hl ha
    rw [he] at e
    simp at e
theorem look88 (hmn : mn ≤ 8) (hve : ∀ j, gve j ≤ 6) (hbs : ∀ j, gbs j < 32) (hba : ∀ j, gba j < 64) (hR : RowOK mn mr gki gfi gat gse gst) (hK : TT 8 ≤ K) (z : Zg) (he : EE gve gba gbs gki gfi gat gse gst mn mr ≠ []) : ¬ (lookF K mn mr gve gba gbs gki gfi gat gse gst 8 8 z).2.2.2.2.2.2.2.2.2 = 0 := by
  intro ha
  have hn := lookR_none (look_res hmn hve hbs hba hR hK 8 8 z) ha
  obtain ⟨t, ht⟩ := List.exists_mem_of_ne_nil _ he
  have l1 := dwS_len gbs t 0
  have l2 := chS_len gbs t 0
  rw [EE_len ht] at l1 l2
  exact hn t ht ⟨by omega, by omega⟩
theorem lfb_some (hmn : mn ≤ 8) (hve : ∀ j, gve j ≤ 6) (hbs : ∀ j, gbs j < 32) (hba : ∀ j, gba j < 64) (hR : RowOK mn mr gki gfi gat gse gst) (hK : TT 8 ≤ K) (z : Zg) (he : EE gve gba gbs gki gfi gat gse gst mn mr ≠ []) : Out gbs mn (EE gve gba gbs gki gfi gat gse gst mn mr) (lfbF K mn mr gve gba gbs gki gfi gat gse gst z) := by
  unfold lfbF
  rw [if_neg (look88 hmn hve hbs hba hR hK z he)]
  exact bfL_res hmn hve hbs hba hR hK he 9 0 _ (by omega) (fun _ _ => Nat.zero_le _)
theorem dd_ok (hmn : mn ≤ 8) (hve : ∀ j, gve j ≤ 6) (hbs : ∀ j, gbs j < 32) (hba : ∀ j, gba j < 64) (hR : RowOK mn mr gki gfi gat gse gst) (hK : TT 8 ≤ K) {c0 : Nat} (z : Zg) (ha : ¬ (lookF K mn mr gve gba gbs gki gfi gat gse gst c0 8 z).2.2.2.2.2.2.2.2.2 = 0) : dDone K mn mr gve gba gbs gki gfi gat gse gst c0 9 0 (lookF K mn mr gve gba gbs gki gfi gat gse gst c0 8 z) := by
  obtain ⟨t, E1, E2, e, hp, _⟩ := lookR_some (look_res hmn hve hbs hba hR hK c0 8 z) ha
  have hin : t ∈ EE gve gba gbs gki gfi gat gse gst mn mr := by rw [e]; simp
  have hl8 := dwS_len gbs t 0
  rw [EE_len hin] at hl8
  have hall : ∀ k d0 (z : Zg), d0 + k = 9 → d0 ≤ dwS gbs 0 t → dDone K mn mr gve gba gbs gki gfi gat gse gst c0 k d0 z := by
    intro k
    induction k with
    | zero => intro d0 z h1 h2; omega
    | succ k ih =>
      intro d0 z h1 h2 hz
      have hn := lookR_none (look_res hmn hve hbs hba hR hK c0 d0 z) hz t hin
      refine ih (d0 + 1) _ (by omega) ?_
      rcases Nat.lt_or_ge d0 (dwS gbs 0 t) with q | q
      · exact q
      · exact absurd ⟨hp.1, q⟩ hn
  exact hall 9 0 _ (by omega) (Nat.zero_le _)
theorem lk_bt {B : Nat} (hB : 6 ≤ B) (hmn : mn ≤ 8) (hve : ∀ j, gve j ≤ 6) (hbs : ∀ j, gbs j < 32) (hba : ∀ j, gba j < 64) (hR : RowOK mn mr gki gfi gat gse gst) (hK : TT 8 ≤ K) (c0 d0 : Nat) (z : Zg) (hz : ∀ j, z.2.2.1 j ≤ B) : ∀ j, (lookF K mn mr gve gba gbs gki gfi gat gse gst c0 d0 z).2.2.1 j ≤ B := lookR_bt hB (look_res hmn hve hbs hba hR hK c0 d0 z) hz
theorem lfb_bt {B : Nat} (hB : 6 ≤ B) (hmn : mn ≤ 8) (hve : ∀ j, gve j ≤ 6) (hbs : ∀ j, gbs j < 32) (hba : ∀ j, gba j < 64) (hR : RowOK mn mr gki gfi gat gse gst) (hK : TT 8 ≤ K) (z : Zg) (hz : ∀ j, z.2.2.1 j ≤ B) : ∀ j, (lfbF K mn mr gve gba gbs gki gfi gat gse gst z).2.2.2.1 j ≤ B := by
  have lk : ∀ c0 d0 (z : Zg), (∀ j, z.2.2.1 j ≤ B) → ∀ j, (lookF K mn mr gve gba gbs gki gfi gat gse gst c0 d0 z).2.2.1 j ≤ B := fun c0 d0 z h => lk_bt hB hmn hve hbs hba hR hK c0 d0 z h
  have dl : ∀ c0 k d0 (z : Zg), (∀ j, z.2.2.1 j ≤ B) → ∀ j, (dL K mn mr gve gba gbs gki gfi gat gse gst c0 k d0 z).2.2.1 j ≤ B := by
    intro c0 k
    induction k with
    | zero => intro d0 z h; exact h
    | succ k ih =>
      intro d0 z h
      rw [dL]
      split
      · exact ih _ _ (lk _ _ _ h)
      · exact lk _ _ _ h
  have bf : ∀ k c0 (z : Zg), (∀ j, z.2.2.1 j ≤ B) → ∀ j, (bfL K mn mr gve gba gbs gki gfi gat gse gst k c0 z).2.2.2.1 j ≤ B := by
    intro k
    induction k with
    | zero => intro c0 z h; exact h
    | succ k ih =>
      intro c0 z h
      rw [bfL]
      split
      · exact ih _ _ (lk _ _ _ h)
      · exact dl _ _ _ _ (lk _ _ _ h)
  unfold lfbF
  split
  · exact lk _ _ _ hz
  · exact bf _ _ _ (lk _ _ _ hz)
end LK
