/-! pure: what the reference's search makes of the same choices -/
def toM (c : Nat) : Nat := c / 2 + c % 2 * 64
theorem toM_lt {c : Nat} (h : c < 128) : toM c < 128 := by unfold toM; omega
theorem toM_0 {c : Nat} (h : toM c = 0) : c = 0 := by unfold toM at h; omega
theorem toM_bit : ∀ c, c < 128 → ∀ v, v < 7 → ((toM c) >>> v) &&& 1 = (c >>> gvC v) &&& 1 := by decide +kernel
def optL (cb ve c : Nat) : Nat → Nat → List Nat
  | 0, _ => []
  | r + 1, ko => (if optF cb ve ko = 0 then [] else if ((toM c) >>> (optF cb ve ko - 1)) &&& 1 = 0 then [] else [gvC (optF cb ve ko - 1)]) ++ optL cb ve c r (ko + 1)
set_option maxRecDepth 100000 in
theorem optL_ord : ∀ ve, ve < 7 → ∀ cb, cb < 32 → ∀ c, c < 128 → c < 2 ^ (ve + 1) → optL cb ve c (ve + 2) 0 = ordC cb c := by decide +kernel
def chS (fho : Nat → Nat) : Nat → List Nat → Nat
  | _, [] => 0
  | n, cd :: t => (if cd = fho n then 0 else 1) + chS fho (n + 1) t
def dwS (fho : Nat → Nat) : Nat → List Nat → Nat
  | _, [] => 0
  | n, cd :: t => (if cd ≠ 0 ∧ cd < fho n then 1 else 0) + dwS fho (n + 1) t
theorem chF_gvC {v cb : Nat} (h : v ≤ 6) : chF v cb = if gvC v = cb then 0 else 1 := by
  unfold chF gvC
  (repeat' split) <;> omega
theorem dwF_gvC {v cb : Nat} (h : v ≤ 6) : dwF v cb = if gvC v ≠ 0 ∧ gvC v < cb then 1 else 0 := by
  unfold dwF gvC
  (repeat' split) <;> omega
section SK
variable {mn mr xc xd : Nat} {gve gbs gki gfi gat gse gst : Nat → Nat}
theorem skRun_done {q : Mg} (h : q.1 = 0 ∨ mn + 1 ≤ q.1) : ∀ k, skRun mn mr xc xd gve gbs gki gfi gat gse gst k q = q := by
  intro k
  cases k with
  | zero => rfl
  | succ k =>
    rw [skRun]
    rcases h with h | h
    · rw [if_pos h]
    · by_cases h0 : q.1 = 0
      · rw [if_pos h0]
      · rw [if_neg h0, if_pos h]
theorem skRun_add : ∀ a b (q : Mg), skRun mn mr xc xd gve gbs gki gfi gat gse gst (a + b) q = skRun mn mr xc xd gve gbs gki gfi gat gse gst b (skRun mn mr xc xd gve gbs gki gfi gat gse gst a q) := by
  intro a
  induction a with
  | zero => intro b q; rw [Nat.zero_add]; rfl
  | succ a ih =>
    intro b q
    rw [show a + 1 + b = (a + b) + 1 by omega, skRun, skRun]
    by_cases h0 : q.1 = 0
    · rw [if_pos h0, if_pos h0, skRun_done (Or.inl h0)]
    · rw [if_neg h0, if_neg h0]
      by_cases h1 : mn + 1 ≤ q.1
      · rw [if_pos h1, if_pos h1, skRun_done (Or.inr h1)]
      · rw [if_neg h1, if_neg h1]
        exact ih b _
theorem skRun_1 {q : Mg} (h0 : ¬ q.1 = 0) (h1 : ¬ mn + 1 ≤ q.1) : skRun mn mr xc xd gve gbs gki gfi gat gse gst 1 q = skStep mn mr xc xd gve gbs gki gfi gat gse gst q := by
  rw [skRun, if_neg h0, if_neg h1]
  rfl
theorem zlp_low {to B : Nat} {body : Nat → (Nat → Nat) → Nat → Nat} (hb : ∀ i f j, j < to → body i f j = f j) (hB : B = to) : ∀ k i f j, j < to → zlp body k i f j = f j := by
  intro k
  induction k with
  | zero => intro i f j _; rfl
  | succ k ih =>
    intro i f j hj
    show zlp body k (i + 1) (body i f) j = f j
    rw [ih _ _ j hj, hb i f j hj]
theorem up_low {f : Nat → Nat} {i v j to : Nat} (h : to ≤ i) (hj : j < to) : va_up f i v j = f j := by
  unfold va_up
  rw [if_neg (by omega)]
theorem lvRow_low {na vv to r : Nat} {f : Nat → Nat} {j : Nat} (hj : j < to) : lvRow gki gfi gat gse gst na vv to r f j = f j := by
  have h1 : ∀ f, lv1 gki gfi gat gse gst na vv to r f j = f j := fun f => by
    unfold lv1
    repeat' split
    all_goals first | rfl | exact up_low (Nat.le_add_right _ _) hj
  have h2 : ∀ f, lv2 gki gfi gat gse gst na vv to r f j = f j := fun f => by
    unfold lv2
    repeat' split
    all_goals first | rfl | exact up_low (Nat.le_add_right _ _) hj
  have h3 : ∀ f, lv3 gki gfi gse na vv to r f j = f j := fun f => by
    unfold lv3
    repeat' split
    all_goals first | rfl | exact up_low (Nat.le_add_right _ _) hj
  have h4 : ∀ f, lv4 gki gfi gse na vv to r f j = f j := fun f => by
    unfold lv4
    repeat' split
    all_goals first | rfl | exact up_low (Nat.le_add_right _ _) hj
  unfold lvRow
  rw [h4, h3, h2, h1]
theorem leavesF_low {na vv : Nat} {f : Nat → Nat} {j : Nat} (hj : j < 8 * (na + 1)) : leavesF mn mr gki gfi gat gse gst na vv f j = f j := by
  unfold leavesF
  rw [zlp_low (to := 8 * (na + 1)) (fun i f j hj => lvRow_low hj) rfl _ _ _ j hj, zlp_low (to := 8 * (na + 1)) (body := cpB (8 * (na + 1))) (fun i f j hj => up_low (Nat.le_add_right _ _) hj) rfl _ _ _ j hj]
theorem smB_0 {to : Nat} {f : Nat → Nat} : ∀ k i, zlp (smB to f) k i 0 = 0 := by
  intro k
  induction k with
  | zero => intro i; rfl
  | succ k ih => intro i; exact ih (i + 1)
theorem smB_ex {to : Nat} {f : Nat → Nat} : ∀ k i, zlp (smB to f) k i 1 = 0 → ∃ j, i ≤ j ∧ j < i + k ∧ f (to + j) = 0 := by
  intro k
  induction k with
  | zero => intro i h; exact absurd (show (1 : Nat) = 0 from h) (by decide)
  | succ k ih =>
    intro i h
    by_cases h0 : f (to + i) = 0
    · exact ⟨i, Nat.le_refl _, by omega, h0⟩
    · have e : smB to f i 1 = 1 := by unfold smB; rw [if_neg (by decide), if_neg h0]
      have h' : zlp (smB to f) k (i + 1) (smB to f i 1) = 0 := h
      rw [e] at h'
      obtain ⟨j, a, b, c⟩ := ih (i + 1) h'
      exact ⟨j, by omega, by omega, c⟩
/-- what a look from level n makes of the choices E -/
def Res (gbs : Nat → Nat) (mn xc xd n d : Nat) (E : List (List Nat)) (q q' : Mg) : Prop :=
  match E.find? (fun t => decide (q.2.2.2.2.1 n + chS gbs n t ≤ xc ∧ q.2.2.2.2.2 n + dwS gbs n t ≤ xd)) with
  | some t => q'.1 = mn + 1 ∧ (∀ j, j < n → q'.2.2.1 j = q.2.2.1 j) ∧ (∀ i, i < d → gvC (q'.2.2.1 (n + i)) = t.getD i 0 ∧ q'.2.2.1 (n + i) ≤ 6) ∧ q'.2.2.2.2.1 mn = q.2.2.2.2.1 n + chS gbs n t
  | none => q'.1 = n ∧ (∀ j, j < n → q'.2.2.1 j = q.2.2.1 j) ∧ (∀ j, j < n → q'.2.2.2.1 j = q.2.2.2.1 j) ∧ (∀ j, j ≤ n → q'.2.2.2.2.1 j = q.2.2.2.2.1 j) ∧ (∀ j, j ≤ n → q'.2.2.2.2.2 j = q.2.2.2.2.2 j) ∧ (∀ j, j < 8 * n + 8 → q'.2.1 j = q.2.1 j)
/-- the rows' masks: what leaves keeps is what the class's table says -/
def LvOK (mn mr : Nat) (gki gfi gat gse gst fbe : Nat → Nat) : Prop := ∀ n v (lf L : Nat → Nat), n < mn → v ≤ 6 → (∀ k, n < k → k < mn → lf (8 * n + k) = toM (L k) ∧ L k < 128) → ∀ k, n < k → k < mn → leavesF mn mr gki gfi gat gse gst n v lf (8 * (n + 1) + k) = toM ((L k) &&& (fbe ((n * 7 + gvC v) * 8 + 0 + k)))
def TT : Nat → Nat
  | 0 => 0
  | d + 1 => 8 * (1 + TT d) + 1
theorem find_skip {p : List Nat → Bool} {l1 l2 : List (List Nat)} (h : l1.find? p = none) : (l1 ++ l2).find? p = l2.find? p := by
  rw [List.find?_append, h]
  rfl
end SK
