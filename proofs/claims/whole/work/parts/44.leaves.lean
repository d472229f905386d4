theorem cpB_at {to : Nat} (h8 : 8 ≤ to) : ∀ w i f k, k < 8 → i + w ≤ 8 → zlp (cpB to) w i f (to + k) = if i ≤ k ∧ k < i + w then f (to - 8 + k) else f (to + k) := by
  intro w
  induction w with
  | zero => intro i f k _ _; rw [if_neg (by omega)]; rfl
  | succ w ih =>
    intro i f k hk hi
    show zlp (cpB to) w (i + 1) (cpB to i f) (to + k) = _
    rw [ih (i + 1) _ k hk (by omega)]
    have e1 : cpB to i f (to - 8 + k) = f (to - 8 + k) := by unfold cpB; rw [va_up_at, if_neg (by omega)]
    have e2 : cpB to i f (to + k) = if k = i then f (to - 8 + i) else f (to + k) := by
      unfold cpB
      rw [va_up_at]
      by_cases h : k = i
      · rw [if_pos h, if_pos (by omega)]
      · rw [if_neg h, if_neg (by omega)]
    rw [e1, e2]
    by_cases h1 : i + 1 ≤ k ∧ k < i + 1 + w
    · rw [if_pos h1, if_pos (by omega)]
    · rw [if_neg h1]
      by_cases h2 : k = i
      · rw [if_pos h2, if_pos (by omega), h2]
      · rw [if_neg h2, if_neg (by omega)]
theorem gvC_eq {v a : Nat} (hv : v ≤ 6) (ha : a < 6) : gvC v = a + 1 ↔ v = a := by
  unfold gvC
  split <;> omega
theorem gvC_lt {v : Nat} (hv : v ≤ 6) : gvC v < 7 := by unfold gvC; split <;> omega
theorem and127 {x : Nat} (h : x < 128) : x &&& 127 = x := by
  rw [show (127 : Nat) = 2 ^ 7 - 1 from rfl, Nat.and_two_pow_sub_one_eq_mod]
  exact Nat.mod_eq_of_lt h
/-- what the rows must be -/
def RowOK (mn mr : Nat) (gki gfi gat gse gst : Nat → Nat) : Prop := (∀ j, gfi j < 8) ∧ (∀ j, gse j < 8) ∧ (∀ j, gat j < 6) ∧ (∀ j, gst j < 64) ∧ (∀ j, gki j < 4) ∧ (∀ r, r < mr → gfi r < mn ∧ gse r < mn ∧ (gki r = 3 → ¬ gfi r = gse r))
theorem lv_ok {mn mr : Nat} {gki gfi gat gse gst : Nat → Nat} (hmn : mn ≤ 8) (hR : RowOK mn mr gki gfi gat gse gst) : LvOK mn mr gki gfi gat gse gst (beR gki gfi gat gse gst mr) := by
  obtain ⟨hfi, hse, hat, hst, hki, h3⟩ := hR
  intro n v lf L hn hv hrow k hnk hk
  have hall : ∀ r, r ≤ mr → zlp (lvRow gki gfi gat gse gst n v (8 * (n + 1))) r 0 (zlp (cpB (8 * (n + 1))) mn 0 lf) (8 * (n + 1) + k) = toM ((L k) &&& (beR gki gfi gat gse gst r ((n * 7 + gvC v) * 8 + 0 + k))) := by
    intro r
    induction r with
    | zero =>
      intro _
      show zlp (cpB (8 * (n + 1))) mn 0 lf (8 * (n + 1) + k) = toM ((L k) &&& 127)
      rw [cpB_at (by omega) mn 0 lf k (by omega) (by omega), if_pos (by omega), show 8 * (n + 1) - 8 + k = 8 * n + k by omega, (hrow k hnk hk).1, and127 (hrow k hnk hk).2]
    | succ r ih =>
      intro hr
      have ih := ih (by omega)
      unfold beR at ih ⊢
      rw [zlp_last, zlp_last, Nat.zero_add]
      generalize zlp (lvRow gki gfi gat gse gst n v (8 * (n + 1))) r 0 (zlp (cpB (8 * (n + 1))) mn 0 lf) = F at ih ⊢
      generalize zlp (beS gki gfi gat gse gst) r 0 (fun _ => 127) = g at ih ⊢
      have hfr := hfi r
      have hsr := hse r
      have har := hat r
      have hst' := toM_st (gst r) (hst r)
      have hLk : (L k) &&& (g ((n * 7 + gvC v) * 8 + 0 + k)) < 128 := and_lt128 (hrow k hnk hk).2
      have hcv := gvC_lt hv
      unfold lvRow lv4 lv3 beS
      by_cases k0 : gki r = 0
      · rw [if_neg (by omega), if_neg (by omega), if_pos k0]
        unfold lv2 lv1
        rw [if_pos k0, if_pos k0]
        by_cases hfn : gfi r = n
        · by_cases hsn : gse r = n
          · -- both are n
            rw [if_pos hsn, if_pos (by omega), if_pos hfn]
            have e : tieBe (gfi r) (gat r + 1) (gse r) (2 * gst r) g = g := by unfold tieBe; rw [if_pos (by omega)]
            rw [e]
            by_cases ha : gat r = v
            · rw [if_pos ha, if_pos (by omega), ih]
            · rw [if_neg ha, ih]
          · rw [if_neg hsn, if_pos hfn, tie_at (by omega) hcv (by omega) hfr hsr (by omega) (by omega)]
            by_cases ha : gat r = v
            · rw [if_pos ha]
              by_cases hle : gse r ≤ n
              · rw [if_pos hle, if_neg (by omega), if_neg (by omega), ih]
              · rw [if_neg hle, va_up_at]
                by_cases hks : k = gse r
                · rw [if_pos (by omega), if_pos ⟨hfn.symm, (gvC_eq hv har).mpr ha.symm, hks⟩, ← Nat.and_assoc, toM_and' hLk hst'.2.1, hst'.1, ← hks, ih]
                · rw [if_neg (by omega), if_neg (by omega), if_neg (by omega), ih]
            · rw [if_neg ha, if_neg (fun z => ha ((gvC_eq hv har).mp z.2.1).symm), if_neg (by omega), ih]
        · rw [if_neg hfn]
          by_cases hsn : gse r = n
          · rw [if_pos hsn, tie_at (by omega) hcv (by omega) hfr hsr (by omega) (by omega), if_neg (show ¬ (n = gfi r ∧ gvC v = gat r + 1 ∧ k = gse r) from fun z => hfn z.1.symm)]
            have hb := st_bitv (gst r) (hst r) v (by omega)
            by_cases hle : gfi r ≤ n
            · rw [if_pos hle, if_neg (by omega), ih]
            · rw [if_neg hle]
              by_cases hv6 : v = 6
              · rw [if_pos hv6, va_up_at]
                by_cases hkf : k = gfi r
                · rw [if_pos (by omega), if_pos ⟨hsn.symm, hkf, hb.mpr (Or.inl hv6)⟩, ← Nat.and_assoc, toM_off _ hLk _ har, ← hkf, ih]
                · rw [if_neg (by omega), if_neg (by omega), ih]
              · rw [if_neg hv6]
                by_cases hbit : ((gst r) >>> v) &&& 1 = 0
                · rw [if_pos hbit, va_up_at]
                  by_cases hkf : k = gfi r
                  · rw [if_pos (by omega), if_pos ⟨hsn.symm, hkf, hb.mpr (Or.inr hbit)⟩, ← Nat.and_assoc, toM_off _ hLk _ har, ← hkf, ih]
                  · rw [if_neg (by omega), if_neg (by omega), ih]
                · rw [if_neg hbit, if_neg (fun z => by rcases hb.mp z.2.2 with q | q; exact hv6 q; exact hbit q), ih]
          · rw [if_neg hsn]
            by_cases hfs : gfi r = gse r
            · have e : tieBe (gfi r) (gat r + 1) (gse r) (2 * gst r) g = g := by unfold tieBe; rw [if_pos hfs]
              rw [e, ih]
            · rw [tie_at (by omega) hcv (by omega) hfr hsr (by omega) hfs, if_neg (by omega), if_neg (by omega), ih]
      · rw [if_neg k0]
        unfold lv2 lv1
        rw [if_neg k0, if_neg k0]
        by_cases k3 : gki r = 3
        · rw [if_pos k3, if_pos k3, if_pos k3]
          have hne := (h3 r (by omega)).2.2 k3
          unfold grBe
          rw [grBe_at (by omega) hcv (by omega) hfr hsr hne 6 1 g (by decide), grSc_and]
          by_cases hfn : gfi r = n
          · rw [if_pos hfn]
            have hsn : ¬ gse r = n := by omega
            rw [if_neg hsn]
            by_cases hks : k = gse r
            · rw [zlp_ext (b' := grA (gvC v)) (fun i x => by
                unfold grSc grA
                by_cases hi : gvC v = i
                · rw [if_pos ⟨hfn.symm, hi, hks⟩, if_pos hi]
                · rw [if_neg (fun z => hi z.2.1), if_neg hi, if_neg (by omega)]), grA_v _ hLk v (by omega)]
              by_cases hv6 : v = 6
              · rw [if_pos hv6, if_pos hv6, if_pos hv6, ih]
              · rw [if_neg hv6, if_neg hv6, if_neg hv6, va_up_at, if_pos (by omega), ← hks, ih]
            · rw [zlp_id (fun i x => by unfold grSc; rw [if_neg (by omega), if_neg (by omega)])]
              by_cases hv6 : v = 6
              · rw [if_pos hv6, if_pos hv6, ih]
              · rw [if_neg hv6, if_neg hv6, va_up_at, if_neg (by omega), ih]
          · rw [if_neg hfn]
            by_cases hsn : gse r = n
            · rw [if_pos hsn]
              by_cases hkf : k = gfi r
              · rw [zlp_ext (b' := grB (gvC v)) (fun i x => by
                  unfold grSc grB
                  rw [if_neg (by omega)]
                  by_cases hb : ((1 ||| (1 <<< i)) >>> gvC v) &&& 1 = 0
                  · rw [if_pos ⟨hsn.symm, hkf, hb⟩, if_pos hb]
                  · rw [if_neg (fun z => hb z.2.2), if_neg hb]), grB_v _ hLk v (by omega)]
                by_cases hv6 : v = 6
                · rw [if_pos hv6, if_pos hv6, if_pos hv6, ih]
                · rw [if_neg hv6, if_neg hv6, if_neg hv6, va_up_at, if_pos (by omega), ← hkf, ih]
              · rw [zlp_id (fun i x => by unfold grSc; rw [if_neg (by omega), if_neg (by omega)])]
                by_cases hv6 : v = 6
                · rw [if_pos hv6, if_pos hv6, ih]
                · rw [if_neg hv6, if_neg hv6, va_up_at, if_neg (by omega), ih]
            · rw [if_neg hsn, zlp_id (fun i x => by unfold grSc; rw [if_neg (by omega), if_neg (by omega)])]
              by_cases hv6 : v = 6
              · rw [if_pos hv6, if_pos hv6, ih]
              · rw [if_neg hv6, if_neg hv6, ih]
        · rw [if_neg k3, if_neg k3, if_neg k3, ih]
  unfold leavesF
  exact hall mr (Nat.le_refl _)
theorem up_and_le {f : Nat → Nat} {i m j : Nat} : va_up f i ((f i) &&& m) j ≤ f j := by
  rw [va_up_at]
  split
  · next h => rw [h]; exact Nat.and_le_left
  · exact Nat.le_refl _
theorem alS_le {gki gfi gat gse gst : Nat → Nat} {r : Nat} {f : Nat → Nat} : ∀ j, alS gki gfi gat gse gst r f j ≤ f j := by
  intro j
  unfold alS tieAl
  repeat' split
  all_goals first | exact Nat.le_refl _ | exact up_and_le
theorem alR_le {gve gki gfi gat gse gst : Nat → Nat} (mr : Nat) : ∀ j, alR gve gki gfi gat gse gst mr j ≤ (2 <<< gve j) - 1 := by
  unfold alR
  induction mr with
  | zero => intro j; exact Nat.le_refl _
  | succ r ih => intro j; rw [zlp_last]; exact Nat.le_trans (alS_le j) (ih j)
