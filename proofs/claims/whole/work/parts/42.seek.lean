section SK2
variable {mn mr xc xd : Nat} {gve gbs gki gfi gat gse gst fbe : Nat → Nat}
theorem skStep_at (n : Nat) (lf gi cm cg dw : Nat → Nat) : skStep mn mr xc xd gve gbs gki gfi gat gse gst (n + 1, lf, gi, cm, cg, dw) =
    (if cm n ≤ gve n + 1 then
      (if optF (gbs n) (gve n) (cm n) = 0 then (n + 1, lf, gi, va_up cm n (cm n + 1), cg, dw)
      else if (lf (8 * n + n) >>> (optF (gbs n) (gve n) (cm n) - 1)) &&& 1 = 0 then (n + 1, lf, gi, va_up cm n (cm n + 1), cg, dw)
      else if someF mn n (leavesF mn mr gki gfi gat gse gst n (optF (gbs n) (gve n) (cm n) - 1) lf) = 0 then (n + 1, leavesF mn mr gki gfi gat gse gst n (optF (gbs n) (gve n) (cm n) - 1) lf, gi, va_up cm n (cm n + 1), cg, dw)
      else if xc < cg n + chF (optF (gbs n) (gve n) (cm n) - 1) (gbs n) then (n + 1, leavesF mn mr gki gfi gat gse gst n (optF (gbs n) (gve n) (cm n) - 1) lf, va_up gi n (optF (gbs n) (gve n) (cm n) - 1), va_up cm n (cm n + 1), cg, dw)
      else if dw n + dwF (optF (gbs n) (gve n) (cm n) - 1) (gbs n) ≤ xd then (n + 1 + 1, leavesF mn mr gki gfi gat gse gst n (optF (gbs n) (gve n) (cm n) - 1) lf, va_up gi n (optF (gbs n) (gve n) (cm n) - 1), va_up (va_up cm n (cm n + 1)) (n + 1) 0, va_up cg (n + 1) (cg n + chF (optF (gbs n) (gve n) (cm n) - 1) (gbs n)), va_up dw (n + 1) (dw n + dwF (optF (gbs n) (gve n) (cm n) - 1) (gbs n)))
      else (n + 1, leavesF mn mr gki gfi gat gse gst n (optF (gbs n) (gve n) (cm n) - 1) lf, va_up gi n (optF (gbs n) (gve n) (cm n) - 1), va_up cm n (cm n + 1), cg, dw))
    else (n, lf, gi, va_up cm n (cm n + 1), cg, dw)) := rfl
theorem Res_tr {n d : Nat} {E : List (List Nat)} {q q1 q' : Mg} (h1 : ∀ j, j < n → q1.2.2.1 j = q.2.2.1 j) (h2 : ∀ j, j < n → q1.2.2.2.1 j = q.2.2.2.1 j) (h3 : ∀ j, j ≤ n → q1.2.2.2.2.1 j = q.2.2.2.2.1 j) (h4 : ∀ j, j ≤ n → q1.2.2.2.2.2 j = q.2.2.2.2.2 j) (h5 : ∀ j, j < 8 * n + 8 → q1.2.1 j = q.2.1 j) (h : Res gbs mn xc xd n d E q1 q') : Res gbs mn xc xd n d E q q' := by
  unfold Res at h ⊢
  rw [h3 n (Nat.le_refl _), h4 n (Nat.le_refl _)] at h
  split at h
  · next t ht =>
    obtain ⟨a, b, c, e⟩ := h
    exact ⟨a, fun j hj => (b j hj).trans (h1 j hj), c, e⟩
  · next ht =>
    obtain ⟨a, b, c, e, f, g⟩ := h
    exact ⟨a, fun j hj => (b j hj).trans (h1 j hj), fun j hj => (c j hj).trans (h2 j hj), fun j hj => (e j hj).trans (h3 j hj), fun j hj => (f j hj).trans (h4 j hj), fun j hj => (g j hj).trans (h5 j hj)⟩
theorem find_none_of {p : List Nat → Bool} {l : List (List Nat)} (h : ∀ t ∈ l, p t = false) : l.find? p = none := by
  rw [List.find?_eq_none]
  intro t ht
  rw [h t ht]
  decide
/-- THE REFERENCE'S SEARCH: from level n on it comes to the first choice that has few enough changed and down, or goes back -/
theorem sk_main (hmn : mn ≤ 8) (hve : ∀ j, gve j ≤ 6) (hbs : ∀ j, gbs j < 32) (hLv : LvOK mn mr gki gfi gat gse gst fbe) : ∀ d n (q : Mg) (L : Nat → Nat), n + d = mn → q.1 = n + 1 → q.2.2.2.1 n = 0 → q.2.2.2.2.1 n ≤ xc → q.2.2.2.2.2 n ≤ xd → (∀ k, n ≤ k → k < mn → q.2.1 (8 * n + k) = toM (L k) ∧ L k < 128 ∧ L k < 2 ^ (gve k + 1)) →
    ∃ s, s ≤ TT d ∧ Res gbs mn xc xd n d (enumC fbe gbs d n L) q (skRun mn mr xc xd gve gbs gki gfi gat gse gst s q) := by
  intro d
  induction d with
  | zero =>
    intro n q L hn hq _ hc hd _
    refine ⟨0, Nat.le_refl _, ?_⟩
    have hp : (fun t => decide (q.2.2.2.2.1 n + chS gbs n t ≤ xc ∧ q.2.2.2.2.2 n + dwS gbs n t ≤ xd)) ([] : List Nat) = true := decide_eq_true ⟨hc, hd⟩
    have hf : List.find? (fun t => decide (q.2.2.2.2.1 n + chS gbs n t ≤ xc ∧ q.2.2.2.2.2 n + dwS gbs n t ≤ xd)) [([] : List Nat)] = some [] := List.find?_cons_of_pos (p := fun t => decide (q.2.2.2.2.1 n + chS gbs n t ≤ xc ∧ q.2.2.2.2.2 n + dwS gbs n t ≤ xd)) hp
    unfold Res
    rw [enumC, hf]
    have hnm : n = mn := by omega
    refine ⟨by show q.1 = _; omega, fun _ _ => rfl, fun i hi => absurd hi (by omega), ?_⟩
    show q.2.2.2.2.1 mn = q.2.2.2.2.1 n + 0
    rw [hnm]
    rfl
  | succ d ih =>
    intro n q L hn hq hcm hc hd hrow
    have ol : ∀ r (q : Mg), q.1 = n + 1 → q.2.2.2.1 n + r = gve n + 2 → q.2.2.2.2.1 n ≤ xc → q.2.2.2.2.2 n ≤ xd → (∀ k, n ≤ k → k < mn → q.2.1 (8 * n + k) = toM (L k) ∧ L k < 128 ∧ L k < 2 ^ (gve k + 1)) →
        ∃ s, s ≤ r * (1 + TT d) + 1 ∧ Res gbs mn xc xd n (d + 1) ((optL (gbs n) (gve n) (L n) r (q.2.2.2.1 n)).flatMap (fun cd => (enumC fbe gbs d (n + 1) (fun k => (L k) &&& (fbe ((n * 7 + cd) * 8 + 0 + k)))).map (fun t => cd :: t))) q (skRun mn mr xc xd gve gbs gki gfi gat gse gst s q) := by
      intro r
      induction r with
      | zero =>
        intro q hq hko hc hd hrow
        obtain ⟨n1, lf, gi, cm, cg, dw⟩ := q
        dsimp only at hq hko hc hd hrow
        subst hq
        refine ⟨1, by omega, ?_⟩
        rw [skRun_1 (by show ¬ n + 1 = 0; omega) (by show ¬ mn + 1 ≤ n + 1; omega), skStep_at, if_neg (by omega)]
        show Res gbs mn xc xd n (d + 1) [] _ _
        exact ⟨rfl, fun _ _ => rfl, fun j hj => by show va_up cm n _ j = cm j; unfold va_up; rw [if_neg (by omega)], fun _ _ => rfl, fun _ _ => rfl, fun _ _ => rfl⟩
      | succ r ihr =>
        intro q hq hko hc hd hrow
        obtain ⟨n1, lf, gi, cm, cg, dw⟩ := q
        dsimp only at hq hko hc hd hrow
        subst hq
        have hcm' : ∀ j, j < n → va_up cm n (cm n + 1) j = cm j := fun j hj => by unfold va_up; rw [if_neg (by omega)]
        have hcn : va_up cm n (cm n + 1) n = cm n + 1 := va_up_self _ _ _
        have hstep := skRun_1 (mr := mr) (xc := xc) (xd := xd) (gve := gve) (gbs := gbs) (gki := gki) (gfi := gfi) (gat := gat) (gse := gse) (gst := gst) (q := (n + 1, lf, gi, cm, cg, dw)) (mn := mn) (by show ¬ n + 1 = 0; omega) (by show ¬ mn + 1 ≤ n + 1; omega)
        rw [skStep_at, if_pos (show cm n ≤ gve n + 1 by omega)] at hstep
        have hov : optF (gbs n) (gve n) (cm n) ≤ 7 := optF_le (hve n)
        -- staying at the level with the same row
        have stay : ∀ (lf' gi' : Nat → Nat), (∀ j, j < 8 * n + 8 → lf' j = lf j) → (∀ j, j < n → gi' j = gi j) → skRun mn mr xc xd gve gbs gki gfi gat gse gst 1 (n + 1, lf, gi, cm, cg, dw) = (n + 1, lf', gi', va_up cm n (cm n + 1), cg, dw) →
            (List.find? (fun t => decide (cg n + chS gbs n t ≤ xc ∧ dw n + dwS gbs n t ≤ xd)) (List.flatMap (fun cd => (enumC fbe gbs d (n + 1) (fun k => (L k) &&& (fbe ((n * 7 + cd) * 8 + 0 + k)))).map (fun t => cd :: t)) (if optF (gbs n) (gve n) (cm n) = 0 then [] else if ((toM (L n)) >>> (optF (gbs n) (gve n) (cm n) - 1)) &&& 1 = 0 then [] else [gvC (optF (gbs n) (gve n) (cm n) - 1)])) = none) →
            ∃ s, s ≤ (r + 1) * (1 + TT d) + 1 ∧ Res gbs mn xc xd n (d + 1) ((optL (gbs n) (gve n) (L n) (r + 1) (cm n)).flatMap (fun cd => (enumC fbe gbs d (n + 1) (fun k => (L k) &&& (fbe ((n * 7 + cd) * 8 + 0 + k)))).map (fun t => cd :: t))) (n + 1, lf, gi, cm, cg, dw) (skRun mn mr xc xd gve gbs gki gfi gat gse gst s (n + 1, lf, gi, cm, cg, dw)) := by
          intro lf' gi' hlf hgi he hnone
          obtain ⟨s, hs, hR⟩ := ihr (n + 1, lf', gi', va_up cm n (cm n + 1), cg, dw) rfl (by show va_up cm n (cm n + 1) n + r = _; rw [hcn]; omega) hc hd (fun k h1 h2 => by show lf' (8 * n + k) = _ ∧ _; rw [hlf _ (by omega)]; exact hrow k h1 h2)
          refine ⟨1 + s, ?_, ?_⟩
          · rw [Nat.succ_mul]; omega
          · rw [skRun_add, he]
            have hR' : Res gbs mn xc xd n (d + 1) ((optL (gbs n) (gve n) (L n) r (cm n + 1)).flatMap (fun cd => (enumC fbe gbs d (n + 1) (fun k => (L k) &&& (fbe ((n * 7 + cd) * 8 + 0 + k)))).map (fun t => cd :: t))) (n + 1, lf', gi', va_up cm n (cm n + 1), cg, dw) (skRun mn mr xc xd gve gbs gki gfi gat gse gst s (n + 1, lf', gi', va_up cm n (cm n + 1), cg, dw)) := by
              have hR2 := hR
              dsimp only at hR2
              rw [hcn] at hR2
              exact hR2
            have hR3 := Res_tr (q := (n + 1, lf, gi, cm, cg, dw)) (q1 := (n + 1, lf', gi', va_up cm n (cm n + 1), cg, dw)) hgi hcm' (fun _ _ => rfl) (fun _ _ => rfl) hlf hR'
            rw [optL, List.flatMap_append]
            unfold Res at hR3 ⊢
            dsimp only at hR3 ⊢
            rw [find_skip hnone]
            exact hR3
        by_cases q0 : optF (gbs n) (gve n) (cm n) = 0
        · rw [if_pos q0] at hstep
          exact stay lf gi (fun _ _ => rfl) (fun _ _ => rfl) hstep (by rw [if_pos q0]; rfl)
        · rw [if_neg q0] at hstep
          have hrn := hrow n (Nat.le_refl _) (by omega)
          rw [hrn.1] at hstep
          by_cases q1 : ((toM (L n)) >>> (optF (gbs n) (gve n) (cm n) - 1)) &&& 1 = 0
          · rw [if_pos q1] at hstep
            exact stay lf gi (fun _ _ => rfl) (fun _ _ => rfl) hstep (by rw [if_neg q0, if_pos q1]; rfl)
          · rw [if_neg q1] at hstep
            have hlv := hLv n (optF (gbs n) (gve n) (cm n) - 1) lf L (by omega) (by omega) (fun k h1 h2 => ⟨(hrow k (by omega) h2).1, (hrow k (by omega) h2).2.1⟩)
            have hlow : ∀ j, j < 8 * n + 8 → leavesF mn mr gki gfi gat gse gst n (optF (gbs n) (gve n) (cm n) - 1) lf j = lf j := fun j hj => leavesF_low (by omega)
            by_cases q2 : someF mn n (leavesF mn mr gki gfi gat gse gst n (optF (gbs n) (gve n) (cm n) - 1) lf) = 0
            · rw [if_pos q2] at hstep
              refine stay _ gi hlow (fun _ _ => rfl) hstep ?_
              rw [if_neg q0, if_neg q1]
              obtain ⟨j, h1, h2, h3⟩ := smB_ex _ _ q2
              rw [hlv j (by omega) (by omega)] at h3
              have h4 := toM_0 h3
              have h5 : enumC fbe gbs d (n + 1) (fun k => (L k) &&& (fbe ((n * 7 + gvC (optF (gbs n) (gve n) (cm n) - 1)) * 8 + 0 + k))) = [] := enumC_ne fbe gbs (k := j) h1 (by omega) h4
              rw [List.flatMap_cons, h5]
              rfl
            · rw [if_neg q2] at hstep
              have hch := chF_gvC (v := optF (gbs n) (gve n) (cm n) - 1) (cb := gbs n) (by omega)
              have hdw := dwF_gvC (v := optF (gbs n) (gve n) (cm n) - 1) (cb := gbs n) (by omega)
              by_cases q3 : xc < cg n + chF (optF (gbs n) (gve n) (cm n) - 1) (gbs n)
              · rw [if_pos q3] at hstep
                refine stay _ _ hlow (fun j hj => by unfold va_up; rw [if_neg (by omega)]) hstep ?_
                rw [if_neg q0, if_neg q1]
                refine find_none_of ?_
                intro t ht
                obtain ⟨cd, h1, h2⟩ := List.mem_flatMap.mp ht
                obtain ⟨t', h3, rfl⟩ := List.mem_map.mp h2
                have h1' : cd = gvC (optF (gbs n) (gve n) (cm n) - 1) := by simpa using h1
                refine decide_eq_false (fun z => ?_)
                have z1 := z.1
                have : chS gbs n (cd :: t') = (if cd = gbs n then 0 else 1) + chS gbs (n + 1) t' := rfl
                rw [this, h1', ← hch] at z1
                omega
              · rw [if_neg q3] at hstep
                by_cases q4 : dw n + dwF (optF (gbs n) (gve n) (cm n) - 1) (gbs n) ≤ xd
                · rw [if_pos q4] at hstep
                  obtain ⟨s1, hs1, hR1⟩ := ih (n + 1) (n + 1 + 1, leavesF mn mr gki gfi gat gse gst n (optF (gbs n) (gve n) (cm n) - 1) lf, va_up gi n (optF (gbs n) (gve n) (cm n) - 1), va_up (va_up cm n (cm n + 1)) (n + 1) 0, va_up cg (n + 1) (cg n + chF (optF (gbs n) (gve n) (cm n) - 1) (gbs n)), va_up dw (n + 1) (dw n + dwF (optF (gbs n) (gve n) (cm n) - 1) (gbs n))) (fun k => (L k) &&& (fbe ((n * 7 + gvC (optF (gbs n) (gve n) (cm n) - 1)) * 8 + 0 + k))) (by omega) rfl (va_up_self _ _ _) (by show va_up cg (n + 1) _ (n + 1) ≤ xc; rw [va_up_self]; omega) (by show va_up dw (n + 1) _ (n + 1) ≤ xd; rw [va_up_self]; exact q4) (fun k h1 h2 => by
                    have hk := hrow k (by omega) h2
                    refine ⟨hlv k (by omega) h2, and_lt128 hk.2.1, Nat.lt_of_le_of_lt Nat.and_le_left hk.2.2⟩)
                  have hE : ∀ t', (fun t => decide (cg n + chS gbs n t ≤ xc ∧ dw n + dwS gbs n t ≤ xd)) (gvC (optF (gbs n) (gve n) (cm n) - 1) :: t') = (fun t => decide (va_up cg (n + 1) (cg n + chF (optF (gbs n) (gve n) (cm n) - 1) (gbs n)) (n + 1) + chS gbs (n + 1) t ≤ xc ∧ va_up dw (n + 1) (dw n + dwF (optF (gbs n) (gve n) (cm n) - 1) (gbs n)) (n + 1) + dwS gbs (n + 1) t ≤ xd)) t' := by
                    intro t'
                    have e1 : chS gbs n (gvC (optF (gbs n) (gve n) (cm n) - 1) :: t') = (if gvC (optF (gbs n) (gve n) (cm n) - 1) = gbs n then 0 else 1) + chS gbs (n + 1) t' := rfl
                    have e2 : dwS gbs n (gvC (optF (gbs n) (gve n) (cm n) - 1) :: t') = (if gvC (optF (gbs n) (gve n) (cm n) - 1) ≠ 0 ∧ gvC (optF (gbs n) (gve n) (cm n) - 1) < gbs n then 1 else 0) + dwS gbs (n + 1) t' := rfl
                    dsimp only
                    rw [va_up_self, va_up_self, e1, e2, ← hch, ← hdw, Nat.add_assoc, Nat.add_assoc]
                  have hF : List.find? (fun t => decide (cg n + chS gbs n t ≤ xc ∧ dw n + dwS gbs n t ≤ xd)) (List.flatMap (fun cd => (enumC fbe gbs d (n + 1) (fun k => (L k) &&& (fbe ((n * 7 + cd) * 8 + 0 + k)))).map (fun t => cd :: t)) [gvC (optF (gbs n) (gve n) (cm n) - 1)]) = (List.find? (fun t => decide (va_up cg (n + 1) (cg n + chF (optF (gbs n) (gve n) (cm n) - 1) (gbs n)) (n + 1) + chS gbs (n + 1) t ≤ xc ∧ va_up dw (n + 1) (dw n + dwF (optF (gbs n) (gve n) (cm n) - 1) (gbs n)) (n + 1) + dwS gbs (n + 1) t ≤ xd)) (enumC fbe gbs d (n + 1) (fun k => (L k) &&& (fbe ((n * 7 + gvC (optF (gbs n) (gve n) (cm n) - 1)) * 8 + 0 + k))))).map (fun t => gvC (optF (gbs n) (gve n) (cm n) - 1) :: t) := by
                    rw [List.flatMap_cons, List.flatMap_nil, List.append_nil, List.find?_map]
                    congr 2
                    funext t'
                    exact hE t'
                  unfold Res at hR1
                  dsimp only at hR1
                  cases hf : List.find? (fun t => decide (va_up cg (n + 1) (cg n + chF (optF (gbs n) (gve n) (cm n) - 1) (gbs n)) (n + 1) + chS gbs (n + 1) t ≤ xc ∧ va_up dw (n + 1) (dw n + dwF (optF (gbs n) (gve n) (cm n) - 1) (gbs n)) (n + 1) + dwS gbs (n + 1) t ≤ xd)) (enumC fbe gbs d (n + 1) (fun k => (L k) &&& (fbe ((n * 7 + gvC (optF (gbs n) (gve n) (cm n) - 1)) * 8 + 0 + k)))) with
                  | some t =>
                    rw [hf] at hR1 hF
                    obtain ⟨r1, r2, r3, r4⟩ := hR1
                    refine ⟨1 + s1, ?_, ?_⟩
                    · rw [Nat.succ_mul]; omega
                    · rw [skRun_add, hstep]
                      unfold Res
                      dsimp only
                      rw [optL, List.flatMap_append, if_neg q0, if_neg q1, List.find?_append, hF]
                      refine ⟨r1, ?_, ?_, ?_⟩
                      · intro j hj
                        rw [r2 j (by omega)]
                        unfold va_up
                        rw [if_neg (by omega)]
                      · intro i hi
                        cases i with
                        | zero =>
                          have e := r2 n (by omega)
                          rw [va_up_self] at e
                          show gvC ((skRun mn mr xc xd gve gbs gki gfi gat gse gst s1 _).2.2.1 n) = _ ∧ (skRun mn mr xc xd gve gbs gki gfi gat gse gst s1 _).2.2.1 n ≤ 6
                          rw [e]
                          exact ⟨rfl, by omega⟩
                        | succ i =>
                          rw [show n + (i + 1) = n + 1 + i by omega]
                          exact r3 i (by omega)
                      · rw [r4, va_up_self]
                        show _ = cg n + ((if gvC (optF (gbs n) (gve n) (cm n) - 1) = gbs n then 0 else 1) + chS gbs (n + 1) t)
                        rw [← hch, Nat.add_assoc]
                  | none =>
                    rw [hf] at hR1 hF
                    obtain ⟨r1, r2, r3, r4, r5, r6⟩ := hR1
                    generalize hq2 : skRun mn mr xc xd gve gbs gki gfi gat gse gst s1 (n + 1 + 1, leavesF mn mr gki gfi gat gse gst n (optF (gbs n) (gve n) (cm n) - 1) lf, va_up gi n (optF (gbs n) (gve n) (cm n) - 1), va_up (va_up cm n (cm n + 1)) (n + 1) 0, va_up cg (n + 1) (cg n + chF (optF (gbs n) (gve n) (cm n) - 1) (gbs n)), va_up dw (n + 1) (dw n + dwF (optF (gbs n) (gve n) (cm n) - 1) (gbs n))) = q2 at r1 r2 r3 r4 r5 r6
                    have k1 : ∀ j, j < n → q2.2.2.1 j = gi j := fun j hj => by rw [r2 j (by omega)]; unfold va_up; rw [if_neg (by omega)]
                    have k2 : ∀ j, j < n → q2.2.2.2.1 j = cm j := fun j hj => by rw [r3 j (by omega)]; unfold va_up; rw [if_neg (by omega), if_neg (by omega)]
                    have k2n : q2.2.2.2.1 n = cm n + 1 := by rw [r3 n (by omega)]; unfold va_up; rw [if_neg (by omega), if_pos rfl]
                    have k3 : ∀ j, j ≤ n → q2.2.2.2.2.1 j = cg j := fun j hj => by rw [r4 j (by omega)]; unfold va_up; rw [if_neg (by omega)]
                    have k4 : ∀ j, j ≤ n → q2.2.2.2.2.2 j = dw j := fun j hj => by rw [r5 j (by omega)]; unfold va_up; rw [if_neg (by omega)]
                    have k5 : ∀ j, j < 8 * n + 8 → q2.2.1 j = lf j := fun j hj => by rw [r6 j (by omega)]; exact hlow j hj
                    obtain ⟨s2, hs2, hR2⟩ := ihr q2 r1 (by rw [k2n]; omega) (by rw [k3 n (Nat.le_refl _)]; exact hc) (by rw [k4 n (Nat.le_refl _)]; exact hd) (fun k h1 h2 => by rw [k5 _ (by omega)]; exact hrow k h1 h2)
                    refine ⟨1 + s1 + s2, ?_, ?_⟩
                    · rw [Nat.succ_mul]; omega
                    · rw [skRun_add, skRun_add, hstep, hq2]
                      have hR3 := Res_tr (q := (n + 1, lf, gi, cm, cg, dw)) (q1 := q2) k1 k2 k3 k4 k5 hR2
                      rw [k2n] at hR3
                      rw [optL, List.flatMap_append, if_neg q0, if_neg q1]
                      unfold Res at hR3 ⊢
                      dsimp only at hR3 ⊢
                      rw [find_skip hF]
                      exact hR3
                · rw [if_neg q4] at hstep
                  refine stay _ _ hlow (fun j hj => by unfold va_up; rw [if_neg (by omega)]) hstep ?_
                  rw [if_neg q0, if_neg q1]
                  refine find_none_of ?_
                  intro t ht
                  obtain ⟨cd, h1, h2⟩ := List.mem_flatMap.mp ht
                  obtain ⟨t', h3, rfl⟩ := List.mem_map.mp h2
                  have h1' : cd = gvC (optF (gbs n) (gve n) (cm n) - 1) := by simpa using h1
                  refine decide_eq_false (fun z => ?_)
                  have z1 := z.2
                  have : dwS gbs n (cd :: t') = (if cd ≠ 0 ∧ cd < gbs n then 1 else 0) + dwS gbs (n + 1) t' := rfl
                  rw [this, h1', ← hdw] at z1
                  omega
    obtain ⟨s, hs, hR⟩ := ol (gve n + 2) q hq (by rw [hcm]; omega) hc hd hrow
    refine ⟨s, ?_, ?_⟩
    · have h8 : (gve n + 2) * (1 + TT d) ≤ 8 * (1 + TT d) := Nat.mul_le_mul (by have := hve n; omega) (Nat.le_refl _)
      show s ≤ 8 * (1 + TT d) + 1
      omega
    · have hrn := hrow n (Nat.le_refl _) (by omega)
      rw [hcm, optL_ord (gve n) (by have := hve n; omega) (gbs n) (hbs n) (L n) hrn.2.1 hrn.2.2] at hR
      rw [enumC]
      exact hR
end SK2
