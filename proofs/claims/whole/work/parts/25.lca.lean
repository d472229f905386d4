
def toN (x : Int32) : Nat := x.toNatClampNeg
def toC (x : Int32) : Nat := (x + 1).toNatClampNeg
abbrev isN (x : Int32) (n : Nat) : Prop := ¬ x < 0 ∧ x < nI n
theorem toN_eq {x : Int32} (h : ¬ x < 0) : x = nI (toN x) := by
  obtain ⟨j, hj, rfl⟩ := nI_of h
  unfold toN
  rw [nI_clamp hj]
theorem toN_nI {n : Nat} (h : n < 2 ^ 31) : toN (nI n) = n := nI_clamp h
theorem toN_lt31 (x : Int32) : toN x < 2147483648 := by
  unfold toN Int32.toNatClampNeg
  have := Int32.toInt_lt x
  omega
theorem isN_lt {x : Int32} {n : Nat} (hn : n < 2147483648) (h : isN x n) : toN x < n := by
  have h2 := h.2
  rw [toN_eq h.1] at h2
  exact (nI_ltI (toN_lt31 x) hn).mp h2
theorem isN_nI {j n : Nat} (hj : j < n) (hn : n < 2147483648) : isN (nI j) n := ⟨nI_pos (Nat.lt_trans hj hn), nI_lt hj hn⟩
theorem toC_eq {x : Int32} (h1 : ¬ x < -1) (h2 : x ≤ nI 9) : x = mI (toC x) ∧ toC x ≤ 10 := by
  have e1 : (-1 : Int32).toInt = -1 := rfl
  have e9 : (nI 9).toInt = 9 := rfl
  have q1 : -1 ≤ x.toInt := by
    rw [Int32.lt_iff_toInt_lt, e1] at h1
    omega
  have q2 : x.toInt ≤ 9 := by
    rw [Int32.le_iff_toInt_le, e9] at h2
    exact h2
  have q3 : (x + 1).toInt = x.toInt + 1 := by
    rw [Int32.toInt_add, show (1 : Int32).toInt = 1 from rfl, Int.bmod_eq_of_le] <;> omega
  have q4 : (toC x : Int) = x.toInt + 1 := by
    unfold toC Int32.toNatClampNeg
    rw [q3]
    omega
  refine ⟨?_, by omega⟩
  apply Int32.toInt_inj.mp
  rw [mI_toInt (by omega), q4]
  omega
theorem nI_max {a b : Nat} (ha : a < 2147483648) (hb : b < 2147483648) : (if nI a < nI b then nI b else nI a) = nI (if a < b then b else a) := by
  by_cases h : a < b
  · rw [if_pos h, if_pos ((nI_ltI ha hb).mpr h)]
  · rw [if_neg h, if_neg (fun q => h ((nI_ltI ha hb).mp q))]
theorem rng_eq {x : Int32} (h1 : ¬ x < nI 1) (h2 : ¬ nI 6 < x) : x = nI (toN x) ∧ 1 ≤ toN x ∧ toN x ≤ 6 := by
  have h0 : ¬ x < 0 := fun q => h1 (Int32.lt_trans q (by decide))
  have e := toN_eq h0
  have l := toN_lt31 x
  refine ⟨e, ?_, ?_⟩
  · rcases Nat.lt_or_ge (toN x) 1 with q | q
    · exact absurd (by rw [e]; exact (nI_ltI l (by decide)).mpr q) h1
    · exact q
  · rcases Nat.lt_or_ge 6 (toN x) with q | q
    · exact absurd (by rw [e]; exact (nI_ltI (by decide) l).mpr q) h2
    · exact q

theorem lkX3_isName_48 : Cond.fieldLink RX3 48 "LeastChange" "nameCount" "I" ∈ wsX3_isName := by decide +kernel
theorem inX3_isName_X3 : ∀ w ∈ wsX30, w ∈ wsX3_isName := by decide +kernel
set_option maxHeartbeats 4000000 in
set_option maxRecDepth 100000 in
theorem kX3_isName (l : Launch) (D : va_G) (cA : ClassId) (sz : Nat) (lc : Nat) (ra : Nat) (sa : Nat) (fa : Nat) (ve : Nat) (lk : Nat) (jo : Nat) (ba : Nat) (ro : Nat) (nc : Nat) (rc : Nat) (xx : Int32) (hnc : nc ≤ 8) : zMi l yX3_isName wsX3_isName ({ frames := 0, cells := 0, slots := 0, locals := 0 }) D cA [.ref lc, .int xx] sz [(lc, .inr (5, [.ref ra, .ref sa, .ref fa, .ref ve, .ref lk, .ref jo, .ref ba, .ref ro, .int (nI nc), .int (nI rc)]))] [(lc, .inr (5, [.ref ra, .ref sa, .ref fa, .ref ve, .ref lk, .ref jo, .ref ba, .ref ro, .int (nI nc), .int (nI rc)]))] (nI (if isN xx nc then 1 else 0)) := by
  refine Met.ofW (cc := cX3_isName) (maxL := 2) (ret := (some .boolean)) (by decide) rfl ?_
  intro p e s m args below meth c s₁ B hml hv
  obtain ⟨rfl, hsz, hP, hK, hD0⟩ := hv
  have hx := B.exec
  have hb := B.bytes
  have hr := B.returns
  have hts := atoms_spec (ws := wsX3_isName) B.pre
  have hown : s.vm.findClass RX3 = some m.cls := findClass_of_methodNamed B.named
  have hlocks := B.notSynchronized
  subst hsz
  have hD := hD0.self (sz := s.heap.size)
  generalize hAe : va_A [(lc, .inr (5, [.ref ra, .ref sa, .ref fa, .ref ve, .ref lk, .ref jo, .ref ba, .ref ro, .int (nI nc), .int (nI rc)]))] s.heap.size = A at hD ⊢
  have hA : ∀ q : Nat, s.heap.size ≤ q → A q := fun q h => by rw [← hAe]; exact Or.inr h
  have hS : va_S A s.heap s.heap [] := va_S.rf
  have hP : va_P D vwCl [(lc, .inr (5, [.ref ra, .ref sa, .ref fa, .ref ve, .ref lk, .ref jo, .ref ba, .ref ro, .int (nI nc), .int (nI rc)]))] s.heap := hP
  have hl := lv_entry ([.ref lc, .int xx]) (n := 2) (Nat.le_of_ble_eq_true rfl)
  rw [lg_entry_eq]
  generalize (lg_sl ([.ref lc, .int xx]) ++ List.replicate (2 - (lg_sl ([.ref lc, .int xx])).length) Slot.unset).toArray = ls at hl ⊢
  have hl : lv_has ls 2 [(0, .ref lc), (1, .int xx)] := hl
  refine lv_iload_n hx hb dX3_isName_0 rfl (lv_at hl 1 rfl) ?_
  refine lv_if_lt (tgt := 16) hx hb dX3_isName_1 (by decide) (fun c_1 => ?_) (fun c_1 => ?_)
  · refine lv_iconst (v := nI 0) hx hb dX3_isName_16 (by decide) ?_
    exact W.zret (v := (nI 0)) hx hb hr rfl (fun t ht hW => ⟨⟨(nI 0), (), rfl, (by first | exact congrArg nI (if_pos (show isN xx nc from ⟨c_1, Int32.not_le.mp c_9⟩)).symm | exact congrArg nI (if_neg (fun q : isN xx nc => Int32.not_le.mpr q.2 c_9)).symm | exact congrArg nI (if_neg (fun q : isN xx nc => q.1 c_1)).symm), by rw [ht]; exact hP, hD⟩, hS.F ht⟩) hS.2.2 dX3_isName_17
  · refine lv_iload_n hx hb dX3_isName_4 rfl (lv_at hl 1 rfl) ?_
    refine lv_aload_n hx hb dX3_isName_5 rfl (lv_at hl 0 rfl) ?_
    refine va_get (D := D) (ci := 5) (v := .int (nI nc)) (C := RX3) (T := TX3) (N := 10) hx hb hts inX3_isName_X3 hown hK.1 hP 0 rfl rfl 8 (by decide) (hts _ lkX3_isName_48) (fun _ h9 => h9) rfl dX3_isName_6 ?_
    refine lv_icmp_ge (tgt := 16) hx hb dX3_isName_9 (by decide) (fun c_9 => ?_) (fun c_9 => ?_)
    · refine lv_iconst (v := nI 0) hx hb dX3_isName_16 (by decide) ?_
      exact W.zret (v := (nI 0)) hx hb hr rfl (fun t ht hW => ⟨⟨(nI 0), (), rfl, (by first | exact congrArg nI (if_pos (show isN xx nc from ⟨c_1, Int32.not_le.mp c_9⟩)).symm | exact congrArg nI (if_neg (fun q : isN xx nc => Int32.not_le.mpr q.2 c_9)).symm | exact congrArg nI (if_neg (fun q : isN xx nc => q.1 c_1)).symm), by rw [ht]; exact hP, hD⟩, hS.F ht⟩) hS.2.2 dX3_isName_17
    · refine lv_iconst (v := nI 1) hx hb dX3_isName_12 (by decide) ?_
      refine lv_goto (tgt := 17) hx hb dX3_isName_13 (by decide) ?_
      exact W.zret (v := (nI 1)) hx hb hr rfl (fun t ht hW => ⟨⟨(nI 1), (), rfl, (by first | exact congrArg nI (if_pos (show isN xx nc from ⟨c_1, Int32.not_le.mp c_9⟩)).symm | exact congrArg nI (if_neg (fun q : isN xx nc => Int32.not_le.mpr q.2 c_9)).symm | exact congrArg nI (if_neg (fun q : isN xx nc => q.1 c_1)).symm), by rw [ht]; exact hP, hD⟩, hS.F ht⟩) hS.2.2 dX3_isName_17

theorem lkX3_addRow_45 : Cond.fieldLink RX3 45 "LeastChange" "rows" "[I" ∈ wsX3_addRow := by decide +kernel
theorem lkX3_addRow_52 : Cond.fieldLink RX3 52 "LeastChange" "rowCount" "I" ∈ wsX3_addRow := by decide +kernel
theorem inX3_addRow_X3 : ∀ w ∈ wsX30, w ∈ wsX3_addRow := by decide +kernel
set_option maxHeartbeats 4000000 in
set_option maxRecDepth 100000 in
theorem kX3_addRow (l : Launch) (D : va_G) (cA : ClassId) (sz : Nat) (lc : Nat) (ra : Nat) (sa : Nat) (fa : Nat) (ve : Nat) (lk : Nat) (jo : Nat) (ba : Nat) (ro : Nat) (nc : Nat) (rc : Nat) (fro : Nat → Nat) (kd : Nat) (na : Nat) (vs : Nat) (ot : Nat) (hrc : rc < 60) : zMi l yX3_addRow wsX3_addRow ({ frames := 0, cells := 0, slots := 0, locals := 0 }) D cA [.ref lc, .int (nI kd), .int (nI na), .int (nI vs), .int (nI ot)] sz [(lc, .inr (5, [.ref ra, .ref sa, .ref fa, .ref ve, .ref lk, .ref jo, .ref ba, .ref ro, .int (nI nc), .int (nI rc)])), (ro, .inl (cA, 60, .inl (aN fro)))] [(lc, .inr (5, [.ref ra, .ref sa, .ref fa, .ref ve, .ref lk, .ref jo, .ref ba, .ref ro, .int (nI nc), .int (nI (rc + 1))])), (ro, .inl (cA, 60, .inl (aN (va_up fro rc (((kd * 8 + na) * 8 + vs) * 8 + ot)))))] (nI rc) := by
  refine Met.ofW (cc := cX3_addRow) (maxL := 6) (ret := (some .int)) (by decide) rfl ?_
  intro p e s m args below meth c s₁ B hml hv
  obtain ⟨rfl, hsz, hP, hK, hD0⟩ := hv
  have hx := B.exec
  have hb := B.bytes
  have hr := B.returns
  have hts := atoms_spec (ws := wsX3_addRow) B.pre
  have hown : s.vm.findClass RX3 = some m.cls := findClass_of_methodNamed B.named
  have hlocks := B.notSynchronized
  subst hsz
  have hD := hD0.self (sz := s.heap.size)
  generalize hAe : va_A [(lc, .inr (5, [.ref ra, .ref sa, .ref fa, .ref ve, .ref lk, .ref jo, .ref ba, .ref ro, .int (nI nc), .int (nI rc)])), (ro, .inl (cA, 60, .inl (aN fro)))] s.heap.size = A at hD ⊢
  have hA : ∀ q : Nat, s.heap.size ≤ q → A q := fun q h => by rw [← hAe]; exact Or.inr h
  have hS : va_S A s.heap s.heap [] := va_S.rf
  have hP : va_P D vwCl [(lc, .inr (5, [.ref ra, .ref sa, .ref fa, .ref ve, .ref lk, .ref jo, .ref ba, .ref ro, .int (nI nc), .int (nI rc)])), (ro, .inl (cA, 60, .inl (aN fro)))] s.heap := hP
  have hl := lv_entry ([.ref lc, .int (nI kd), .int (nI na), .int (nI vs), .int (nI ot)]) (n := 6) (Nat.le_of_ble_eq_true rfl)
  rw [lg_entry_eq]
  generalize (lg_sl ([.ref lc, .int (nI kd), .int (nI na), .int (nI vs), .int (nI ot)]) ++ List.replicate (6 - (lg_sl ([.ref lc, .int (nI kd), .int (nI na), .int (nI vs), .int (nI ot)])).length) Slot.unset).toArray = ls at hl ⊢
  have hl : lv_has ls 6 [(0, .ref lc), (1, .int (nI kd)), (2, .int (nI na)), (3, .int (nI vs)), (4, .int (nI ot))] := hl
  refine lv_aload_n hx hb dX3_addRow_0 rfl (lv_at hl 0 rfl) ?_
  refine va_get (D := D) (ci := 5) (v := .int (nI rc)) (C := RX3) (T := TX3) (N := 10) hx hb hts inX3_addRow_X3 hown hK.1 hP 0 rfl rfl 9 (by decide) (hts _ lkX3_addRow_52) (fun _ h9 => h9) rfl dX3_addRow_1 ?_
  refine lv_istore (lv' := [(5, .int (nI rc)), (0, .ref lc), (1, .int (nI kd)), (2, .int (nI na)), (3, .int (nI vs)), (4, .int (nI ot))]) hx hb dX3_addRow_4 hl (by decide) rfl (fun ls hl => ?_)
  refine lv_aload_n hx hb dX3_addRow_6 rfl (lv_at hl 1 rfl) ?_
  refine va_get (D := D) (ci := 5) (v := .ref ro) (C := RX3) (T := TX3) (N := 10) hx hb hts inX3_addRow_X3 hown hK.1 hP 0 rfl rfl 7 (by decide) (hts _ lkX3_addRow_45) (fun _ h9 => h9) rfl dX3_addRow_7 ?_
  refine lv_iload hx hb dX3_addRow_10 (lv_at hl 0 rfl) ?_
  refine lv_iload_n hx hb dX3_addRow_12 rfl (lv_at hl 2 rfl) ?_
  refine lv_bipush (v := nI 8) hx hb dX3_addRow_13 (by decide) ?_
  refine nn_imul hx hb dX3_addRow_15 ?_
  refine lv_iload_n hx hb dX3_addRow_16 rfl (lv_at hl 3 rfl) ?_
  refine nn_iadd hx hb dX3_addRow_17 ?_
  refine lv_bipush (v := nI 8) hx hb dX3_addRow_18 (by decide) ?_
  refine nn_imul hx hb dX3_addRow_20 ?_
  refine lv_iload_n hx hb dX3_addRow_21 rfl (lv_at hl 4 rfl) ?_
  refine nn_iadd hx hb dX3_addRow_22 ?_
  refine lv_bipush (v := nI 8) hx hb dX3_addRow_23 (by decide) ?_
  refine nn_imul hx hb dX3_addRow_25 ?_
  refine lv_iload hx hb dX3_addRow_26 (lv_at hl 5 rfl) ?_
  refine nn_iadd hx hb dX3_addRow_28 ?_
  refine nn_ast hx hb hK hP hD hS 1 rfl (by omega) (by decide) dX3_addRow_29 (fun H locs hP hD hS => ?_)
  have hP : va_P D vwCl [(lc, .inr (5, [.ref ra, .ref sa, .ref fa, .ref ve, .ref lk, .ref jo, .ref ba, .ref ro, .int (nI nc), .int (nI rc)])), (ro, .inl (cA, 60, .inl (aN (va_up fro rc ((((((kd * 8) + na) * 8) + vs) * 8) + ot)))))] H := hP
  have hD : va_D A [(lc, .inr (5, [.ref ra, .ref sa, .ref fa, .ref ve, .ref lk, .ref jo, .ref ba, .ref ro, .int (nI nc), .int (nI rc)])), (ro, .inl (cA, 60, .inl (aN (va_up fro rc ((((((kd * 8) + na) * 8) + vs) * 8) + ot)))))] := hD
  refine lv_aload_n hx hb dX3_addRow_30 rfl (lv_at hl 1 rfl) ?_
  refine lv_dup hx hb dX3_addRow_31 rfl ?_
  refine va_get (D := D) (ci := 5) (v := .int (nI rc)) (C := RX3) (T := TX3) (N := 10) hx hb hts inX3_addRow_X3 hown hK.1 hP 0 rfl rfl 9 (by decide) (hts _ lkX3_addRow_52) (fun _ h9 => h9) rfl dX3_addRow_32 ?_
  refine lv_iconst (v := nI 1) hx hb dX3_addRow_35 (by decide) ?_
  refine nn_iadd hx hb dX3_addRow_36 ?_
  refine va_put (D := D) (ci := 5) (v := .int (nI (rc + 1))) (ty := .int) (C := RX3) (T := TX3) (N := 10) hx hb hts inX3_addRow_X3 tyX3 tyX3_ok nmX3 hown hK.1 hP hD hS 0 rfl rfl 9 (by decide) (hts _ lkX3_addRow_52) (fun _ h9 => h9) rfl (by decide +kernel) rfl rfl (Nat.le_of_ble_eq_true rfl) dX3_addRow_37 (fun H locs hP hD hS => ?_)
  have hP : va_P D vwCl [(lc, .inr (5, [.ref ra, .ref sa, .ref fa, .ref ve, .ref lk, .ref jo, .ref ba, .ref ro, .int (nI nc), .int (nI (rc + 1))])), (ro, .inl (cA, 60, .inl (aN (va_up fro rc ((((((kd * 8) + na) * 8) + vs) * 8) + ot)))))] H := hP
  have hD : va_D A [(lc, .inr (5, [.ref ra, .ref sa, .ref fa, .ref ve, .ref lk, .ref jo, .ref ba, .ref ro, .int (nI nc), .int (nI (rc + 1))])), (ro, .inl (cA, 60, .inl (aN (va_up fro rc ((((((kd * 8) + na) * 8) + vs) * 8) + ot)))))] := hD
  refine lv_iload hx hb dX3_addRow_40 (lv_at hl 0 rfl) ?_
  have eW : ([(lc, .inr (5, [.ref ra, .ref sa, .ref fa, .ref ve, .ref lk, .ref jo, .ref ba, .ref ro, .int (nI nc), .int (nI (rc + 1))])), (ro, .inl (cA, 60, .inl (aN (va_up fro rc ((((((kd * 8) + na) * 8) + vs) * 8) + ot)))))] : va_W) = [(lc, .inr (5, [.ref ra, .ref sa, .ref fa, .ref ve, .ref lk, .ref jo, .ref ba, .ref ro, .int (nI nc), .int (nI (rc + 1))])), (ro, .inl (cA, 60, .inl (aN (va_up fro rc (((kd * 8 + na) * 8 + vs) * 8 + ot)))))] := by rfl
  rw [eW] at hP hD
  exact W.iret (v := (nI rc)) hx hb hr (fun t ht hW => ⟨⟨(nI rc), (), rfl, rfl, by rw [ht]; exact hP, hD⟩, hS.F ht⟩) hS.2.2 dX3_addRow_42


def asF (xx : Int32) (kd cs nc rc : Nat) (fal fro : Nat → Nat) : Int32 × (Nat → Nat) × (Nat → Nat) × Nat :=
  if isN xx nc then (if rc < 60 then (nI rc, va_up fal (toN xx) ((fal (toN xx)) &&& cs), va_up fro rc (((kd * 8 + toN xx) * 8 + 0) * 8 + 0), rc + 1) else (-4, fal, fro, rc)) else (-1, fal, fro, rc)

theorem lkX3_addSetRow_12 : Cond.fieldLink RX3 12 "LeastChange" "rules" "LLeastChange$Rules;" ∈ wsX3_addSetRow := by decide +kernel
theorem lkX3_addSetRow_52 : Cond.fieldLink RX3 52 "LeastChange" "rowCount" "I" ∈ wsX3_addSetRow := by decide +kernel
theorem inX3_addSetRow_X3 : ∀ w ∈ wsX30, w ∈ wsX3_addSetRow := by decide +kernel
theorem iniX3_addSetRow_X1 : Cond.initialized RX1 ∈ wsX3_addSetRow := by decide +kernel
theorem imX3_addSetRow_X1_narrow : Cond.instanceMethod yX1_narrow ∈ wsX3_addSetRow := by decide +kernel
theorem seX3_addSetRow_X1_narrow : Cond.selects RX1 yX1_narrow yX1_narrow ∈ wsX3_addSetRow := by decide +kernel
set_option maxHeartbeats 4000000 in
set_option maxRecDepth 100000 in
theorem kX3_addSetRow (l : Launch) (D : va_G) (cA : ClassId) (sz : Nat) (lc : Nat) (ra : Nat) (sa : Nat) (fa : Nat) (ve : Nat) (lk : Nat) (jo : Nat) (ba : Nat) (ro : Nat) (al : Nat) (be : Nat) (nc : Nat) (rc : Nat) (fro : Nat → Nat) (fal : Nat → Nat) (fbe : Nat → Nat) (kd : Nat) (xx : Int32) (cs : Nat) (hnc : nc ≤ 8) (hrc : rc < 2147483648) : zMi l yX3_addSetRow wsX3_addSetRow ({ frames := 1, cells := 0, slots := 0, locals := 25 }) D cA [.ref lc, .int (nI kd), .int xx, .int (nI cs)] sz [(lc, .inr (5, [.ref ra, .ref sa, .ref fa, .ref ve, .ref lk, .ref jo, .ref ba, .ref ro, .int (nI nc), .int (nI rc)])), (ro, .inl (cA, 60, .inl (aN fro))), (ra, .inr (3, [.ref al, .ref be])), (al, .inl (cA, 8, .inl (aN fal))), (be, .inl (cA, 448, .inl (aN fbe)))] [(lc, .inr (5, [.ref ra, .ref sa, .ref fa, .ref ve, .ref lk, .ref jo, .ref ba, .ref ro, .int (nI nc), .int (nI ((asF xx kd cs nc rc fal fro).2.2.2))])), (ro, .inl (cA, 60, .inl (aN ((asF xx kd cs nc rc fal fro).2.2.1)))), (ra, .inr (3, [.ref al, .ref be])), (al, .inl (cA, 8, .inl (aN ((asF xx kd cs nc rc fal fro).2.1)))), (be, .inl (cA, 448, .inl (aN fbe)))] ((asF xx kd cs nc rc fal fro).1) := by
  refine Met.ofW (cc := cX3_addSetRow) (maxL := 4) (ret := (some .int)) (by decide) rfl ?_
  intro p e s m args below meth c s₁ B hml hv
  obtain ⟨rfl, hsz, hP, hK, hD0⟩ := hv
  have hx := B.exec
  have hb := B.bytes
  have hr := B.returns
  have hts := atoms_spec (ws := wsX3_addSetRow) B.pre
  have hown : s.vm.findClass RX3 = some m.cls := findClass_of_methodNamed B.named
  have hlocks := B.notSynchronized
  subst hsz
  have hD := hD0.self (sz := s.heap.size)
  generalize hAe : va_A [(lc, .inr (5, [.ref ra, .ref sa, .ref fa, .ref ve, .ref lk, .ref jo, .ref ba, .ref ro, .int (nI nc), .int (nI rc)])), (ro, .inl (cA, 60, .inl (aN fro))), (ra, .inr (3, [.ref al, .ref be])), (al, .inl (cA, 8, .inl (aN fal))), (be, .inl (cA, 448, .inl (aN fbe)))] s.heap.size = A at hD ⊢
  have hA : ∀ q : Nat, s.heap.size ≤ q → A q := fun q h => by rw [← hAe]; exact Or.inr h
  have hS : va_S A s.heap s.heap [] := va_S.rf
  have hP : va_P D vwCl [(lc, .inr (5, [.ref ra, .ref sa, .ref fa, .ref ve, .ref lk, .ref jo, .ref ba, .ref ro, .int (nI nc), .int (nI rc)])), (ro, .inl (cA, 60, .inl (aN fro))), (ra, .inr (3, [.ref al, .ref be])), (al, .inl (cA, 8, .inl (aN fal))), (be, .inl (cA, 448, .inl (aN fbe)))] s.heap := hP
  have hl := lv_entry ([.ref lc, .int (nI kd), .int xx, .int (nI cs)]) (n := 4) (Nat.le_of_ble_eq_true rfl)
  rw [lg_entry_eq]
  generalize (lg_sl ([.ref lc, .int (nI kd), .int xx, .int (nI cs)]) ++ List.replicate (4 - (lg_sl ([.ref lc, .int (nI kd), .int xx, .int (nI cs)])).length) Slot.unset).toArray = ls at hl ⊢
  have hl : lv_has ls 4 [(0, .ref lc), (1, .int (nI kd)), (2, .int xx), (3, .int (nI cs))] := hl
  refine lv_aload_n hx hb dX3_addSetRow_0 rfl (lv_at hl 0 rfl) ?_
  refine lv_iload_n hx hb dX3_addSetRow_1 rfl (lv_at hl 2 rfl) ?_
  refine zz_callI (av := []) (wc := [(lc, .inr (5, [.ref ra, .ref sa, .ref fa, .ref ve, .ref lk, .ref jo, .ref ba, .ref ro, .int (nI nc), .int (nI rc)]))]) (wr := [(ro, .inl (cA, 60, .inl (aN fro))), (ra, .inr (3, [.ref al, .ref be])), (al, .inl (cA, 8, .inl (aN fal))), (be, .inl (cA, 448, .inl (aN fbe)))]) hS hA hP hD [0] [1, 2, 3, 4] rfl rfl (by decide) (by decide) (va_runV (As := [.int xx]) (rest := []) ⟨hx, hb, hml, hown, hts⟩ (kX3_isName l D cA s.heap.size lc ra sa fa ve lk jo ba ro nc rc xx (by omega)) (cwV 1 hts gX3_addSetRow_X3_isName rfl rfl rfl (by decide +kernel) ⟨Nat.le_of_ble_eq_true rfl, Nat.le_of_ble_eq_true rfl⟩) ⟨(zPreS (av := [.ref lc, .int xx]) (wc := [(lc, .inr (5, [.ref ra, .ref sa, .ref fa, .ref ve, .ref lk, .ref jo, .ref ba, .ref ro, .int (nI nc), .int (nI rc)]))]) hK hP hD [0] rfl (by decide) rfl).1, (va_recv hK.1 hP (ci := 5) (q0 := 0) rfl rfl), (zPreS (av := [.ref lc, .int xx]) (wc := [(lc, .inr (5, [.ref ra, .ref sa, .ref fa, .ref ve, .ref lk, .ref jo, .ref ba, .ref ro, .int (nI nc), .int (nI rc)]))]) hK hP hD [0] rfl (by decide) rfl).2⟩ rfl rfl hl.1 rfl (lv_room (Nat.le_of_ble_eq_true rfl)) dX3_addSetRow_2 ⟨Nat.zero_le _, Nat.zero_le _⟩) (fun H locs hP hD hS => ?_)
  have hP : va_P D vwCl [(ro, .inl (cA, 60, .inl (aN fro))), (ra, .inr (3, [.ref al, .ref be])), (al, .inl (cA, 8, .inl (aN fal))), (be, .inl (cA, 448, .inl (aN fbe))), (lc, .inr (5, [.ref ra, .ref sa, .ref fa, .ref ve, .ref lk, .ref jo, .ref ba, .ref ro, .int (nI nc), .int (nI rc)]))] H := hP
  have hD : va_D A [(ro, .inl (cA, 60, .inl (aN fro))), (ra, .inr (3, [.ref al, .ref be])), (al, .inl (cA, 8, .inl (aN fal))), (be, .inl (cA, 448, .inl (aN fbe))), (lc, .inr (5, [.ref ra, .ref sa, .ref fa, .ref ve, .ref lk, .ref jo, .ref ba, .ref ro, .int (nI nc), .int (nI rc)]))] := hD
  have hP : va_P D vwCl [(lc, .inr (5, [.ref ra, .ref sa, .ref fa, .ref ve, .ref lk, .ref jo, .ref ba, .ref ro, .int (nI nc), .int (nI rc)])), (ro, .inl (cA, 60, .inl (aN fro))), (ra, .inr (3, [.ref al, .ref be])), (al, .inl (cA, 8, .inl (aN fal))), (be, .inl (cA, 448, .inl (aN fbe)))] H := hP.sub [4, 0, 1, 2, 3] rfl
  have hD : va_D A [(lc, .inr (5, [.ref ra, .ref sa, .ref fa, .ref ve, .ref lk, .ref jo, .ref ba, .ref ro, .int (nI nc), .int (nI rc)])), (ro, .inl (cA, 60, .inl (aN fro))), (ra, .inr (3, [.ref al, .ref be])), (al, .inl (cA, 8, .inl (aN fal))), (be, .inl (cA, 448, .inl (aN fbe)))] := hD.sub [4, 0, 1, 2, 3] (by decide) rfl
  refine nn_if_ne (tgt := 10) hx hb dX3_addSetRow_5 (by decide) if01_lt (fun c_5 => ?_) (fun c_5 => ?_)
  · have c_5 := if01_ne c_5
    have e2 := toN_eq (c_5).1
    have b2 : toN xx < nc := isN_lt (by omega) c_5
    have hl : lv_has ls 4 [(0, .ref lc), (1, .int (nI kd)), (2, .int (nI (toN xx))), (3, .int (nI cs))] := by rw [← e2]; exact hl
    refine lv_aload_n hx hb dX3_addSetRow_10 rfl (lv_at hl 0 rfl) ?_
    refine va_get (D := D) (ci := 5) (v := .int (nI rc)) (C := RX3) (T := TX3) (N := 10) hx hb hts inX3_addSetRow_X3 hown hK.1 hP 0 rfl rfl 9 (by decide) (hts _ lkX3_addSetRow_52) (fun _ h9 => h9) rfl dX3_addSetRow_11 ?_
    refine lv_bipush (v := nI 60) hx hb dX3_addSetRow_14 (by decide) ?_
    refine nn_icmp_lt (tgt := 22) hx hb dX3_addSetRow_16 (by decide) (by omega) (by omega) (fun c_16 => ?_) (fun c_16 => ?_)
    · refine lv_aload_n hx hb dX3_addSetRow_22 rfl (lv_at hl 0 rfl) ?_
      refine va_get (D := D) (ci := 5) (v := .ref ra) (C := RX3) (T := TX3) (N := 10) hx hb hts inX3_addSetRow_X3 hown hK.1 hP 0 rfl rfl 0 (by decide) (hts _ lkX3_addSetRow_12) (fun _ h9 => h9) rfl dX3_addSetRow_23 ?_
      refine lv_iload_n hx hb dX3_addSetRow_26 rfl (lv_at hl 2 rfl) ?_
      refine lv_iload_n hx hb dX3_addSetRow_27 rfl (lv_at hl 3 rfl) ?_
      refine zz_callV (av := []) (wc := [(ra, .inr (3, [.ref al, .ref be])), (al, .inl (cA, 8, .inl (aN fal))), (be, .inl (cA, 448, .inl (aN fbe)))]) (wr := [(lc, .inr (5, [.ref ra, .ref sa, .ref fa, .ref ve, .ref lk, .ref jo, .ref ba, .ref ro, .int (nI nc), .int (nI rc)])), (ro, .inl (cA, 60, .inl (aN fro)))]) hS hA hP hD [2, 3, 4] [0, 1] rfl rfl (by decide) (by decide) (va_runVN (As := [.int (nI (toN xx)), .int (nI cs)]) (rest := []) ⟨hx, hb, hml, hown, hts⟩ (kX1_narrow l D cA H.size ra al be fal fbe (toN xx) cs (by omega)) ⟨va_cnB 2 hts gX3_addSetRow_X1_narrow_n148 rfl rfl rfl (hK.2 _ nkX3_148) (hts _ iniX3_addSetRow_X1) (by decide +kernel) ⟨Nat.le_of_ble_eq_true rfl, Nat.le_of_ble_eq_true rfl⟩, hts _ imX3_addSetRow_X1_narrow, hts _ seX3_addSetRow_X1_narrow⟩ ⟨(zPreS (av := [.ref ra, .int (nI (toN xx)), .int (nI cs)]) (wc := [(ra, .inr (3, [.ref al, .ref be])), (al, .inl (cA, 8, .inl (aN fal))), (be, .inl (cA, 448, .inl (aN fbe)))]) hK hP hD [2, 3, 4] rfl (by decide) rfl).1, (va_recv hK.1 hP (ci := 3) (q0 := 2) rfl rfl), (zPreS (av := [.ref ra, .int (nI (toN xx)), .int (nI cs)]) (wc := [(ra, .inr (3, [.ref al, .ref be])), (al, .inl (cA, 8, .inl (aN fal))), (be, .inl (cA, 448, .inl (aN fbe)))]) hK hP hD [2, 3, 4] rfl (by decide) rfl).2⟩ rfl rfl hl.1 rfl (lv_room (Nat.le_of_ble_eq_true rfl)) dX3_addSetRow_28 ⟨Nat.zero_le _, Nat.zero_le _⟩) (fun H locs hP hD hS => ?_)
      have hP : va_P D vwCl [(lc, .inr (5, [.ref ra, .ref sa, .ref fa, .ref ve, .ref lk, .ref jo, .ref ba, .ref ro, .int (nI nc), .int (nI rc)])), (ro, .inl (cA, 60, .inl (aN fro))), (ra, .inr (3, [.ref al, .ref be])), (al, .inl (cA, 8, .inl (aN (va_up fal (toN xx) ((fal (toN xx)) &&& cs))))), (be, .inl (cA, 448, .inl (aN fbe)))] H := hP
      have hD : va_D A [(lc, .inr (5, [.ref ra, .ref sa, .ref fa, .ref ve, .ref lk, .ref jo, .ref ba, .ref ro, .int (nI nc), .int (nI rc)])), (ro, .inl (cA, 60, .inl (aN fro))), (ra, .inr (3, [.ref al, .ref be])), (al, .inl (cA, 8, .inl (aN (va_up fal (toN xx) ((fal (toN xx)) &&& cs))))), (be, .inl (cA, 448, .inl (aN fbe)))] := hD
      refine lv_aload_n hx hb dX3_addSetRow_31 rfl (lv_at hl 0 rfl) ?_
      refine lv_iload_n hx hb dX3_addSetRow_32 rfl (lv_at hl 1 rfl) ?_
      refine lv_iload_n hx hb dX3_addSetRow_33 rfl (lv_at hl 2 rfl) ?_
      refine lv_iconst (v := nI 0) hx hb dX3_addSetRow_34 (by decide) ?_
      refine lv_iconst (v := nI 0) hx hb dX3_addSetRow_35 (by decide) ?_
      refine zz_callI (av := []) (wc := [(lc, .inr (5, [.ref ra, .ref sa, .ref fa, .ref ve, .ref lk, .ref jo, .ref ba, .ref ro, .int (nI nc), .int (nI rc)])), (ro, .inl (cA, 60, .inl (aN fro)))]) (wr := [(ra, .inr (3, [.ref al, .ref be])), (al, .inl (cA, 8, .inl (aN (va_up fal (toN xx) ((fal (toN xx)) &&& cs))))), (be, .inl (cA, 448, .inl (aN fbe)))]) hS hA hP hD [0, 1] [2, 3, 4] rfl rfl (by decide) (by decide) (va_runV (As := [.int (nI kd), .int (nI (toN xx)), .int (nI 0), .int (nI 0)]) (rest := []) ⟨hx, hb, hml, hown, hts⟩ (kX3_addRow l D cA H.size lc ra sa fa ve lk jo ba ro nc rc fro kd (toN xx) 0 0 (by omega)) (cwV 4 hts gX3_addSetRow_X3_addRow rfl rfl rfl (by decide +kernel) ⟨Nat.le_of_ble_eq_true rfl, Nat.le_of_ble_eq_true rfl⟩) ⟨(zPreS (av := [.ref lc, .int (nI kd), .int (nI (toN xx)), .int (nI 0), .int (nI 0)]) (wc := [(lc, .inr (5, [.ref ra, .ref sa, .ref fa, .ref ve, .ref lk, .ref jo, .ref ba, .ref ro, .int (nI nc), .int (nI rc)])), (ro, .inl (cA, 60, .inl (aN fro)))]) hK hP hD [0, 1] rfl (by decide) rfl).1, (va_recv hK.1 hP (ci := 5) (q0 := 0) rfl rfl), (zPreS (av := [.ref lc, .int (nI kd), .int (nI (toN xx)), .int (nI 0), .int (nI 0)]) (wc := [(lc, .inr (5, [.ref ra, .ref sa, .ref fa, .ref ve, .ref lk, .ref jo, .ref ba, .ref ro, .int (nI nc), .int (nI rc)])), (ro, .inl (cA, 60, .inl (aN fro)))]) hK hP hD [0, 1] rfl (by decide) rfl).2⟩ rfl rfl hl.1 rfl (lv_room (Nat.le_of_ble_eq_true rfl)) dX3_addSetRow_36 ⟨Nat.zero_le _, Nat.zero_le _⟩) (fun H locs hP hD hS => ?_)
      have hP : va_P D vwCl [(ra, .inr (3, [.ref al, .ref be])), (al, .inl (cA, 8, .inl (aN (va_up fal (toN xx) ((fal (toN xx)) &&& cs))))), (be, .inl (cA, 448, .inl (aN fbe))), (lc, .inr (5, [.ref ra, .ref sa, .ref fa, .ref ve, .ref lk, .ref jo, .ref ba, .ref ro, .int (nI nc), .int (nI (rc + 1))])), (ro, .inl (cA, 60, .inl (aN (va_up fro rc (((kd * 8 + (toN xx)) * 8 + 0) * 8 + 0)))))] H := hP
      have hD : va_D A [(ra, .inr (3, [.ref al, .ref be])), (al, .inl (cA, 8, .inl (aN (va_up fal (toN xx) ((fal (toN xx)) &&& cs))))), (be, .inl (cA, 448, .inl (aN fbe))), (lc, .inr (5, [.ref ra, .ref sa, .ref fa, .ref ve, .ref lk, .ref jo, .ref ba, .ref ro, .int (nI nc), .int (nI (rc + 1))])), (ro, .inl (cA, 60, .inl (aN (va_up fro rc (((kd * 8 + (toN xx)) * 8 + 0) * 8 + 0)))))] := hD
      have hP : va_P D vwCl [(lc, .inr (5, [.ref ra, .ref sa, .ref fa, .ref ve, .ref lk, .ref jo, .ref ba, .ref ro, .int (nI nc), .int (nI (rc + 1))])), (ro, .inl (cA, 60, .inl (aN (va_up fro rc (((kd * 8 + (toN xx)) * 8 + 0) * 8 + 0))))), (ra, .inr (3, [.ref al, .ref be])), (al, .inl (cA, 8, .inl (aN (va_up fal (toN xx) ((fal (toN xx)) &&& cs))))), (be, .inl (cA, 448, .inl (aN fbe)))] H := hP.sub [3, 4, 0, 1, 2] rfl
      have hD : va_D A [(lc, .inr (5, [.ref ra, .ref sa, .ref fa, .ref ve, .ref lk, .ref jo, .ref ba, .ref ro, .int (nI nc), .int (nI (rc + 1))])), (ro, .inl (cA, 60, .inl (aN (va_up fro rc (((kd * 8 + (toN xx)) * 8 + 0) * 8 + 0))))), (ra, .inr (3, [.ref al, .ref be])), (al, .inl (cA, 8, .inl (aN (va_up fal (toN xx) ((fal (toN xx)) &&& cs))))), (be, .inl (cA, 448, .inl (aN fbe)))] := hD.sub [3, 4, 0, 1, 2] (by decide) rfl
      have eF : (asF xx kd cs nc rc fal fro) = ((nI rc), va_up fal (toN xx) ((fal (toN xx)) &&& cs), va_up fro rc (((kd * 8 + (toN xx)) * 8 + 0) * 8 + 0), rc + 1) := by unfold asF; (repeat' (first | rfl | contradiction | split))
      have eW : ([(lc, .inr (5, [.ref ra, .ref sa, .ref fa, .ref ve, .ref lk, .ref jo, .ref ba, .ref ro, .int (nI nc), .int (nI (rc + 1))])), (ro, .inl (cA, 60, .inl (aN (va_up fro rc (((kd * 8 + (toN xx)) * 8 + 0) * 8 + 0))))), (ra, .inr (3, [.ref al, .ref be])), (al, .inl (cA, 8, .inl (aN (va_up fal (toN xx) ((fal (toN xx)) &&& cs))))), (be, .inl (cA, 448, .inl (aN fbe)))] : va_W) = [(lc, .inr (5, [.ref ra, .ref sa, .ref fa, .ref ve, .ref lk, .ref jo, .ref ba, .ref ro, .int (nI nc), .int (nI ((asF xx kd cs nc rc fal fro).2.2.2))])), (ro, .inl (cA, 60, .inl (aN ((asF xx kd cs nc rc fal fro).2.2.1)))), (ra, .inr (3, [.ref al, .ref be])), (al, .inl (cA, 8, .inl (aN ((asF xx kd cs nc rc fal fro).2.1)))), (be, .inl (cA, 448, .inl (aN fbe)))] := by rw [eF]
      rw [eW] at hP hD
      exact W.iret (v := (nI rc)) hx hb hr (fun t ht hW => ⟨⟨(nI rc), (), rfl, (by rw [eF]), by rw [ht]; exact hP, hD⟩, hS.F ht⟩) hS.2.2 dX3_addSetRow_39
    · refine lv_bipush (v := -4) hx hb dX3_addSetRow_19 (by decide) ?_
      have eF : (asF xx kd cs nc rc fal fro) = ((-4), fal, fro, rc) := by unfold asF; (repeat' (first | rfl | contradiction | split))
      have eW : ([(lc, .inr (5, [.ref ra, .ref sa, .ref fa, .ref ve, .ref lk, .ref jo, .ref ba, .ref ro, .int (nI nc), .int (nI rc)])), (ro, .inl (cA, 60, .inl (aN fro))), (ra, .inr (3, [.ref al, .ref be])), (al, .inl (cA, 8, .inl (aN fal))), (be, .inl (cA, 448, .inl (aN fbe)))] : va_W) = [(lc, .inr (5, [.ref ra, .ref sa, .ref fa, .ref ve, .ref lk, .ref jo, .ref ba, .ref ro, .int (nI nc), .int (nI ((asF xx kd cs nc rc fal fro).2.2.2))])), (ro, .inl (cA, 60, .inl (aN ((asF xx kd cs nc rc fal fro).2.2.1)))), (ra, .inr (3, [.ref al, .ref be])), (al, .inl (cA, 8, .inl (aN ((asF xx kd cs nc rc fal fro).2.1)))), (be, .inl (cA, 448, .inl (aN fbe)))] := by rw [eF]
      rw [eW] at hP hD
      exact W.iret (v := (-4)) hx hb hr (fun t ht hW => ⟨⟨(-4), (), rfl, (by rw [eF]), by rw [ht]; exact hP, hD⟩, hS.F ht⟩) hS.2.2 dX3_addSetRow_21
  · have c_5 := if01_eq c_5
    refine lv_iconst (v := -1) hx hb dX3_addSetRow_8 (by decide) ?_
    have eF : (asF xx kd cs nc rc fal fro) = ((-1), fal, fro, rc) := by unfold asF; (repeat' (first | rfl | contradiction | split))
    have eW : ([(lc, .inr (5, [.ref ra, .ref sa, .ref fa, .ref ve, .ref lk, .ref jo, .ref ba, .ref ro, .int (nI nc), .int (nI rc)])), (ro, .inl (cA, 60, .inl (aN fro))), (ra, .inr (3, [.ref al, .ref be])), (al, .inl (cA, 8, .inl (aN fal))), (be, .inl (cA, 448, .inl (aN fbe)))] : va_W) = [(lc, .inr (5, [.ref ra, .ref sa, .ref fa, .ref ve, .ref lk, .ref jo, .ref ba, .ref ro, .int (nI nc), .int (nI ((asF xx kd cs nc rc fal fro).2.2.2))])), (ro, .inl (cA, 60, .inl (aN ((asF xx kd cs nc rc fal fro).2.2.1)))), (ra, .inr (3, [.ref al, .ref be])), (al, .inl (cA, 8, .inl (aN ((asF xx kd cs nc rc fal fro).2.1)))), (be, .inl (cA, 448, .inl (aN fbe)))] := by rw [eF]
    rw [eW] at hP hD
    exact W.iret (v := (-1)) hx hb hr (fun t ht hW => ⟨⟨(-1), (), rfl, (by rw [eF]), by rw [ht]; exact hP, hD⟩, hS.F ht⟩) hS.2.2 dX3_addSetRow_9

set_option maxHeartbeats 4000000 in
set_option maxRecDepth 100000 in
theorem kX3_want (l : Launch) (D : va_G) (cA : ClassId) (sz : Nat) (lc : Nat) (ra : Nat) (sa : Nat) (fa : Nat) (ve : Nat) (lk : Nat) (jo : Nat) (ba : Nat) (ro : Nat) (al : Nat) (be : Nat) (nc : Nat) (rc : Nat) (fro : Nat → Nat) (fal : Nat → Nat) (fbe : Nat → Nat) (xx : Int32) (dd : Int64) (hnc : nc ≤ 8) (hrc : rc < 2147483648) : zMi l yX3_want wsX3_want ({ frames := 2, cells := 0, slots := 0, locals := 48 }) D cA [.ref lc, .int xx, .long dd] sz [(lc, .inr (5, [.ref ra, .ref sa, .ref fa, .ref ve, .ref lk, .ref jo, .ref ba, .ref ro, .int (nI nc), .int (nI rc)])), (ro, .inl (cA, 60, .inl (aN fro))), (ra, .inr (3, [.ref al, .ref be])), (al, .inl (cA, 8, .inl (aN fal))), (be, .inl (cA, 448, .inl (aN fbe)))] [(lc, .inr (5, [.ref ra, .ref sa, .ref fa, .ref ve, .ref lk, .ref jo, .ref ba, .ref ro, .int (nI nc), .int (nI ((asF xx 1 (2 * lo6 dd) nc rc fal fro).2.2.2))])), (ro, .inl (cA, 60, .inl (aN ((asF xx 1 (2 * lo6 dd) nc rc fal fro).2.2.1)))), (ra, .inr (3, [.ref al, .ref be])), (al, .inl (cA, 8, .inl (aN ((asF xx 1 (2 * lo6 dd) nc rc fal fro).2.1)))), (be, .inl (cA, 448, .inl (aN fbe)))] ((asF xx 1 (2 * lo6 dd) nc rc fal fro).1) := by
  refine Met.ofW (cc := cX3_want) (maxL := 4) (ret := (some .int)) (by decide) rfl ?_
  intro p e s m args below meth c s₁ B hml hv
  obtain ⟨rfl, hsz, hP, hK, hD0⟩ := hv
  have hx := B.exec
  have hb := B.bytes
  have hr := B.returns
  have hts := atoms_spec (ws := wsX3_want) B.pre
  have hown : s.vm.findClass RX3 = some m.cls := findClass_of_methodNamed B.named
  have hlocks := B.notSynchronized
  subst hsz
  have hD := hD0.self (sz := s.heap.size)
  generalize hAe : va_A [(lc, .inr (5, [.ref ra, .ref sa, .ref fa, .ref ve, .ref lk, .ref jo, .ref ba, .ref ro, .int (nI nc), .int (nI rc)])), (ro, .inl (cA, 60, .inl (aN fro))), (ra, .inr (3, [.ref al, .ref be])), (al, .inl (cA, 8, .inl (aN fal))), (be, .inl (cA, 448, .inl (aN fbe)))] s.heap.size = A at hD ⊢
  have hA : ∀ q : Nat, s.heap.size ≤ q → A q := fun q h => by rw [← hAe]; exact Or.inr h
  have hS : va_S A s.heap s.heap [] := va_S.rf
  have hP : va_P D vwCl [(lc, .inr (5, [.ref ra, .ref sa, .ref fa, .ref ve, .ref lk, .ref jo, .ref ba, .ref ro, .int (nI nc), .int (nI rc)])), (ro, .inl (cA, 60, .inl (aN fro))), (ra, .inr (3, [.ref al, .ref be])), (al, .inl (cA, 8, .inl (aN fal))), (be, .inl (cA, 448, .inl (aN fbe)))] s.heap := hP
  have hl := lv_entry ([.ref lc, .int xx, .long dd]) (n := 4) (Nat.le_of_ble_eq_true rfl)
  rw [lg_entry_eq]
  generalize (lg_sl ([.ref lc, .int xx, .long dd]) ++ List.replicate (4 - (lg_sl ([.ref lc, .int xx, .long dd])).length) Slot.unset).toArray = ls at hl ⊢
  have hl : lv_has ls 4 [(0, .ref lc), (1, .int xx), (2, .long dd)] := hl
  refine lv_aload_n hx hb dX3_want_0 rfl (lv_at hl 0 rfl) ?_
  refine lv_iconst (v := nI 1) hx hb dX3_want_1 (by decide) ?_
  refine lv_iload_n hx hb dX3_want_2 rfl (lv_at hl 1 rfl) ?_
  refine lv_lload_n hx hb dX3_want_3 rfl (lv_at hl 2 rfl) ?_
  refine zz_callI (av := []) (wc := []) (wr := [(lc, .inr (5, [.ref ra, .ref sa, .ref fa, .ref ve, .ref lk, .ref jo, .ref ba, .ref ro, .int (nI nc), .int (nI rc)])), (ro, .inl (cA, 60, .inl (aN fro))), (ra, .inr (3, [.ref al, .ref be])), (al, .inl (cA, 8, .inl (aN fal))), (be, .inl (cA, 448, .inl (aN fbe)))]) hS hA hP hD [] [0, 1, 2, 3, 4] rfl rfl (by decide) (by decide) (va_runS (As := [.long dd]) (rest := [.int xx, .int (nI 1), .ref lc]) ⟨hx, hb, hml, hown, hts⟩ (kX3_codesOf l D cA s.heap.size dd ) (va_cwS 1 hts gX3_want_X3_codesOf rfl rfl rfl (by decide +kernel) ⟨Nat.le_of_ble_eq_true rfl, Nat.le_of_ble_eq_true rfl⟩) (zPreS (av := [.long dd]) (wc := []) hK hP hD [] rfl (by decide) rfl) rfl rfl hl.1 rfl (lv_room (Nat.le_of_ble_eq_true rfl)) dX3_want_4 ⟨Nat.zero_le _, Nat.zero_le _⟩) (fun H locs hP hD hS => ?_)
  have hP : va_P D vwCl [(lc, .inr (5, [.ref ra, .ref sa, .ref fa, .ref ve, .ref lk, .ref jo, .ref ba, .ref ro, .int (nI nc), .int (nI rc)])), (ro, .inl (cA, 60, .inl (aN fro))), (ra, .inr (3, [.ref al, .ref be])), (al, .inl (cA, 8, .inl (aN fal))), (be, .inl (cA, 448, .inl (aN fbe)))] H := hP
  have hD : va_D A [(lc, .inr (5, [.ref ra, .ref sa, .ref fa, .ref ve, .ref lk, .ref jo, .ref ba, .ref ro, .int (nI nc), .int (nI rc)])), (ro, .inl (cA, 60, .inl (aN fro))), (ra, .inr (3, [.ref al, .ref be])), (al, .inl (cA, 8, .inl (aN fal))), (be, .inl (cA, 448, .inl (aN fbe)))] := hD
  refine zz_callI (av := []) (wc := [(lc, .inr (5, [.ref ra, .ref sa, .ref fa, .ref ve, .ref lk, .ref jo, .ref ba, .ref ro, .int (nI nc), .int (nI rc)])), (ro, .inl (cA, 60, .inl (aN fro))), (ra, .inr (3, [.ref al, .ref be])), (al, .inl (cA, 8, .inl (aN fal))), (be, .inl (cA, 448, .inl (aN fbe)))]) (wr := []) hS hA hP hD [0, 1, 2, 3, 4] [] rfl rfl (by decide) (by decide) (va_runV (As := [.int (nI 1), .int xx, .int (nI (2 * lo6 dd))]) (rest := []) ⟨hx, hb, hml, hown, hts⟩ (kX3_addSetRow l D cA H.size lc ra sa fa ve lk jo ba ro al be nc rc fro fal fbe 1 xx (2 * lo6 dd) (by omega) (by omega)) (cwV 3 hts gX3_want_X3_addSetRow rfl rfl rfl (by decide +kernel) ⟨Nat.le_of_ble_eq_true rfl, Nat.le_of_ble_eq_true rfl⟩) ⟨(zPreS (av := [.ref lc, .int (nI 1), .int xx, .int (nI (2 * lo6 dd))]) (wc := [(lc, .inr (5, [.ref ra, .ref sa, .ref fa, .ref ve, .ref lk, .ref jo, .ref ba, .ref ro, .int (nI nc), .int (nI rc)])), (ro, .inl (cA, 60, .inl (aN fro))), (ra, .inr (3, [.ref al, .ref be])), (al, .inl (cA, 8, .inl (aN fal))), (be, .inl (cA, 448, .inl (aN fbe)))]) hK hP hD [0, 1, 2, 3, 4] rfl (by decide) rfl).1, (va_recv hK.1 hP (ci := 5) (q0 := 0) rfl rfl), (zPreS (av := [.ref lc, .int (nI 1), .int xx, .int (nI (2 * lo6 dd))]) (wc := [(lc, .inr (5, [.ref ra, .ref sa, .ref fa, .ref ve, .ref lk, .ref jo, .ref ba, .ref ro, .int (nI nc), .int (nI rc)])), (ro, .inl (cA, 60, .inl (aN fro))), (ra, .inr (3, [.ref al, .ref be])), (al, .inl (cA, 8, .inl (aN fal))), (be, .inl (cA, 448, .inl (aN fbe)))]) hK hP hD [0, 1, 2, 3, 4] rfl (by decide) rfl).2⟩ rfl rfl hl.1 rfl (lv_room (Nat.le_of_ble_eq_true rfl)) dX3_want_7 ⟨Nat.zero_le _, Nat.zero_le _⟩) (fun H locs hP hD hS => ?_)
  have hP : va_P D vwCl [(lc, .inr (5, [.ref ra, .ref sa, .ref fa, .ref ve, .ref lk, .ref jo, .ref ba, .ref ro, .int (nI nc), .int (nI ((asF xx 1 (2 * lo6 dd) nc rc fal fro).2.2.2))])), (ro, .inl (cA, 60, .inl (aN ((asF xx 1 (2 * lo6 dd) nc rc fal fro).2.2.1)))), (ra, .inr (3, [.ref al, .ref be])), (al, .inl (cA, 8, .inl (aN ((asF xx 1 (2 * lo6 dd) nc rc fal fro).2.1)))), (be, .inl (cA, 448, .inl (aN fbe)))] H := hP
  have hD : va_D A [(lc, .inr (5, [.ref ra, .ref sa, .ref fa, .ref ve, .ref lk, .ref jo, .ref ba, .ref ro, .int (nI nc), .int (nI ((asF xx 1 (2 * lo6 dd) nc rc fal fro).2.2.2))])), (ro, .inl (cA, 60, .inl (aN ((asF xx 1 (2 * lo6 dd) nc rc fal fro).2.2.1)))), (ra, .inr (3, [.ref al, .ref be])), (al, .inl (cA, 8, .inl (aN ((asF xx 1 (2 * lo6 dd) nc rc fal fro).2.1)))), (be, .inl (cA, 448, .inl (aN fbe)))] := hD
  exact W.iret (v := ((asF xx 1 (2 * lo6 dd) nc rc fal fro).1)) hx hb hr (fun t ht hW => ⟨⟨((asF xx 1 (2 * lo6 dd) nc rc fal fro).1), (), rfl, rfl, by rw [ht]; exact hP, hD⟩, hS.F ht⟩) hS.2.2 dX3_want_10

set_option maxHeartbeats 4000000 in
set_option maxRecDepth 100000 in
theorem kX3_force (l : Launch) (D : va_G) (cA : ClassId) (sz : Nat) (lc : Nat) (ra : Nat) (sa : Nat) (fa : Nat) (ve : Nat) (lk : Nat) (jo : Nat) (ba : Nat) (ro : Nat) (al : Nat) (be : Nat) (nc : Nat) (rc : Nat) (fro : Nat → Nat) (fal : Nat → Nat) (fbe : Nat → Nat) (xx : Int32) (dd : Int64) (hnc : nc ≤ 8) (hrc : rc < 2147483648) : zMi l yX3_force wsX3_force ({ frames := 2, cells := 0, slots := 0, locals := 48 }) D cA [.ref lc, .int xx, .long dd] sz [(lc, .inr (5, [.ref ra, .ref sa, .ref fa, .ref ve, .ref lk, .ref jo, .ref ba, .ref ro, .int (nI nc), .int (nI rc)])), (ro, .inl (cA, 60, .inl (aN fro))), (ra, .inr (3, [.ref al, .ref be])), (al, .inl (cA, 8, .inl (aN fal))), (be, .inl (cA, 448, .inl (aN fbe)))] [(lc, .inr (5, [.ref ra, .ref sa, .ref fa, .ref ve, .ref lk, .ref jo, .ref ba, .ref ro, .int (nI nc), .int (nI ((asF xx 2 ((2 * lo6 dd) ||| 1) nc rc fal fro).2.2.2))])), (ro, .inl (cA, 60, .inl (aN ((asF xx 2 ((2 * lo6 dd) ||| 1) nc rc fal fro).2.2.1)))), (ra, .inr (3, [.ref al, .ref be])), (al, .inl (cA, 8, .inl (aN ((asF xx 2 ((2 * lo6 dd) ||| 1) nc rc fal fro).2.1)))), (be, .inl (cA, 448, .inl (aN fbe)))] ((asF xx 2 ((2 * lo6 dd) ||| 1) nc rc fal fro).1) := by
  refine Met.ofW (cc := cX3_force) (maxL := 4) (ret := (some .int)) (by decide) rfl ?_
  intro p e s m args below meth c s₁ B hml hv
  obtain ⟨rfl, hsz, hP, hK, hD0⟩ := hv
  have hx := B.exec
  have hb := B.bytes
  have hr := B.returns
  have hts := atoms_spec (ws := wsX3_force) B.pre
  have hown : s.vm.findClass RX3 = some m.cls := findClass_of_methodNamed B.named
  have hlocks := B.notSynchronized
  subst hsz
  have hD := hD0.self (sz := s.heap.size)
  generalize hAe : va_A [(lc, .inr (5, [.ref ra, .ref sa, .ref fa, .ref ve, .ref lk, .ref jo, .ref ba, .ref ro, .int (nI nc), .int (nI rc)])), (ro, .inl (cA, 60, .inl (aN fro))), (ra, .inr (3, [.ref al, .ref be])), (al, .inl (cA, 8, .inl (aN fal))), (be, .inl (cA, 448, .inl (aN fbe)))] s.heap.size = A at hD ⊢
  have hA : ∀ q : Nat, s.heap.size ≤ q → A q := fun q h => by rw [← hAe]; exact Or.inr h
  have hS : va_S A s.heap s.heap [] := va_S.rf
  have hP : va_P D vwCl [(lc, .inr (5, [.ref ra, .ref sa, .ref fa, .ref ve, .ref lk, .ref jo, .ref ba, .ref ro, .int (nI nc), .int (nI rc)])), (ro, .inl (cA, 60, .inl (aN fro))), (ra, .inr (3, [.ref al, .ref be])), (al, .inl (cA, 8, .inl (aN fal))), (be, .inl (cA, 448, .inl (aN fbe)))] s.heap := hP
  have hl := lv_entry ([.ref lc, .int xx, .long dd]) (n := 4) (Nat.le_of_ble_eq_true rfl)
  rw [lg_entry_eq]
  generalize (lg_sl ([.ref lc, .int xx, .long dd]) ++ List.replicate (4 - (lg_sl ([.ref lc, .int xx, .long dd])).length) Slot.unset).toArray = ls at hl ⊢
  have hl : lv_has ls 4 [(0, .ref lc), (1, .int xx), (2, .long dd)] := hl
  refine lv_aload_n hx hb dX3_force_0 rfl (lv_at hl 0 rfl) ?_
  refine lv_iconst (v := nI 2) hx hb dX3_force_1 (by decide) ?_
  refine lv_iload_n hx hb dX3_force_2 rfl (lv_at hl 1 rfl) ?_
  refine lv_lload_n hx hb dX3_force_3 rfl (lv_at hl 2 rfl) ?_
  refine zz_callI (av := []) (wc := []) (wr := [(lc, .inr (5, [.ref ra, .ref sa, .ref fa, .ref ve, .ref lk, .ref jo, .ref ba, .ref ro, .int (nI nc), .int (nI rc)])), (ro, .inl (cA, 60, .inl (aN fro))), (ra, .inr (3, [.ref al, .ref be])), (al, .inl (cA, 8, .inl (aN fal))), (be, .inl (cA, 448, .inl (aN fbe)))]) hS hA hP hD [] [0, 1, 2, 3, 4] rfl rfl (by decide) (by decide) (va_runS (As := [.long dd]) (rest := [.int xx, .int (nI 2), .ref lc]) ⟨hx, hb, hml, hown, hts⟩ (kX3_codesOf l D cA s.heap.size dd ) (va_cwS 1 hts gX3_force_X3_codesOf rfl rfl rfl (by decide +kernel) ⟨Nat.le_of_ble_eq_true rfl, Nat.le_of_ble_eq_true rfl⟩) (zPreS (av := [.long dd]) (wc := []) hK hP hD [] rfl (by decide) rfl) rfl rfl hl.1 rfl (lv_room (Nat.le_of_ble_eq_true rfl)) dX3_force_4 ⟨Nat.zero_le _, Nat.zero_le _⟩) (fun H locs hP hD hS => ?_)
  have hP : va_P D vwCl [(lc, .inr (5, [.ref ra, .ref sa, .ref fa, .ref ve, .ref lk, .ref jo, .ref ba, .ref ro, .int (nI nc), .int (nI rc)])), (ro, .inl (cA, 60, .inl (aN fro))), (ra, .inr (3, [.ref al, .ref be])), (al, .inl (cA, 8, .inl (aN fal))), (be, .inl (cA, 448, .inl (aN fbe)))] H := hP
  have hD : va_D A [(lc, .inr (5, [.ref ra, .ref sa, .ref fa, .ref ve, .ref lk, .ref jo, .ref ba, .ref ro, .int (nI nc), .int (nI rc)])), (ro, .inl (cA, 60, .inl (aN fro))), (ra, .inr (3, [.ref al, .ref be])), (al, .inl (cA, 8, .inl (aN fal))), (be, .inl (cA, 448, .inl (aN fbe)))] := hD
  refine lv_iconst (v := nI 1) hx hb dX3_force_7 (by decide) ?_
  refine nn_ior hx hb dX3_force_8 ?_
  refine zz_callI (av := []) (wc := [(lc, .inr (5, [.ref ra, .ref sa, .ref fa, .ref ve, .ref lk, .ref jo, .ref ba, .ref ro, .int (nI nc), .int (nI rc)])), (ro, .inl (cA, 60, .inl (aN fro))), (ra, .inr (3, [.ref al, .ref be])), (al, .inl (cA, 8, .inl (aN fal))), (be, .inl (cA, 448, .inl (aN fbe)))]) (wr := []) hS hA hP hD [0, 1, 2, 3, 4] [] rfl rfl (by decide) (by decide) (va_runV (As := [.int (nI 2), .int xx, .int (nI ((2 * lo6 dd) ||| 1))]) (rest := []) ⟨hx, hb, hml, hown, hts⟩ (kX3_addSetRow l D cA H.size lc ra sa fa ve lk jo ba ro al be nc rc fro fal fbe 2 xx ((2 * lo6 dd) ||| 1) (by omega) (by omega)) (cwV 3 hts gX3_force_X3_addSetRow rfl rfl rfl (by decide +kernel) ⟨Nat.le_of_ble_eq_true rfl, Nat.le_of_ble_eq_true rfl⟩) ⟨(zPreS (av := [.ref lc, .int (nI 2), .int xx, .int (nI ((2 * lo6 dd) ||| 1))]) (wc := [(lc, .inr (5, [.ref ra, .ref sa, .ref fa, .ref ve, .ref lk, .ref jo, .ref ba, .ref ro, .int (nI nc), .int (nI rc)])), (ro, .inl (cA, 60, .inl (aN fro))), (ra, .inr (3, [.ref al, .ref be])), (al, .inl (cA, 8, .inl (aN fal))), (be, .inl (cA, 448, .inl (aN fbe)))]) hK hP hD [0, 1, 2, 3, 4] rfl (by decide) rfl).1, (va_recv hK.1 hP (ci := 5) (q0 := 0) rfl rfl), (zPreS (av := [.ref lc, .int (nI 2), .int xx, .int (nI ((2 * lo6 dd) ||| 1))]) (wc := [(lc, .inr (5, [.ref ra, .ref sa, .ref fa, .ref ve, .ref lk, .ref jo, .ref ba, .ref ro, .int (nI nc), .int (nI rc)])), (ro, .inl (cA, 60, .inl (aN fro))), (ra, .inr (3, [.ref al, .ref be])), (al, .inl (cA, 8, .inl (aN fal))), (be, .inl (cA, 448, .inl (aN fbe)))]) hK hP hD [0, 1, 2, 3, 4] rfl (by decide) rfl).2⟩ rfl rfl hl.1 rfl (lv_room (Nat.le_of_ble_eq_true rfl)) dX3_force_9 ⟨Nat.zero_le _, Nat.zero_le _⟩) (fun H locs hP hD hS => ?_)
  have hP : va_P D vwCl [(lc, .inr (5, [.ref ra, .ref sa, .ref fa, .ref ve, .ref lk, .ref jo, .ref ba, .ref ro, .int (nI nc), .int (nI ((asF xx 2 ((2 * lo6 dd) ||| 1) nc rc fal fro).2.2.2))])), (ro, .inl (cA, 60, .inl (aN ((asF xx 2 ((2 * lo6 dd) ||| 1) nc rc fal fro).2.2.1)))), (ra, .inr (3, [.ref al, .ref be])), (al, .inl (cA, 8, .inl (aN ((asF xx 2 ((2 * lo6 dd) ||| 1) nc rc fal fro).2.1)))), (be, .inl (cA, 448, .inl (aN fbe)))] H := hP
  have hD : va_D A [(lc, .inr (5, [.ref ra, .ref sa, .ref fa, .ref ve, .ref lk, .ref jo, .ref ba, .ref ro, .int (nI nc), .int (nI ((asF xx 2 ((2 * lo6 dd) ||| 1) nc rc fal fro).2.2.2))])), (ro, .inl (cA, 60, .inl (aN ((asF xx 2 ((2 * lo6 dd) ||| 1) nc rc fal fro).2.2.1)))), (ra, .inr (3, [.ref al, .ref be])), (al, .inl (cA, 8, .inl (aN ((asF xx 2 ((2 * lo6 dd) ||| 1) nc rc fal fro).2.1)))), (be, .inl (cA, 448, .inl (aN fbe)))] := hD
  exact W.iret (v := ((asF xx 2 ((2 * lo6 dd) ||| 1) nc rc fal fro).1)) hx hb hr (fun t ht hW => ⟨⟨((asF xx 2 ((2 * lo6 dd) ||| 1) nc rc fal fro).1), (), rfl, rfl, by rw [ht]; exact hP, hD⟩, hS.F ht⟩) hS.2.2 dX3_force_12


abbrev okV (p0 p1 : Int32) : Prop := (¬ p0 < nI 1 ∧ ¬ nI 6 < p0) ∧ (¬ p1 < -1 ∧ p1 ≤ nI 9)
def nameF (p0 p1 : Int32) (nc : Nat) (fve flk fal : Nat → Nat) : Int32 × (Nat → Nat) × (Nat → Nat) × (Nat → Nat) × Nat :=
  if okV p0 p1 then (if nc < 8 then (nI nc, va_up fve nc (toN p0), va_up flk nc (toC p1), va_up fal nc ((2 <<< toN p0) - 1), nc + 1) else (-4, fve, flk, fal, nc)) else (-2, fve, flk, fal, nc)

theorem lkX3_name_12 : Cond.fieldLink RX3 12 "LeastChange" "rules" "LLeastChange$Rules;" ∈ wsX3_name := by decide +kernel
theorem lkX3_name_32 : Cond.fieldLink RX3 32 "LeastChange" "versions" "[I" ∈ wsX3_name := by decide +kernel
theorem lkX3_name_36 : Cond.fieldLink RX3 36 "LeastChange" "locked" "[I" ∈ wsX3_name := by decide +kernel
theorem lkX3_name_48 : Cond.fieldLink RX3 48 "LeastChange" "nameCount" "I" ∈ wsX3_name := by decide +kernel
theorem inX3_name_X3 : ∀ w ∈ wsX30, w ∈ wsX3_name := by decide +kernel
theorem iniX3_name_X1 : Cond.initialized RX1 ∈ wsX3_name := by decide +kernel
theorem imX3_name_X1_open : Cond.instanceMethod yX1_open ∈ wsX3_name := by decide +kernel
theorem seX3_name_X1_open : Cond.selects RX1 yX1_open yX1_open ∈ wsX3_name := by decide +kernel
set_option maxHeartbeats 4000000 in
set_option maxRecDepth 100000 in
theorem kX3_name (l : Launch) (D : va_G) (cA : ClassId) (sz : Nat) (lc : Nat) (ra : Nat) (sa : Nat) (fa : Nat) (ve : Nat) (lk : Nat) (jo : Nat) (ba : Nat) (ro : Nat) (al : Nat) (be : Nat) (nc : Nat) (rc : Nat) (fve : Nat → Nat) (flk : Nat → Nat) (fal : Nat → Nat) (fbe : Nat → Nat) (p0 : Int32) (p1 : Int32) (hnc : nc ≤ 8) : zMi l yX3_name wsX3_name ({ frames := 1, cells := 0, slots := 0, locals := 22 }) D cA [.ref lc, .int p0, .int p1] sz [(lc, .inr (5, [.ref ra, .ref sa, .ref fa, .ref ve, .ref lk, .ref jo, .ref ba, .ref ro, .int (nI nc), .int (nI rc)])), (ve, .inl (cA, 8, .inl (aN fve))), (lk, .inl (cA, 8, .inl (aN flk))), (ra, .inr (3, [.ref al, .ref be])), (al, .inl (cA, 8, .inl (aN fal))), (be, .inl (cA, 448, .inl (aN fbe)))] [(lc, .inr (5, [.ref ra, .ref sa, .ref fa, .ref ve, .ref lk, .ref jo, .ref ba, .ref ro, .int (nI ((nameF p0 p1 nc fve flk fal).2.2.2.2)), .int (nI rc)])), (ve, .inl (cA, 8, .inl (aN ((nameF p0 p1 nc fve flk fal).2.1)))), (lk, .inl (cA, 8, .inl (aN ((nameF p0 p1 nc fve flk fal).2.2.1)))), (ra, .inr (3, [.ref al, .ref be])), (al, .inl (cA, 8, .inl (aN ((nameF p0 p1 nc fve flk fal).2.2.2.1)))), (be, .inl (cA, 448, .inl (aN fbe)))] ((nameF p0 p1 nc fve flk fal).1) := by
  refine Met.ofW (cc := cX3_name) (maxL := 4) (ret := (some .int)) (by decide) rfl ?_
  intro p e s m args below meth c s₁ B hml hv
  obtain ⟨rfl, hsz, hP, hK, hD0⟩ := hv
  have hx := B.exec
  have hb := B.bytes
  have hr := B.returns
  have hts := atoms_spec (ws := wsX3_name) B.pre
  have hown : s.vm.findClass RX3 = some m.cls := findClass_of_methodNamed B.named
  have hlocks := B.notSynchronized
  subst hsz
  have hD := hD0.self (sz := s.heap.size)
  generalize hAe : va_A [(lc, .inr (5, [.ref ra, .ref sa, .ref fa, .ref ve, .ref lk, .ref jo, .ref ba, .ref ro, .int (nI nc), .int (nI rc)])), (ve, .inl (cA, 8, .inl (aN fve))), (lk, .inl (cA, 8, .inl (aN flk))), (ra, .inr (3, [.ref al, .ref be])), (al, .inl (cA, 8, .inl (aN fal))), (be, .inl (cA, 448, .inl (aN fbe)))] s.heap.size = A at hD ⊢
  have hA : ∀ q : Nat, s.heap.size ≤ q → A q := fun q h => by rw [← hAe]; exact Or.inr h
  have hS : va_S A s.heap s.heap [] := va_S.rf
  have hP : va_P D vwCl [(lc, .inr (5, [.ref ra, .ref sa, .ref fa, .ref ve, .ref lk, .ref jo, .ref ba, .ref ro, .int (nI nc), .int (nI rc)])), (ve, .inl (cA, 8, .inl (aN fve))), (lk, .inl (cA, 8, .inl (aN flk))), (ra, .inr (3, [.ref al, .ref be])), (al, .inl (cA, 8, .inl (aN fal))), (be, .inl (cA, 448, .inl (aN fbe)))] s.heap := hP
  have hl := lv_entry ([.ref lc, .int p0, .int p1]) (n := 4) (Nat.le_of_ble_eq_true rfl)
  rw [lg_entry_eq]
  generalize (lg_sl ([.ref lc, .int p0, .int p1]) ++ List.replicate (4 - (lg_sl ([.ref lc, .int p0, .int p1])).length) Slot.unset).toArray = ls at hl ⊢
  have hl : lv_has ls 4 [(0, .ref lc), (1, .int p0), (2, .int p1)] := hl
  refine lv_iload_n hx hb dX3_name_0 rfl (lv_at hl 1 rfl) ?_
  refine lv_iconst (v := nI 1) hx hb dX3_name_1 (by decide) ?_
  refine lv_icmp_lt (tgt := 22) hx hb dX3_name_2 (by decide) (fun c_2 => ?_) (fun c_2 => ?_)
  · have ck : ¬ okV p0 p1 := fun q => q.1.1 c_2
    refine lv_bipush (v := -2) hx hb dX3_name_22 (by decide) ?_
    have eF : (nameF p0 p1 nc fve flk fal) = ((-2), fve, flk, fal, nc) := by unfold nameF; (repeat' (first | rfl | contradiction | split))
    have eW : ([(lc, .inr (5, [.ref ra, .ref sa, .ref fa, .ref ve, .ref lk, .ref jo, .ref ba, .ref ro, .int (nI nc), .int (nI rc)])), (ve, .inl (cA, 8, .inl (aN fve))), (lk, .inl (cA, 8, .inl (aN flk))), (ra, .inr (3, [.ref al, .ref be])), (al, .inl (cA, 8, .inl (aN fal))), (be, .inl (cA, 448, .inl (aN fbe)))] : va_W) = [(lc, .inr (5, [.ref ra, .ref sa, .ref fa, .ref ve, .ref lk, .ref jo, .ref ba, .ref ro, .int (nI ((nameF p0 p1 nc fve flk fal).2.2.2.2)), .int (nI rc)])), (ve, .inl (cA, 8, .inl (aN ((nameF p0 p1 nc fve flk fal).2.1)))), (lk, .inl (cA, 8, .inl (aN ((nameF p0 p1 nc fve flk fal).2.2.1)))), (ra, .inr (3, [.ref al, .ref be])), (al, .inl (cA, 8, .inl (aN ((nameF p0 p1 nc fve flk fal).2.2.2.1)))), (be, .inl (cA, 448, .inl (aN fbe)))] := by rw [eF]
    rw [eW] at hP hD
    exact W.iret (v := (-2)) hx hb hr (fun t ht hW => ⟨⟨(-2), (), rfl, (by rw [eF]), by rw [ht]; exact hP, hD⟩, hS.F ht⟩) hS.2.2 dX3_name_24
  · refine lv_iload_n hx hb dX3_name_5 rfl (lv_at hl 1 rfl) ?_
    refine lv_bipush (v := nI 6) hx hb dX3_name_6 (by decide) ?_
    refine lv_icmp_gt (tgt := 22) hx hb dX3_name_8 (by decide) (fun c_8 => ?_) (fun c_8 => ?_)
    · have ck : ¬ okV p0 p1 := fun q => q.1.2 c_8
      refine lv_bipush (v := -2) hx hb dX3_name_22 (by decide) ?_
      have eF : (nameF p0 p1 nc fve flk fal) = ((-2), fve, flk, fal, nc) := by unfold nameF; (repeat' (first | rfl | contradiction | split))
      have eW : ([(lc, .inr (5, [.ref ra, .ref sa, .ref fa, .ref ve, .ref lk, .ref jo, .ref ba, .ref ro, .int (nI nc), .int (nI rc)])), (ve, .inl (cA, 8, .inl (aN fve))), (lk, .inl (cA, 8, .inl (aN flk))), (ra, .inr (3, [.ref al, .ref be])), (al, .inl (cA, 8, .inl (aN fal))), (be, .inl (cA, 448, .inl (aN fbe)))] : va_W) = [(lc, .inr (5, [.ref ra, .ref sa, .ref fa, .ref ve, .ref lk, .ref jo, .ref ba, .ref ro, .int (nI ((nameF p0 p1 nc fve flk fal).2.2.2.2)), .int (nI rc)])), (ve, .inl (cA, 8, .inl (aN ((nameF p0 p1 nc fve flk fal).2.1)))), (lk, .inl (cA, 8, .inl (aN ((nameF p0 p1 nc fve flk fal).2.2.1)))), (ra, .inr (3, [.ref al, .ref be])), (al, .inl (cA, 8, .inl (aN ((nameF p0 p1 nc fve flk fal).2.2.2.1)))), (be, .inl (cA, 448, .inl (aN fbe)))] := by rw [eF]
      rw [eW] at hP hD
      exact W.iret (v := (-2)) hx hb hr (fun t ht hW => ⟨⟨(-2), (), rfl, (by rw [eF]), by rw [ht]; exact hP, hD⟩, hS.F ht⟩) hS.2.2 dX3_name_24
    · refine lv_iload_n hx hb dX3_name_11 rfl (lv_at hl 2 rfl) ?_
      refine lv_iconst (v := -1) hx hb dX3_name_12 (by decide) ?_
      refine lv_icmp_lt (tgt := 22) hx hb dX3_name_13 (by decide) (fun c_13 => ?_) (fun c_13 => ?_)
      · have ck : ¬ okV p0 p1 := fun q => q.2.1 c_13
        refine lv_bipush (v := -2) hx hb dX3_name_22 (by decide) ?_
        have eF : (nameF p0 p1 nc fve flk fal) = ((-2), fve, flk, fal, nc) := by unfold nameF; (repeat' (first | rfl | contradiction | split))
        have eW : ([(lc, .inr (5, [.ref ra, .ref sa, .ref fa, .ref ve, .ref lk, .ref jo, .ref ba, .ref ro, .int (nI nc), .int (nI rc)])), (ve, .inl (cA, 8, .inl (aN fve))), (lk, .inl (cA, 8, .inl (aN flk))), (ra, .inr (3, [.ref al, .ref be])), (al, .inl (cA, 8, .inl (aN fal))), (be, .inl (cA, 448, .inl (aN fbe)))] : va_W) = [(lc, .inr (5, [.ref ra, .ref sa, .ref fa, .ref ve, .ref lk, .ref jo, .ref ba, .ref ro, .int (nI ((nameF p0 p1 nc fve flk fal).2.2.2.2)), .int (nI rc)])), (ve, .inl (cA, 8, .inl (aN ((nameF p0 p1 nc fve flk fal).2.1)))), (lk, .inl (cA, 8, .inl (aN ((nameF p0 p1 nc fve flk fal).2.2.1)))), (ra, .inr (3, [.ref al, .ref be])), (al, .inl (cA, 8, .inl (aN ((nameF p0 p1 nc fve flk fal).2.2.2.1)))), (be, .inl (cA, 448, .inl (aN fbe)))] := by rw [eF]
        rw [eW] at hP hD
        exact W.iret (v := (-2)) hx hb hr (fun t ht hW => ⟨⟨(-2), (), rfl, (by rw [eF]), by rw [ht]; exact hP, hD⟩, hS.F ht⟩) hS.2.2 dX3_name_24
      · refine lv_iload_n hx hb dX3_name_16 rfl (lv_at hl 2 rfl) ?_
        refine lv_bipush (v := nI 9) hx hb dX3_name_17 (by decide) ?_
        refine lv_icmp_le (tgt := 25) hx hb dX3_name_19 (by decide) (fun c_19 => ?_) (fun c_19 => ?_)
        · have ck : okV p0 p1 := ⟨⟨c_2, c_8⟩, c_13, c_19⟩
          obtain ⟨e1, b1, b2⟩ := rng_eq c_2 c_8
          obtain ⟨e2, b3⟩ := toC_eq c_13 c_19
          have hl : lv_has ls 4 [(0, .ref lc), (1, .int (nI (toN p0))), (2, .int p1)] := by rw [← e1]; exact hl
          have hl : lv_has ls 4 [(0, .ref lc), (1, .int (nI (toN p0))), (2, .int (mI (toC p1)))] := by rw [← e2]; exact hl
          refine lv_aload_n hx hb dX3_name_25 rfl (lv_at hl 0 rfl) ?_
          refine va_get (D := D) (ci := 5) (v := .int (nI nc)) (C := RX3) (T := TX3) (N := 10) hx hb hts inX3_name_X3 hown hK.1 hP 0 rfl rfl 8 (by decide) (hts _ lkX3_name_48) (fun _ h9 => h9) rfl dX3_name_26 ?_
          refine lv_bipush (v := nI 8) hx hb dX3_name_29 (by decide) ?_
          refine nn_icmp_lt (tgt := 37) hx hb dX3_name_31 (by decide) (by omega) (by omega) (fun c_31 => ?_) (fun c_31 => ?_)
          · refine lv_aload_n hx hb dX3_name_37 rfl (lv_at hl 0 rfl) ?_
            refine va_get (D := D) (ci := 5) (v := .int (nI nc)) (C := RX3) (T := TX3) (N := 10) hx hb hts inX3_name_X3 hown hK.1 hP 0 rfl rfl 8 (by decide) (hts _ lkX3_name_48) (fun _ h9 => h9) rfl dX3_name_38 ?_
            refine lv_istore_n (lv' := [(3, .int (nI nc)), (0, .ref lc), (1, .int (nI (toN p0))), (2, .int (mI (toC p1)))]) hx hb dX3_name_41 rfl hl (by decide) rfl (fun ls hl => ?_)
            refine lv_aload_n hx hb dX3_name_42 rfl (lv_at hl 1 rfl) ?_
            refine va_get (D := D) (ci := 5) (v := .ref ve) (C := RX3) (T := TX3) (N := 10) hx hb hts inX3_name_X3 hown hK.1 hP 0 rfl rfl 3 (by decide) (hts _ lkX3_name_32) (fun _ h9 => h9) rfl dX3_name_43 ?_
            refine lv_iload_n hx hb dX3_name_46 rfl (lv_at hl 0 rfl) ?_
            refine lv_iload_n hx hb dX3_name_47 rfl (lv_at hl 2 rfl) ?_
            refine nn_ast hx hb hK hP hD hS 1 rfl (by omega) (by decide) dX3_name_48 (fun H locs hP hD hS => ?_)
            have hP : va_P D vwCl [(lc, .inr (5, [.ref ra, .ref sa, .ref fa, .ref ve, .ref lk, .ref jo, .ref ba, .ref ro, .int (nI nc), .int (nI rc)])), (ve, .inl (cA, 8, .inl (aN (va_up fve nc (toN p0))))), (lk, .inl (cA, 8, .inl (aN flk))), (ra, .inr (3, [.ref al, .ref be])), (al, .inl (cA, 8, .inl (aN fal))), (be, .inl (cA, 448, .inl (aN fbe)))] H := hP
            have hD : va_D A [(lc, .inr (5, [.ref ra, .ref sa, .ref fa, .ref ve, .ref lk, .ref jo, .ref ba, .ref ro, .int (nI nc), .int (nI rc)])), (ve, .inl (cA, 8, .inl (aN (va_up fve nc (toN p0))))), (lk, .inl (cA, 8, .inl (aN flk))), (ra, .inr (3, [.ref al, .ref be])), (al, .inl (cA, 8, .inl (aN fal))), (be, .inl (cA, 448, .inl (aN fbe)))] := hD
            refine lv_aload_n hx hb dX3_name_49 rfl (lv_at hl 1 rfl) ?_
            refine va_get (D := D) (ci := 5) (v := .ref lk) (C := RX3) (T := TX3) (N := 10) hx hb hts inX3_name_X3 hown hK.1 hP 0 rfl rfl 4 (by decide) (hts _ lkX3_name_36) (fun _ h9 => h9) rfl dX3_name_50 ?_
            refine lv_iload_n hx hb dX3_name_53 rfl (lv_at hl 0 rfl) ?_
            refine lv_iload_n hx hb dX3_name_54 rfl (lv_at hl 3 rfl) ?_
            refine zz_callI (av := []) (wc := []) (wr := [(lc, .inr (5, [.ref ra, .ref sa, .ref fa, .ref ve, .ref lk, .ref jo, .ref ba, .ref ro, .int (nI nc), .int (nI rc)])), (ve, .inl (cA, 8, .inl (aN (va_up fve nc (toN p0))))), (lk, .inl (cA, 8, .inl (aN flk))), (ra, .inr (3, [.ref al, .ref be])), (al, .inl (cA, 8, .inl (aN fal))), (be, .inl (cA, 448, .inl (aN fbe)))]) hS hA hP hD [] [0, 1, 2, 3, 4, 5] rfl rfl (by decide) (by decide) (va_runS (As := [.int (mI (toC p1))]) (rest := [.int (nI nc), .ref lk]) ⟨hx, hb, hml, hown, hts⟩ (kX3_codeOf l D cA H.size (mI (toC p1)) ) (va_cwS 1 hts gX3_name_X3_codeOf rfl rfl rfl (by decide +kernel) ⟨Nat.le_of_ble_eq_true rfl, Nat.le_of_ble_eq_true rfl⟩) (zPreS (av := [.int (mI (toC p1))]) (wc := []) hK hP hD [] rfl (by decide) rfl) rfl rfl hl.1 rfl (lv_room (Nat.le_of_ble_eq_true rfl)) dX3_name_55 ⟨Nat.zero_le _, Nat.zero_le _⟩) (fun H locs hP hD hS => ?_)
            have hP : va_P D vwCl [(lc, .inr (5, [.ref ra, .ref sa, .ref fa, .ref ve, .ref lk, .ref jo, .ref ba, .ref ro, .int (nI nc), .int (nI rc)])), (ve, .inl (cA, 8, .inl (aN (va_up fve nc (toN p0))))), (lk, .inl (cA, 8, .inl (aN flk))), (ra, .inr (3, [.ref al, .ref be])), (al, .inl (cA, 8, .inl (aN fal))), (be, .inl (cA, 448, .inl (aN fbe)))] H := hP
            have hD : va_D A [(lc, .inr (5, [.ref ra, .ref sa, .ref fa, .ref ve, .ref lk, .ref jo, .ref ba, .ref ro, .int (nI nc), .int (nI rc)])), (ve, .inl (cA, 8, .inl (aN (va_up fve nc (toN p0))))), (lk, .inl (cA, 8, .inl (aN flk))), (ra, .inr (3, [.ref al, .ref be])), (al, .inl (cA, 8, .inl (aN fal))), (be, .inl (cA, 448, .inl (aN fbe)))] := hD
            refine zz_top (y := (nI (toC p1))) (mI_add1 _) ?_
            refine nn_ast hx hb hK hP hD hS 2 rfl (by omega) (by decide) dX3_name_58 (fun H locs hP hD hS => ?_)
            have hP : va_P D vwCl [(lc, .inr (5, [.ref ra, .ref sa, .ref fa, .ref ve, .ref lk, .ref jo, .ref ba, .ref ro, .int (nI nc), .int (nI rc)])), (ve, .inl (cA, 8, .inl (aN (va_up fve nc (toN p0))))), (lk, .inl (cA, 8, .inl (aN (va_up flk nc (toC p1))))), (ra, .inr (3, [.ref al, .ref be])), (al, .inl (cA, 8, .inl (aN fal))), (be, .inl (cA, 448, .inl (aN fbe)))] H := hP
            have hD : va_D A [(lc, .inr (5, [.ref ra, .ref sa, .ref fa, .ref ve, .ref lk, .ref jo, .ref ba, .ref ro, .int (nI nc), .int (nI rc)])), (ve, .inl (cA, 8, .inl (aN (va_up fve nc (toN p0))))), (lk, .inl (cA, 8, .inl (aN (va_up flk nc (toC p1))))), (ra, .inr (3, [.ref al, .ref be])), (al, .inl (cA, 8, .inl (aN fal))), (be, .inl (cA, 448, .inl (aN fbe)))] := hD
            refine lv_aload_n hx hb dX3_name_59 rfl (lv_at hl 1 rfl) ?_
            refine va_get (D := D) (ci := 5) (v := .ref ra) (C := RX3) (T := TX3) (N := 10) hx hb hts inX3_name_X3 hown hK.1 hP 0 rfl rfl 0 (by decide) (hts _ lkX3_name_12) (fun _ h9 => h9) rfl dX3_name_60 ?_
            refine lv_iload_n hx hb dX3_name_63 rfl (lv_at hl 0 rfl) ?_
            refine lv_iload_n hx hb dX3_name_64 rfl (lv_at hl 2 rfl) ?_
            refine zz_callV (av := []) (wc := [(ra, .inr (3, [.ref al, .ref be])), (al, .inl (cA, 8, .inl (aN fal))), (be, .inl (cA, 448, .inl (aN fbe)))]) (wr := [(lc, .inr (5, [.ref ra, .ref sa, .ref fa, .ref ve, .ref lk, .ref jo, .ref ba, .ref ro, .int (nI nc), .int (nI rc)])), (ve, .inl (cA, 8, .inl (aN (va_up fve nc (toN p0))))), (lk, .inl (cA, 8, .inl (aN (va_up flk nc (toC p1)))))]) hS hA hP hD [3, 4, 5] [0, 1, 2] rfl rfl (by decide) (by decide) (va_runVN (As := [.int (nI nc), .int (nI (toN p0))]) (rest := []) ⟨hx, hb, hml, hown, hts⟩ (kX1_open l D cA H.size ra al be fal fbe nc (toN p0) (by omega) (by omega)) ⟨va_cnB 2 hts gX3_name_X1_open_n59 rfl rfl rfl (hK.2 _ nkX3_59) (hts _ iniX3_name_X1) (by decide +kernel) ⟨Nat.le_of_ble_eq_true rfl, Nat.le_of_ble_eq_true rfl⟩, hts _ imX3_name_X1_open, hts _ seX3_name_X1_open⟩ ⟨(zPreS (av := [.ref ra, .int (nI nc), .int (nI (toN p0))]) (wc := [(ra, .inr (3, [.ref al, .ref be])), (al, .inl (cA, 8, .inl (aN fal))), (be, .inl (cA, 448, .inl (aN fbe)))]) hK hP hD [3, 4, 5] rfl (by decide) rfl).1, (va_recv hK.1 hP (ci := 3) (q0 := 3) rfl rfl), (zPreS (av := [.ref ra, .int (nI nc), .int (nI (toN p0))]) (wc := [(ra, .inr (3, [.ref al, .ref be])), (al, .inl (cA, 8, .inl (aN fal))), (be, .inl (cA, 448, .inl (aN fbe)))]) hK hP hD [3, 4, 5] rfl (by decide) rfl).2⟩ rfl rfl hl.1 rfl (lv_room (Nat.le_of_ble_eq_true rfl)) dX3_name_65 ⟨Nat.zero_le _, Nat.zero_le _⟩) (fun H locs hP hD hS => ?_)
            have hP : va_P D vwCl [(lc, .inr (5, [.ref ra, .ref sa, .ref fa, .ref ve, .ref lk, .ref jo, .ref ba, .ref ro, .int (nI nc), .int (nI rc)])), (ve, .inl (cA, 8, .inl (aN (va_up fve nc (toN p0))))), (lk, .inl (cA, 8, .inl (aN (va_up flk nc (toC p1))))), (ra, .inr (3, [.ref al, .ref be])), (al, .inl (cA, 8, .inl (aN (va_up fal nc ((2 <<< (toN p0)) - 1))))), (be, .inl (cA, 448, .inl (aN fbe)))] H := hP
            have hD : va_D A [(lc, .inr (5, [.ref ra, .ref sa, .ref fa, .ref ve, .ref lk, .ref jo, .ref ba, .ref ro, .int (nI nc), .int (nI rc)])), (ve, .inl (cA, 8, .inl (aN (va_up fve nc (toN p0))))), (lk, .inl (cA, 8, .inl (aN (va_up flk nc (toC p1))))), (ra, .inr (3, [.ref al, .ref be])), (al, .inl (cA, 8, .inl (aN (va_up fal nc ((2 <<< (toN p0)) - 1))))), (be, .inl (cA, 448, .inl (aN fbe)))] := hD
            refine lv_aload_n hx hb dX3_name_68 rfl (lv_at hl 1 rfl) ?_
            refine lv_dup hx hb dX3_name_69 rfl ?_
            refine va_get (D := D) (ci := 5) (v := .int (nI nc)) (C := RX3) (T := TX3) (N := 10) hx hb hts inX3_name_X3 hown hK.1 hP 0 rfl rfl 8 (by decide) (hts _ lkX3_name_48) (fun _ h9 => h9) rfl dX3_name_70 ?_
            refine lv_iconst (v := nI 1) hx hb dX3_name_73 (by decide) ?_
            refine nn_iadd hx hb dX3_name_74 ?_
            refine va_put (D := D) (ci := 5) (v := .int (nI (nc + 1))) (ty := .int) (C := RX3) (T := TX3) (N := 10) hx hb hts inX3_name_X3 tyX3 tyX3_ok nmX3 hown hK.1 hP hD hS 0 rfl rfl 8 (by decide) (hts _ lkX3_name_48) (fun _ h9 => h9) rfl (by decide +kernel) rfl rfl (Nat.le_of_ble_eq_true rfl) dX3_name_75 (fun H locs hP hD hS => ?_)
            have hP : va_P D vwCl [(lc, .inr (5, [.ref ra, .ref sa, .ref fa, .ref ve, .ref lk, .ref jo, .ref ba, .ref ro, .int (nI (nc + 1)), .int (nI rc)])), (ve, .inl (cA, 8, .inl (aN (va_up fve nc (toN p0))))), (lk, .inl (cA, 8, .inl (aN (va_up flk nc (toC p1))))), (ra, .inr (3, [.ref al, .ref be])), (al, .inl (cA, 8, .inl (aN (va_up fal nc ((2 <<< (toN p0)) - 1))))), (be, .inl (cA, 448, .inl (aN fbe)))] H := hP
            have hD : va_D A [(lc, .inr (5, [.ref ra, .ref sa, .ref fa, .ref ve, .ref lk, .ref jo, .ref ba, .ref ro, .int (nI (nc + 1)), .int (nI rc)])), (ve, .inl (cA, 8, .inl (aN (va_up fve nc (toN p0))))), (lk, .inl (cA, 8, .inl (aN (va_up flk nc (toC p1))))), (ra, .inr (3, [.ref al, .ref be])), (al, .inl (cA, 8, .inl (aN (va_up fal nc ((2 <<< (toN p0)) - 1))))), (be, .inl (cA, 448, .inl (aN fbe)))] := hD
            refine lv_iload_n hx hb dX3_name_78 rfl (lv_at hl 0 rfl) ?_
            have eF : (nameF p0 p1 nc fve flk fal) = ((nI nc), va_up fve nc (toN p0), va_up flk nc (toC p1), va_up fal nc ((2 <<< (toN p0)) - 1), nc + 1) := by unfold nameF; (repeat' (first | rfl | contradiction | split))
            have eW : ([(lc, .inr (5, [.ref ra, .ref sa, .ref fa, .ref ve, .ref lk, .ref jo, .ref ba, .ref ro, .int (nI (nc + 1)), .int (nI rc)])), (ve, .inl (cA, 8, .inl (aN (va_up fve nc (toN p0))))), (lk, .inl (cA, 8, .inl (aN (va_up flk nc (toC p1))))), (ra, .inr (3, [.ref al, .ref be])), (al, .inl (cA, 8, .inl (aN (va_up fal nc ((2 <<< (toN p0)) - 1))))), (be, .inl (cA, 448, .inl (aN fbe)))] : va_W) = [(lc, .inr (5, [.ref ra, .ref sa, .ref fa, .ref ve, .ref lk, .ref jo, .ref ba, .ref ro, .int (nI ((nameF p0 p1 nc fve flk fal).2.2.2.2)), .int (nI rc)])), (ve, .inl (cA, 8, .inl (aN ((nameF p0 p1 nc fve flk fal).2.1)))), (lk, .inl (cA, 8, .inl (aN ((nameF p0 p1 nc fve flk fal).2.2.1)))), (ra, .inr (3, [.ref al, .ref be])), (al, .inl (cA, 8, .inl (aN ((nameF p0 p1 nc fve flk fal).2.2.2.1)))), (be, .inl (cA, 448, .inl (aN fbe)))] := by rw [eF]
            rw [eW] at hP hD
            exact W.iret (v := (nI nc)) hx hb hr (fun t ht hW => ⟨⟨(nI nc), (), rfl, (by rw [eF]), by rw [ht]; exact hP, hD⟩, hS.F ht⟩) hS.2.2 dX3_name_79
          · refine lv_bipush (v := -4) hx hb dX3_name_34 (by decide) ?_
            have eF : (nameF p0 p1 nc fve flk fal) = ((-4), fve, flk, fal, nc) := by unfold nameF; (repeat' (first | rfl | contradiction | split))
            have eW : ([(lc, .inr (5, [.ref ra, .ref sa, .ref fa, .ref ve, .ref lk, .ref jo, .ref ba, .ref ro, .int (nI nc), .int (nI rc)])), (ve, .inl (cA, 8, .inl (aN fve))), (lk, .inl (cA, 8, .inl (aN flk))), (ra, .inr (3, [.ref al, .ref be])), (al, .inl (cA, 8, .inl (aN fal))), (be, .inl (cA, 448, .inl (aN fbe)))] : va_W) = [(lc, .inr (5, [.ref ra, .ref sa, .ref fa, .ref ve, .ref lk, .ref jo, .ref ba, .ref ro, .int (nI ((nameF p0 p1 nc fve flk fal).2.2.2.2)), .int (nI rc)])), (ve, .inl (cA, 8, .inl (aN ((nameF p0 p1 nc fve flk fal).2.1)))), (lk, .inl (cA, 8, .inl (aN ((nameF p0 p1 nc fve flk fal).2.2.1)))), (ra, .inr (3, [.ref al, .ref be])), (al, .inl (cA, 8, .inl (aN ((nameF p0 p1 nc fve flk fal).2.2.2.1)))), (be, .inl (cA, 448, .inl (aN fbe)))] := by rw [eF]
            rw [eW] at hP hD
            exact W.iret (v := (-4)) hx hb hr (fun t ht hW => ⟨⟨(-4), (), rfl, (by rw [eF]), by rw [ht]; exact hP, hD⟩, hS.F ht⟩) hS.2.2 dX3_name_36
        · have ck : ¬ okV p0 p1 := fun q => c_19 q.2.2
          refine lv_bipush (v := -2) hx hb dX3_name_22 (by decide) ?_
          have eF : (nameF p0 p1 nc fve flk fal) = ((-2), fve, flk, fal, nc) := by unfold nameF; (repeat' (first | rfl | contradiction | split))
          have eW : ([(lc, .inr (5, [.ref ra, .ref sa, .ref fa, .ref ve, .ref lk, .ref jo, .ref ba, .ref ro, .int (nI nc), .int (nI rc)])), (ve, .inl (cA, 8, .inl (aN fve))), (lk, .inl (cA, 8, .inl (aN flk))), (ra, .inr (3, [.ref al, .ref be])), (al, .inl (cA, 8, .inl (aN fal))), (be, .inl (cA, 448, .inl (aN fbe)))] : va_W) = [(lc, .inr (5, [.ref ra, .ref sa, .ref fa, .ref ve, .ref lk, .ref jo, .ref ba, .ref ro, .int (nI ((nameF p0 p1 nc fve flk fal).2.2.2.2)), .int (nI rc)])), (ve, .inl (cA, 8, .inl (aN ((nameF p0 p1 nc fve flk fal).2.1)))), (lk, .inl (cA, 8, .inl (aN ((nameF p0 p1 nc fve flk fal).2.2.1)))), (ra, .inr (3, [.ref al, .ref be])), (al, .inl (cA, 8, .inl (aN ((nameF p0 p1 nc fve flk fal).2.2.2.1)))), (be, .inl (cA, 448, .inl (aN fbe)))] := by rw [eF]
          rw [eW] at hP hD
          exact W.iret (v := (-2)) hx hb hr (fun t ht hW => ⟨⟨(-2), (), rfl, (by rw [eF]), by rw [ht]; exact hP, hD⟩, hS.F ht⟩) hS.2.2 dX3_name_24


def needF (p0 p1 p2 : Int32) (dd : Int64) (nc rc : Nat) (fve fal fbe fro : Nat → Nat) : Int32 × (Nat → Nat) × (Nat → Nat) × (Nat → Nat) × Nat :=
  if isN p0 nc then (if isN p2 nc then (if isN p1 (fve (toN p0)) then (if rc < 60 then (nI rc, tieAl (toN p0) (toN p1 + 1) (toN p2) (2 * lo6 dd) fal, tieBe (toN p0) (toN p1 + 1) (toN p2) (2 * lo6 dd) fbe, va_up fro rc (((0 * 8 + toN p0) * 8 + toN p1) * 8 + toN p2), rc + 1)
    else (-4, fal, fbe, fro, rc)) else (-2, fal, fbe, fro, rc)) else (-1, fal, fbe, fro, rc)) else (-1, fal, fbe, fro, rc)

theorem lkX3_needs_12 : Cond.fieldLink RX3 12 "LeastChange" "rules" "LLeastChange$Rules;" ∈ wsX3_needs := by decide +kernel
theorem lkX3_needs_32 : Cond.fieldLink RX3 32 "LeastChange" "versions" "[I" ∈ wsX3_needs := by decide +kernel
theorem lkX3_needs_52 : Cond.fieldLink RX3 52 "LeastChange" "rowCount" "I" ∈ wsX3_needs := by decide +kernel
theorem inX3_needs_X3 : ∀ w ∈ wsX30, w ∈ wsX3_needs := by decide +kernel
theorem iniX3_needs_X1 : Cond.initialized RX1 ∈ wsX3_needs := by decide +kernel
theorem imX3_needs_X1_tie : Cond.instanceMethod yX1_tie ∈ wsX3_needs := by decide +kernel
theorem seX3_needs_X1_tie : Cond.selects RX1 yX1_tie yX1_tie ∈ wsX3_needs := by decide +kernel
set_option maxHeartbeats 4000000 in
set_option maxRecDepth 100000 in
theorem kX3_needs (l : Launch) (D : va_G) (cA : ClassId) (sz : Nat) (lc : Nat) (ra : Nat) (sa : Nat) (fa : Nat) (ve : Nat) (lk : Nat) (jo : Nat) (ba : Nat) (ro : Nat) (al : Nat) (be : Nat) (nc : Nat) (rc : Nat) (fve : Nat → Nat) (fro : Nat → Nat) (fal : Nat → Nat) (fbe : Nat → Nat) (p0 : Int32) (p1 : Int32) (p2 : Int32) (dd : Int64) (hnc : nc ≤ 8) (hrc : rc < 2147483648) (hve : ∀ j, fve j ≤ 6) : zMi l yX3_needs wsX3_needs ({ frames := 2, cells := 0, slots := 0, locals := 47 }) D cA [.ref lc, .int p0, .int p1, .int p2, .long dd] sz [(lc, .inr (5, [.ref ra, .ref sa, .ref fa, .ref ve, .ref lk, .ref jo, .ref ba, .ref ro, .int (nI nc), .int (nI rc)])), (ve, .inl (cA, 8, .inl (aN fve))), (ro, .inl (cA, 60, .inl (aN fro))), (ra, .inr (3, [.ref al, .ref be])), (al, .inl (cA, 8, .inl (aN fal))), (be, .inl (cA, 448, .inl (aN fbe)))] [(lc, .inr (5, [.ref ra, .ref sa, .ref fa, .ref ve, .ref lk, .ref jo, .ref ba, .ref ro, .int (nI nc), .int (nI ((needF p0 p1 p2 dd nc rc fve fal fbe fro).2.2.2.2))])), (ve, .inl (cA, 8, .inl (aN fve))), (ro, .inl (cA, 60, .inl (aN ((needF p0 p1 p2 dd nc rc fve fal fbe fro).2.2.2.1)))), (ra, .inr (3, [.ref al, .ref be])), (al, .inl (cA, 8, .inl (aN ((needF p0 p1 p2 dd nc rc fve fal fbe fro).2.1)))), (be, .inl (cA, 448, .inl (aN ((needF p0 p1 p2 dd nc rc fve fal fbe fro).2.2.1))))] ((needF p0 p1 p2 dd nc rc fve fal fbe fro).1) := by
  refine Met.ofW (cc := cX3_needs) (maxL := 6) (ret := (some .int)) (by decide) rfl ?_
  intro p e s m args below meth c s₁ B hml hv
  obtain ⟨rfl, hsz, hP, hK, hD0⟩ := hv
  have hx := B.exec
  have hb := B.bytes
  have hr := B.returns
  have hts := atoms_spec (ws := wsX3_needs) B.pre
  have hown : s.vm.findClass RX3 = some m.cls := findClass_of_methodNamed B.named
  have hlocks := B.notSynchronized
  subst hsz
  have hD := hD0.self (sz := s.heap.size)
  generalize hAe : va_A [(lc, .inr (5, [.ref ra, .ref sa, .ref fa, .ref ve, .ref lk, .ref jo, .ref ba, .ref ro, .int (nI nc), .int (nI rc)])), (ve, .inl (cA, 8, .inl (aN fve))), (ro, .inl (cA, 60, .inl (aN fro))), (ra, .inr (3, [.ref al, .ref be])), (al, .inl (cA, 8, .inl (aN fal))), (be, .inl (cA, 448, .inl (aN fbe)))] s.heap.size = A at hD ⊢
  have hA : ∀ q : Nat, s.heap.size ≤ q → A q := fun q h => by rw [← hAe]; exact Or.inr h
  have hS : va_S A s.heap s.heap [] := va_S.rf
  have hP : va_P D vwCl [(lc, .inr (5, [.ref ra, .ref sa, .ref fa, .ref ve, .ref lk, .ref jo, .ref ba, .ref ro, .int (nI nc), .int (nI rc)])), (ve, .inl (cA, 8, .inl (aN fve))), (ro, .inl (cA, 60, .inl (aN fro))), (ra, .inr (3, [.ref al, .ref be])), (al, .inl (cA, 8, .inl (aN fal))), (be, .inl (cA, 448, .inl (aN fbe)))] s.heap := hP
  have hl := lv_entry ([.ref lc, .int p0, .int p1, .int p2, .long dd]) (n := 6) (Nat.le_of_ble_eq_true rfl)
  rw [lg_entry_eq]
  generalize (lg_sl ([.ref lc, .int p0, .int p1, .int p2, .long dd]) ++ List.replicate (6 - (lg_sl ([.ref lc, .int p0, .int p1, .int p2, .long dd])).length) Slot.unset).toArray = ls at hl ⊢
  have hl : lv_has ls 6 [(0, .ref lc), (1, .int p0), (2, .int p1), (3, .int p2), (4, .long dd)] := hl
  refine lv_aload_n hx hb dX3_needs_0 rfl (lv_at hl 0 rfl) ?_
  refine lv_iload_n hx hb dX3_needs_1 rfl (lv_at hl 1 rfl) ?_
  refine zz_callI (av := []) (wc := [(lc, .inr (5, [.ref ra, .ref sa, .ref fa, .ref ve, .ref lk, .ref jo, .ref ba, .ref ro, .int (nI nc), .int (nI rc)]))]) (wr := [(ve, .inl (cA, 8, .inl (aN fve))), (ro, .inl (cA, 60, .inl (aN fro))), (ra, .inr (3, [.ref al, .ref be])), (al, .inl (cA, 8, .inl (aN fal))), (be, .inl (cA, 448, .inl (aN fbe)))]) hS hA hP hD [0] [1, 2, 3, 4, 5] rfl rfl (by decide) (by decide) (va_runV (As := [.int p0]) (rest := []) ⟨hx, hb, hml, hown, hts⟩ (kX3_isName l D cA s.heap.size lc ra sa fa ve lk jo ba ro nc rc p0 (by omega)) (cwV 1 hts gX3_needs_X3_isName rfl rfl rfl (by decide +kernel) ⟨Nat.le_of_ble_eq_true rfl, Nat.le_of_ble_eq_true rfl⟩) ⟨(zPreS (av := [.ref lc, .int p0]) (wc := [(lc, .inr (5, [.ref ra, .ref sa, .ref fa, .ref ve, .ref lk, .ref jo, .ref ba, .ref ro, .int (nI nc), .int (nI rc)]))]) hK hP hD [0] rfl (by decide) rfl).1, (va_recv hK.1 hP (ci := 5) (q0 := 0) rfl rfl), (zPreS (av := [.ref lc, .int p0]) (wc := [(lc, .inr (5, [.ref ra, .ref sa, .ref fa, .ref ve, .ref lk, .ref jo, .ref ba, .ref ro, .int (nI nc), .int (nI rc)]))]) hK hP hD [0] rfl (by decide) rfl).2⟩ rfl rfl hl.1 rfl (lv_room (Nat.le_of_ble_eq_true rfl)) dX3_needs_2 ⟨Nat.zero_le _, Nat.zero_le _⟩) (fun H locs hP hD hS => ?_)
  have hP : va_P D vwCl [(ve, .inl (cA, 8, .inl (aN fve))), (ro, .inl (cA, 60, .inl (aN fro))), (ra, .inr (3, [.ref al, .ref be])), (al, .inl (cA, 8, .inl (aN fal))), (be, .inl (cA, 448, .inl (aN fbe))), (lc, .inr (5, [.ref ra, .ref sa, .ref fa, .ref ve, .ref lk, .ref jo, .ref ba, .ref ro, .int (nI nc), .int (nI rc)]))] H := hP
  have hD : va_D A [(ve, .inl (cA, 8, .inl (aN fve))), (ro, .inl (cA, 60, .inl (aN fro))), (ra, .inr (3, [.ref al, .ref be])), (al, .inl (cA, 8, .inl (aN fal))), (be, .inl (cA, 448, .inl (aN fbe))), (lc, .inr (5, [.ref ra, .ref sa, .ref fa, .ref ve, .ref lk, .ref jo, .ref ba, .ref ro, .int (nI nc), .int (nI rc)]))] := hD
  have hP : va_P D vwCl [(lc, .inr (5, [.ref ra, .ref sa, .ref fa, .ref ve, .ref lk, .ref jo, .ref ba, .ref ro, .int (nI nc), .int (nI rc)])), (ve, .inl (cA, 8, .inl (aN fve))), (ro, .inl (cA, 60, .inl (aN fro))), (ra, .inr (3, [.ref al, .ref be])), (al, .inl (cA, 8, .inl (aN fal))), (be, .inl (cA, 448, .inl (aN fbe)))] H := hP.sub [5, 0, 1, 2, 3, 4] rfl
  have hD : va_D A [(lc, .inr (5, [.ref ra, .ref sa, .ref fa, .ref ve, .ref lk, .ref jo, .ref ba, .ref ro, .int (nI nc), .int (nI rc)])), (ve, .inl (cA, 8, .inl (aN fve))), (ro, .inl (cA, 60, .inl (aN fro))), (ra, .inr (3, [.ref al, .ref be])), (al, .inl (cA, 8, .inl (aN fal))), (be, .inl (cA, 448, .inl (aN fbe)))] := hD.sub [5, 0, 1, 2, 3, 4] (by decide) rfl
  refine nn_if_eq (tgt := 16) hx hb dX3_needs_5 (by decide) if01_lt (fun c_5 => ?_) (fun c_5 => ?_)
  · have c_5 := if01_eq c_5
    refine lv_iconst (v := -1) hx hb dX3_needs_16 (by decide) ?_
    have eF : (needF p0 p1 p2 dd nc rc fve fal fbe fro) = ((-1), fal, fbe, fro, rc) := by unfold needF; (repeat' (first | rfl | contradiction | split))
    have eW : ([(lc, .inr (5, [.ref ra, .ref sa, .ref fa, .ref ve, .ref lk, .ref jo, .ref ba, .ref ro, .int (nI nc), .int (nI rc)])), (ve, .inl (cA, 8, .inl (aN fve))), (ro, .inl (cA, 60, .inl (aN fro))), (ra, .inr (3, [.ref al, .ref be])), (al, .inl (cA, 8, .inl (aN fal))), (be, .inl (cA, 448, .inl (aN fbe)))] : va_W) = [(lc, .inr (5, [.ref ra, .ref sa, .ref fa, .ref ve, .ref lk, .ref jo, .ref ba, .ref ro, .int (nI nc), .int (nI ((needF p0 p1 p2 dd nc rc fve fal fbe fro).2.2.2.2))])), (ve, .inl (cA, 8, .inl (aN fve))), (ro, .inl (cA, 60, .inl (aN ((needF p0 p1 p2 dd nc rc fve fal fbe fro).2.2.2.1)))), (ra, .inr (3, [.ref al, .ref be])), (al, .inl (cA, 8, .inl (aN ((needF p0 p1 p2 dd nc rc fve fal fbe fro).2.1)))), (be, .inl (cA, 448, .inl (aN ((needF p0 p1 p2 dd nc rc fve fal fbe fro).2.2.1))))] := by rw [eF]
    rw [eW] at hP hD
    exact W.iret (v := (-1)) hx hb hr (fun t ht hW => ⟨⟨(-1), (), rfl, (by rw [eF]), by rw [ht]; exact hP, hD⟩, hS.F ht⟩) hS.2.2 dX3_needs_17
  · have c_5 := if01_ne c_5
    refine lv_aload_n hx hb dX3_needs_8 rfl (lv_at hl 0 rfl) ?_
    refine lv_iload_n hx hb dX3_needs_9 rfl (lv_at hl 3 rfl) ?_
    refine zz_callI (av := []) (wc := [(lc, .inr (5, [.ref ra, .ref sa, .ref fa, .ref ve, .ref lk, .ref jo, .ref ba, .ref ro, .int (nI nc), .int (nI rc)]))]) (wr := [(ve, .inl (cA, 8, .inl (aN fve))), (ro, .inl (cA, 60, .inl (aN fro))), (ra, .inr (3, [.ref al, .ref be])), (al, .inl (cA, 8, .inl (aN fal))), (be, .inl (cA, 448, .inl (aN fbe)))]) hS hA hP hD [0] [1, 2, 3, 4, 5] rfl rfl (by decide) (by decide) (va_runV (As := [.int p2]) (rest := []) ⟨hx, hb, hml, hown, hts⟩ (kX3_isName l D cA H.size lc ra sa fa ve lk jo ba ro nc rc p2 (by omega)) (cwV 1 hts gX3_needs_X3_isName rfl rfl rfl (by decide +kernel) ⟨Nat.le_of_ble_eq_true rfl, Nat.le_of_ble_eq_true rfl⟩) ⟨(zPreS (av := [.ref lc, .int p2]) (wc := [(lc, .inr (5, [.ref ra, .ref sa, .ref fa, .ref ve, .ref lk, .ref jo, .ref ba, .ref ro, .int (nI nc), .int (nI rc)]))]) hK hP hD [0] rfl (by decide) rfl).1, (va_recv hK.1 hP (ci := 5) (q0 := 0) rfl rfl), (zPreS (av := [.ref lc, .int p2]) (wc := [(lc, .inr (5, [.ref ra, .ref sa, .ref fa, .ref ve, .ref lk, .ref jo, .ref ba, .ref ro, .int (nI nc), .int (nI rc)]))]) hK hP hD [0] rfl (by decide) rfl).2⟩ rfl rfl hl.1 rfl (lv_room (Nat.le_of_ble_eq_true rfl)) dX3_needs_10 ⟨Nat.zero_le _, Nat.zero_le _⟩) (fun H locs hP hD hS => ?_)
    have hP : va_P D vwCl [(ve, .inl (cA, 8, .inl (aN fve))), (ro, .inl (cA, 60, .inl (aN fro))), (ra, .inr (3, [.ref al, .ref be])), (al, .inl (cA, 8, .inl (aN fal))), (be, .inl (cA, 448, .inl (aN fbe))), (lc, .inr (5, [.ref ra, .ref sa, .ref fa, .ref ve, .ref lk, .ref jo, .ref ba, .ref ro, .int (nI nc), .int (nI rc)]))] H := hP
    have hD : va_D A [(ve, .inl (cA, 8, .inl (aN fve))), (ro, .inl (cA, 60, .inl (aN fro))), (ra, .inr (3, [.ref al, .ref be])), (al, .inl (cA, 8, .inl (aN fal))), (be, .inl (cA, 448, .inl (aN fbe))), (lc, .inr (5, [.ref ra, .ref sa, .ref fa, .ref ve, .ref lk, .ref jo, .ref ba, .ref ro, .int (nI nc), .int (nI rc)]))] := hD
    have hP : va_P D vwCl [(lc, .inr (5, [.ref ra, .ref sa, .ref fa, .ref ve, .ref lk, .ref jo, .ref ba, .ref ro, .int (nI nc), .int (nI rc)])), (ve, .inl (cA, 8, .inl (aN fve))), (ro, .inl (cA, 60, .inl (aN fro))), (ra, .inr (3, [.ref al, .ref be])), (al, .inl (cA, 8, .inl (aN fal))), (be, .inl (cA, 448, .inl (aN fbe)))] H := hP.sub [5, 0, 1, 2, 3, 4] rfl
    have hD : va_D A [(lc, .inr (5, [.ref ra, .ref sa, .ref fa, .ref ve, .ref lk, .ref jo, .ref ba, .ref ro, .int (nI nc), .int (nI rc)])), (ve, .inl (cA, 8, .inl (aN fve))), (ro, .inl (cA, 60, .inl (aN fro))), (ra, .inr (3, [.ref al, .ref be])), (al, .inl (cA, 8, .inl (aN fal))), (be, .inl (cA, 448, .inl (aN fbe)))] := hD.sub [5, 0, 1, 2, 3, 4] (by decide) rfl
    refine nn_if_ne (tgt := 18) hx hb dX3_needs_13 (by decide) if01_lt (fun c_13 => ?_) (fun c_13 => ?_)
    · have c_13 := if01_ne c_13
      have e1 := toN_eq (c_5).1
      have b1 : toN p0 < nc := isN_lt (by omega) c_5
      have hl : lv_has ls 6 [(0, .ref lc), (1, .int (nI (toN p0))), (2, .int p1), (3, .int p2), (4, .long dd)] := by rw [← e1]; exact hl
      have e3 := toN_eq (c_13).1
      have b3 : toN p2 < nc := isN_lt (by omega) c_13
      have hl : lv_has ls 6 [(0, .ref lc), (1, .int (nI (toN p0))), (2, .int p1), (3, .int (nI (toN p2))), (4, .long dd)] := by rw [← e3]; exact hl
      refine lv_iload_n hx hb dX3_needs_18 rfl (lv_at hl 2 rfl) ?_
      refine lv_if_lt (tgt := 32) hx hb dX3_needs_19 (by decide) (fun c_19 => ?_) (fun c_19 => ?_)
      · have cv : ¬ isN p1 (fve (toN p0)) := fun q => q.1 c_19
        refine lv_bipush (v := -2) hx hb dX3_needs_32 (by decide) ?_
        have eF : (needF p0 p1 p2 dd nc rc fve fal fbe fro) = ((-2), fal, fbe, fro, rc) := by unfold needF; (repeat' (first | rfl | contradiction | split))
        have eW : ([(lc, .inr (5, [.ref ra, .ref sa, .ref fa, .ref ve, .ref lk, .ref jo, .ref ba, .ref ro, .int (nI nc), .int (nI rc)])), (ve, .inl (cA, 8, .inl (aN fve))), (ro, .inl (cA, 60, .inl (aN fro))), (ra, .inr (3, [.ref al, .ref be])), (al, .inl (cA, 8, .inl (aN fal))), (be, .inl (cA, 448, .inl (aN fbe)))] : va_W) = [(lc, .inr (5, [.ref ra, .ref sa, .ref fa, .ref ve, .ref lk, .ref jo, .ref ba, .ref ro, .int (nI nc), .int (nI ((needF p0 p1 p2 dd nc rc fve fal fbe fro).2.2.2.2))])), (ve, .inl (cA, 8, .inl (aN fve))), (ro, .inl (cA, 60, .inl (aN ((needF p0 p1 p2 dd nc rc fve fal fbe fro).2.2.2.1)))), (ra, .inr (3, [.ref al, .ref be])), (al, .inl (cA, 8, .inl (aN ((needF p0 p1 p2 dd nc rc fve fal fbe fro).2.1)))), (be, .inl (cA, 448, .inl (aN ((needF p0 p1 p2 dd nc rc fve fal fbe fro).2.2.1))))] := by rw [eF]
        rw [eW] at hP hD
        exact W.iret (v := (-2)) hx hb hr (fun t ht hW => ⟨⟨(-2), (), rfl, (by rw [eF]), by rw [ht]; exact hP, hD⟩, hS.F ht⟩) hS.2.2 dX3_needs_34
      · refine lv_iload_n hx hb dX3_needs_22 rfl (lv_at hl 2 rfl) ?_
        refine lv_aload_n hx hb dX3_needs_23 rfl (lv_at hl 0 rfl) ?_
        refine va_get (D := D) (ci := 5) (v := .ref ve) (C := RX3) (T := TX3) (N := 10) hx hb hts inX3_needs_X3 hown hK.1 hP 0 rfl rfl 3 (by decide) (hts _ lkX3_needs_32) (fun _ h9 => h9) rfl dX3_needs_24 ?_
        refine lv_iload_n hx hb dX3_needs_27 rfl (lv_at hl 1 rfl) ?_
        refine nn_ald hx hb hK hP 1 rfl (by omega) (by decide) dX3_needs_28 ?_
        refine lv_icmp_lt (tgt := 35) hx hb dX3_needs_29 (by decide) (fun c_29 => ?_) (fun c_29 => ?_)
        · have cv : isN p1 (fve (toN p0)) := ⟨c_19, c_29⟩
          have hv6 := hve (toN p0)
          have e2 := toN_eq (cv).1
          have b2 : toN p1 < fve (toN p0) := isN_lt (by omega) cv
          have hl : lv_has ls 6 [(0, .ref lc), (1, .int (nI (toN p0))), (2, .int (nI (toN p1))), (3, .int (nI (toN p2))), (4, .long dd)] := by rw [← e2]; exact hl
          refine lv_aload_n hx hb dX3_needs_35 rfl (lv_at hl 0 rfl) ?_
          refine va_get (D := D) (ci := 5) (v := .int (nI rc)) (C := RX3) (T := TX3) (N := 10) hx hb hts inX3_needs_X3 hown hK.1 hP 0 rfl rfl 9 (by decide) (hts _ lkX3_needs_52) (fun _ h9 => h9) rfl dX3_needs_36 ?_
          refine lv_bipush (v := nI 60) hx hb dX3_needs_39 (by decide) ?_
          refine nn_icmp_lt (tgt := 47) hx hb dX3_needs_41 (by decide) (by omega) (by omega) (fun c_41 => ?_) (fun c_41 => ?_)
          · refine lv_aload_n hx hb dX3_needs_47 rfl (lv_at hl 0 rfl) ?_
            refine va_get (D := D) (ci := 5) (v := .ref ra) (C := RX3) (T := TX3) (N := 10) hx hb hts inX3_needs_X3 hown hK.1 hP 0 rfl rfl 0 (by decide) (hts _ lkX3_needs_12) (fun _ h9 => h9) rfl dX3_needs_48 ?_
            refine lv_iload_n hx hb dX3_needs_51 rfl (lv_at hl 1 rfl) ?_
            refine lv_iload_n hx hb dX3_needs_52 rfl (lv_at hl 2 rfl) ?_
            refine zz_callI (av := []) (wc := []) (wr := [(lc, .inr (5, [.ref ra, .ref sa, .ref fa, .ref ve, .ref lk, .ref jo, .ref ba, .ref ro, .int (nI nc), .int (nI rc)])), (ve, .inl (cA, 8, .inl (aN fve))), (ro, .inl (cA, 60, .inl (aN fro))), (ra, .inr (3, [.ref al, .ref be])), (al, .inl (cA, 8, .inl (aN fal))), (be, .inl (cA, 448, .inl (aN fbe)))]) hS hA hP hD [] [0, 1, 2, 3, 4, 5] rfl rfl (by decide) (by decide) (va_runS (As := [.int (nI (toN p1))]) (rest := [.int (nI (toN p0)), .ref ra]) ⟨hx, hb, hml, hown, hts⟩ (kX3_codeOf l D cA H.size (nI (toN p1)) ) (va_cwS 1 hts gX3_needs_X3_codeOf rfl rfl rfl (by decide +kernel) ⟨Nat.le_of_ble_eq_true rfl, Nat.le_of_ble_eq_true rfl⟩) (zPreS (av := [.int (nI (toN p1))]) (wc := []) hK hP hD [] rfl (by decide) rfl) rfl rfl hl.1 rfl (lv_room (Nat.le_of_ble_eq_true rfl)) dX3_needs_53 ⟨Nat.zero_le _, Nat.zero_le _⟩) (fun H locs hP hD hS => ?_)
            have hP : va_P D vwCl [(lc, .inr (5, [.ref ra, .ref sa, .ref fa, .ref ve, .ref lk, .ref jo, .ref ba, .ref ro, .int (nI nc), .int (nI rc)])), (ve, .inl (cA, 8, .inl (aN fve))), (ro, .inl (cA, 60, .inl (aN fro))), (ra, .inr (3, [.ref al, .ref be])), (al, .inl (cA, 8, .inl (aN fal))), (be, .inl (cA, 448, .inl (aN fbe)))] H := hP
            have hD : va_D A [(lc, .inr (5, [.ref ra, .ref sa, .ref fa, .ref ve, .ref lk, .ref jo, .ref ba, .ref ro, .int (nI nc), .int (nI rc)])), (ve, .inl (cA, 8, .inl (aN fve))), (ro, .inl (cA, 60, .inl (aN fro))), (ra, .inr (3, [.ref al, .ref be])), (al, .inl (cA, 8, .inl (aN fal))), (be, .inl (cA, 448, .inl (aN fbe)))] := hD
            refine zz_top (y := (nI (toN p1 + 1))) (nI_add _ _) ?_
            refine lv_iload_n hx hb dX3_needs_56 rfl (lv_at hl 3 rfl) ?_
            refine lv_lload hx hb dX3_needs_57 (lv_at hl 4 rfl) ?_
            refine zz_callI (av := []) (wc := []) (wr := [(lc, .inr (5, [.ref ra, .ref sa, .ref fa, .ref ve, .ref lk, .ref jo, .ref ba, .ref ro, .int (nI nc), .int (nI rc)])), (ve, .inl (cA, 8, .inl (aN fve))), (ro, .inl (cA, 60, .inl (aN fro))), (ra, .inr (3, [.ref al, .ref be])), (al, .inl (cA, 8, .inl (aN fal))), (be, .inl (cA, 448, .inl (aN fbe)))]) hS hA hP hD [] [0, 1, 2, 3, 4, 5] rfl rfl (by decide) (by decide) (va_runS (As := [.long dd]) (rest := [.int (nI (toN p2)), .int (nI (toN p1 + 1)), .int (nI (toN p0)), .ref ra]) ⟨hx, hb, hml, hown, hts⟩ (kX3_codesOf l D cA H.size dd ) (va_cwS 1 hts gX3_needs_X3_codesOf rfl rfl rfl (by decide +kernel) ⟨Nat.le_of_ble_eq_true rfl, Nat.le_of_ble_eq_true rfl⟩) (zPreS (av := [.long dd]) (wc := []) hK hP hD [] rfl (by decide) rfl) rfl rfl hl.1 rfl (lv_room (Nat.le_of_ble_eq_true rfl)) dX3_needs_59 ⟨Nat.zero_le _, Nat.zero_le _⟩) (fun H locs hP hD hS => ?_)
            have hP : va_P D vwCl [(lc, .inr (5, [.ref ra, .ref sa, .ref fa, .ref ve, .ref lk, .ref jo, .ref ba, .ref ro, .int (nI nc), .int (nI rc)])), (ve, .inl (cA, 8, .inl (aN fve))), (ro, .inl (cA, 60, .inl (aN fro))), (ra, .inr (3, [.ref al, .ref be])), (al, .inl (cA, 8, .inl (aN fal))), (be, .inl (cA, 448, .inl (aN fbe)))] H := hP
            have hD : va_D A [(lc, .inr (5, [.ref ra, .ref sa, .ref fa, .ref ve, .ref lk, .ref jo, .ref ba, .ref ro, .int (nI nc), .int (nI rc)])), (ve, .inl (cA, 8, .inl (aN fve))), (ro, .inl (cA, 60, .inl (aN fro))), (ra, .inr (3, [.ref al, .ref be])), (al, .inl (cA, 8, .inl (aN fal))), (be, .inl (cA, 448, .inl (aN fbe)))] := hD
            refine zz_callV (av := []) (wc := [(ra, .inr (3, [.ref al, .ref be])), (al, .inl (cA, 8, .inl (aN fal))), (be, .inl (cA, 448, .inl (aN fbe)))]) (wr := [(lc, .inr (5, [.ref ra, .ref sa, .ref fa, .ref ve, .ref lk, .ref jo, .ref ba, .ref ro, .int (nI nc), .int (nI rc)])), (ve, .inl (cA, 8, .inl (aN fve))), (ro, .inl (cA, 60, .inl (aN fro)))]) hS hA hP hD [3, 4, 5] [0, 1, 2] rfl rfl (by decide) (by decide) (va_runVN (As := [.int (nI (toN p0)), .int (nI (toN p1 + 1)), .int (nI (toN p2)), .int (nI (2 * lo6 dd))]) (rest := []) ⟨hx, hb, hml, hown, hts⟩ (kX1_tie l D cA H.size ra al be fal fbe (toN p0) (toN p1 + 1) (toN p2) (2 * lo6 dd) (by omega) (by omega) (by omega) (by have := lo6_lt dd; omega)) ⟨va_cnB 4 hts gX3_needs_X1_tie_n71 rfl rfl rfl (hK.2 _ nkX3_71) (hts _ iniX3_needs_X1) (by decide +kernel) ⟨Nat.le_of_ble_eq_true rfl, Nat.le_of_ble_eq_true rfl⟩, hts _ imX3_needs_X1_tie, hts _ seX3_needs_X1_tie⟩ ⟨(zPreS (av := [.ref ra, .int (nI (toN p0)), .int (nI (toN p1 + 1)), .int (nI (toN p2)), .int (nI (2 * lo6 dd))]) (wc := [(ra, .inr (3, [.ref al, .ref be])), (al, .inl (cA, 8, .inl (aN fal))), (be, .inl (cA, 448, .inl (aN fbe)))]) hK hP hD [3, 4, 5] rfl (by decide) rfl).1, (va_recv hK.1 hP (ci := 3) (q0 := 3) rfl rfl), (zPreS (av := [.ref ra, .int (nI (toN p0)), .int (nI (toN p1 + 1)), .int (nI (toN p2)), .int (nI (2 * lo6 dd))]) (wc := [(ra, .inr (3, [.ref al, .ref be])), (al, .inl (cA, 8, .inl (aN fal))), (be, .inl (cA, 448, .inl (aN fbe)))]) hK hP hD [3, 4, 5] rfl (by decide) rfl).2⟩ rfl rfl hl.1 rfl (lv_room (Nat.le_of_ble_eq_true rfl)) dX3_needs_62 ⟨Nat.zero_le _, Nat.zero_le _⟩) (fun H locs hP hD hS => ?_)
            have hP : va_P D vwCl [(lc, .inr (5, [.ref ra, .ref sa, .ref fa, .ref ve, .ref lk, .ref jo, .ref ba, .ref ro, .int (nI nc), .int (nI rc)])), (ve, .inl (cA, 8, .inl (aN fve))), (ro, .inl (cA, 60, .inl (aN fro))), (ra, .inr (3, [.ref al, .ref be])), (al, .inl (cA, 8, .inl (aN (tieAl (toN p0) (toN p1 + 1) (toN p2) (2 * lo6 dd) fal)))), (be, .inl (cA, 448, .inl (aN (tieBe (toN p0) (toN p1 + 1) (toN p2) (2 * lo6 dd) fbe))))] H := hP
            have hD : va_D A [(lc, .inr (5, [.ref ra, .ref sa, .ref fa, .ref ve, .ref lk, .ref jo, .ref ba, .ref ro, .int (nI nc), .int (nI rc)])), (ve, .inl (cA, 8, .inl (aN fve))), (ro, .inl (cA, 60, .inl (aN fro))), (ra, .inr (3, [.ref al, .ref be])), (al, .inl (cA, 8, .inl (aN (tieAl (toN p0) (toN p1 + 1) (toN p2) (2 * lo6 dd) fal)))), (be, .inl (cA, 448, .inl (aN (tieBe (toN p0) (toN p1 + 1) (toN p2) (2 * lo6 dd) fbe))))] := hD
            refine lv_aload_n hx hb dX3_needs_65 rfl (lv_at hl 0 rfl) ?_
            refine lv_iconst (v := nI 0) hx hb dX3_needs_66 (by decide) ?_
            refine lv_iload_n hx hb dX3_needs_67 rfl (lv_at hl 1 rfl) ?_
            refine lv_iload_n hx hb dX3_needs_68 rfl (lv_at hl 2 rfl) ?_
            refine lv_iload_n hx hb dX3_needs_69 rfl (lv_at hl 3 rfl) ?_
            refine zz_callI (av := []) (wc := [(lc, .inr (5, [.ref ra, .ref sa, .ref fa, .ref ve, .ref lk, .ref jo, .ref ba, .ref ro, .int (nI nc), .int (nI rc)])), (ro, .inl (cA, 60, .inl (aN fro)))]) (wr := [(ve, .inl (cA, 8, .inl (aN fve))), (ra, .inr (3, [.ref al, .ref be])), (al, .inl (cA, 8, .inl (aN (tieAl (toN p0) (toN p1 + 1) (toN p2) (2 * lo6 dd) fal)))), (be, .inl (cA, 448, .inl (aN (tieBe (toN p0) (toN p1 + 1) (toN p2) (2 * lo6 dd) fbe))))]) hS hA hP hD [0, 2] [1, 3, 4, 5] rfl rfl (by decide) (by decide) (va_runV (As := [.int (nI 0), .int (nI (toN p0)), .int (nI (toN p1)), .int (nI (toN p2))]) (rest := []) ⟨hx, hb, hml, hown, hts⟩ (kX3_addRow l D cA H.size lc ra sa fa ve lk jo ba ro nc rc fro 0 (toN p0) (toN p1) (toN p2) (by omega)) (cwV 4 hts gX3_needs_X3_addRow rfl rfl rfl (by decide +kernel) ⟨Nat.le_of_ble_eq_true rfl, Nat.le_of_ble_eq_true rfl⟩) ⟨(zPreS (av := [.ref lc, .int (nI 0), .int (nI (toN p0)), .int (nI (toN p1)), .int (nI (toN p2))]) (wc := [(lc, .inr (5, [.ref ra, .ref sa, .ref fa, .ref ve, .ref lk, .ref jo, .ref ba, .ref ro, .int (nI nc), .int (nI rc)])), (ro, .inl (cA, 60, .inl (aN fro)))]) hK hP hD [0, 2] rfl (by decide) rfl).1, (va_recv hK.1 hP (ci := 5) (q0 := 0) rfl rfl), (zPreS (av := [.ref lc, .int (nI 0), .int (nI (toN p0)), .int (nI (toN p1)), .int (nI (toN p2))]) (wc := [(lc, .inr (5, [.ref ra, .ref sa, .ref fa, .ref ve, .ref lk, .ref jo, .ref ba, .ref ro, .int (nI nc), .int (nI rc)])), (ro, .inl (cA, 60, .inl (aN fro)))]) hK hP hD [0, 2] rfl (by decide) rfl).2⟩ rfl rfl hl.1 rfl (lv_room (Nat.le_of_ble_eq_true rfl)) dX3_needs_70 ⟨Nat.zero_le _, Nat.zero_le _⟩) (fun H locs hP hD hS => ?_)
            have hP : va_P D vwCl [(ve, .inl (cA, 8, .inl (aN fve))), (ra, .inr (3, [.ref al, .ref be])), (al, .inl (cA, 8, .inl (aN (tieAl (toN p0) (toN p1 + 1) (toN p2) (2 * lo6 dd) fal)))), (be, .inl (cA, 448, .inl (aN (tieBe (toN p0) (toN p1 + 1) (toN p2) (2 * lo6 dd) fbe)))), (lc, .inr (5, [.ref ra, .ref sa, .ref fa, .ref ve, .ref lk, .ref jo, .ref ba, .ref ro, .int (nI nc), .int (nI (rc + 1))])), (ro, .inl (cA, 60, .inl (aN (va_up fro rc (((0 * 8 + (toN p0)) * 8 + (toN p1)) * 8 + (toN p2))))))] H := hP
            have hD : va_D A [(ve, .inl (cA, 8, .inl (aN fve))), (ra, .inr (3, [.ref al, .ref be])), (al, .inl (cA, 8, .inl (aN (tieAl (toN p0) (toN p1 + 1) (toN p2) (2 * lo6 dd) fal)))), (be, .inl (cA, 448, .inl (aN (tieBe (toN p0) (toN p1 + 1) (toN p2) (2 * lo6 dd) fbe)))), (lc, .inr (5, [.ref ra, .ref sa, .ref fa, .ref ve, .ref lk, .ref jo, .ref ba, .ref ro, .int (nI nc), .int (nI (rc + 1))])), (ro, .inl (cA, 60, .inl (aN (va_up fro rc (((0 * 8 + (toN p0)) * 8 + (toN p1)) * 8 + (toN p2))))))] := hD
            have hP : va_P D vwCl [(lc, .inr (5, [.ref ra, .ref sa, .ref fa, .ref ve, .ref lk, .ref jo, .ref ba, .ref ro, .int (nI nc), .int (nI (rc + 1))])), (ve, .inl (cA, 8, .inl (aN fve))), (ro, .inl (cA, 60, .inl (aN (va_up fro rc (((0 * 8 + (toN p0)) * 8 + (toN p1)) * 8 + (toN p2)))))), (ra, .inr (3, [.ref al, .ref be])), (al, .inl (cA, 8, .inl (aN (tieAl (toN p0) (toN p1 + 1) (toN p2) (2 * lo6 dd) fal)))), (be, .inl (cA, 448, .inl (aN (tieBe (toN p0) (toN p1 + 1) (toN p2) (2 * lo6 dd) fbe))))] H := hP.sub [4, 0, 5, 1, 2, 3] rfl
            have hD : va_D A [(lc, .inr (5, [.ref ra, .ref sa, .ref fa, .ref ve, .ref lk, .ref jo, .ref ba, .ref ro, .int (nI nc), .int (nI (rc + 1))])), (ve, .inl (cA, 8, .inl (aN fve))), (ro, .inl (cA, 60, .inl (aN (va_up fro rc (((0 * 8 + (toN p0)) * 8 + (toN p1)) * 8 + (toN p2)))))), (ra, .inr (3, [.ref al, .ref be])), (al, .inl (cA, 8, .inl (aN (tieAl (toN p0) (toN p1 + 1) (toN p2) (2 * lo6 dd) fal)))), (be, .inl (cA, 448, .inl (aN (tieBe (toN p0) (toN p1 + 1) (toN p2) (2 * lo6 dd) fbe))))] := hD.sub [4, 0, 5, 1, 2, 3] (by decide) rfl
            have eF : (needF p0 p1 p2 dd nc rc fve fal fbe fro) = ((nI rc), tieAl (toN p0) (toN p1 + 1) (toN p2) (2 * lo6 dd) fal, tieBe (toN p0) (toN p1 + 1) (toN p2) (2 * lo6 dd) fbe, va_up fro rc (((0 * 8 + (toN p0)) * 8 + (toN p1)) * 8 + (toN p2)), rc + 1) := by unfold needF; (repeat' (first | rfl | contradiction | split))
            have eW : ([(lc, .inr (5, [.ref ra, .ref sa, .ref fa, .ref ve, .ref lk, .ref jo, .ref ba, .ref ro, .int (nI nc), .int (nI (rc + 1))])), (ve, .inl (cA, 8, .inl (aN fve))), (ro, .inl (cA, 60, .inl (aN (va_up fro rc (((0 * 8 + (toN p0)) * 8 + (toN p1)) * 8 + (toN p2)))))), (ra, .inr (3, [.ref al, .ref be])), (al, .inl (cA, 8, .inl (aN (tieAl (toN p0) (toN p1 + 1) (toN p2) (2 * lo6 dd) fal)))), (be, .inl (cA, 448, .inl (aN (tieBe (toN p0) (toN p1 + 1) (toN p2) (2 * lo6 dd) fbe))))] : va_W) = [(lc, .inr (5, [.ref ra, .ref sa, .ref fa, .ref ve, .ref lk, .ref jo, .ref ba, .ref ro, .int (nI nc), .int (nI ((needF p0 p1 p2 dd nc rc fve fal fbe fro).2.2.2.2))])), (ve, .inl (cA, 8, .inl (aN fve))), (ro, .inl (cA, 60, .inl (aN ((needF p0 p1 p2 dd nc rc fve fal fbe fro).2.2.2.1)))), (ra, .inr (3, [.ref al, .ref be])), (al, .inl (cA, 8, .inl (aN ((needF p0 p1 p2 dd nc rc fve fal fbe fro).2.1)))), (be, .inl (cA, 448, .inl (aN ((needF p0 p1 p2 dd nc rc fve fal fbe fro).2.2.1))))] := by rw [eF]
            rw [eW] at hP hD
            exact W.iret (v := (nI rc)) hx hb hr (fun t ht hW => ⟨⟨(nI rc), (), rfl, (by rw [eF]), by rw [ht]; exact hP, hD⟩, hS.F ht⟩) hS.2.2 dX3_needs_73
          · refine lv_bipush (v := -4) hx hb dX3_needs_44 (by decide) ?_
            have eF : (needF p0 p1 p2 dd nc rc fve fal fbe fro) = ((-4), fal, fbe, fro, rc) := by unfold needF; (repeat' (first | rfl | contradiction | split))
            have eW : ([(lc, .inr (5, [.ref ra, .ref sa, .ref fa, .ref ve, .ref lk, .ref jo, .ref ba, .ref ro, .int (nI nc), .int (nI rc)])), (ve, .inl (cA, 8, .inl (aN fve))), (ro, .inl (cA, 60, .inl (aN fro))), (ra, .inr (3, [.ref al, .ref be])), (al, .inl (cA, 8, .inl (aN fal))), (be, .inl (cA, 448, .inl (aN fbe)))] : va_W) = [(lc, .inr (5, [.ref ra, .ref sa, .ref fa, .ref ve, .ref lk, .ref jo, .ref ba, .ref ro, .int (nI nc), .int (nI ((needF p0 p1 p2 dd nc rc fve fal fbe fro).2.2.2.2))])), (ve, .inl (cA, 8, .inl (aN fve))), (ro, .inl (cA, 60, .inl (aN ((needF p0 p1 p2 dd nc rc fve fal fbe fro).2.2.2.1)))), (ra, .inr (3, [.ref al, .ref be])), (al, .inl (cA, 8, .inl (aN ((needF p0 p1 p2 dd nc rc fve fal fbe fro).2.1)))), (be, .inl (cA, 448, .inl (aN ((needF p0 p1 p2 dd nc rc fve fal fbe fro).2.2.1))))] := by rw [eF]
            rw [eW] at hP hD
            exact W.iret (v := (-4)) hx hb hr (fun t ht hW => ⟨⟨(-4), (), rfl, (by rw [eF]), by rw [ht]; exact hP, hD⟩, hS.F ht⟩) hS.2.2 dX3_needs_46
        · have cv : ¬ isN p1 (fve (toN p0)) := fun q => c_29 q.2
          refine lv_bipush (v := -2) hx hb dX3_needs_32 (by decide) ?_
          have eF : (needF p0 p1 p2 dd nc rc fve fal fbe fro) = ((-2), fal, fbe, fro, rc) := by unfold needF; (repeat' (first | rfl | contradiction | split))
          have eW : ([(lc, .inr (5, [.ref ra, .ref sa, .ref fa, .ref ve, .ref lk, .ref jo, .ref ba, .ref ro, .int (nI nc), .int (nI rc)])), (ve, .inl (cA, 8, .inl (aN fve))), (ro, .inl (cA, 60, .inl (aN fro))), (ra, .inr (3, [.ref al, .ref be])), (al, .inl (cA, 8, .inl (aN fal))), (be, .inl (cA, 448, .inl (aN fbe)))] : va_W) = [(lc, .inr (5, [.ref ra, .ref sa, .ref fa, .ref ve, .ref lk, .ref jo, .ref ba, .ref ro, .int (nI nc), .int (nI ((needF p0 p1 p2 dd nc rc fve fal fbe fro).2.2.2.2))])), (ve, .inl (cA, 8, .inl (aN fve))), (ro, .inl (cA, 60, .inl (aN ((needF p0 p1 p2 dd nc rc fve fal fbe fro).2.2.2.1)))), (ra, .inr (3, [.ref al, .ref be])), (al, .inl (cA, 8, .inl (aN ((needF p0 p1 p2 dd nc rc fve fal fbe fro).2.1)))), (be, .inl (cA, 448, .inl (aN ((needF p0 p1 p2 dd nc rc fve fal fbe fro).2.2.1))))] := by rw [eF]
          rw [eW] at hP hD
          exact W.iret (v := (-2)) hx hb hr (fun t ht hW => ⟨⟨(-2), (), rfl, (by rw [eF]), by rw [ht]; exact hP, hD⟩, hS.F ht⟩) hS.2.2 dX3_needs_34
    · have c_13 := if01_eq c_13
      refine lv_iconst (v := -1) hx hb dX3_needs_16 (by decide) ?_
      have eF : (needF p0 p1 p2 dd nc rc fve fal fbe fro) = ((-1), fal, fbe, fro, rc) := by unfold needF; (repeat' (first | rfl | contradiction | split))
      have eW : ([(lc, .inr (5, [.ref ra, .ref sa, .ref fa, .ref ve, .ref lk, .ref jo, .ref ba, .ref ro, .int (nI nc), .int (nI rc)])), (ve, .inl (cA, 8, .inl (aN fve))), (ro, .inl (cA, 60, .inl (aN fro))), (ra, .inr (3, [.ref al, .ref be])), (al, .inl (cA, 8, .inl (aN fal))), (be, .inl (cA, 448, .inl (aN fbe)))] : va_W) = [(lc, .inr (5, [.ref ra, .ref sa, .ref fa, .ref ve, .ref lk, .ref jo, .ref ba, .ref ro, .int (nI nc), .int (nI ((needF p0 p1 p2 dd nc rc fve fal fbe fro).2.2.2.2))])), (ve, .inl (cA, 8, .inl (aN fve))), (ro, .inl (cA, 60, .inl (aN ((needF p0 p1 p2 dd nc rc fve fal fbe fro).2.2.2.1)))), (ra, .inr (3, [.ref al, .ref be])), (al, .inl (cA, 8, .inl (aN ((needF p0 p1 p2 dd nc rc fve fal fbe fro).2.1)))), (be, .inl (cA, 448, .inl (aN ((needF p0 p1 p2 dd nc rc fve fal fbe fro).2.2.1))))] := by rw [eF]
      rw [eW] at hP hD
      exact W.iret (v := (-1)) hx hb hr (fun t ht hW => ⟨⟨(-1), (), rfl, (by rw [eF]), by rw [ht]; exact hP, hD⟩, hS.F ht⟩) hS.2.2 dX3_needs_17


def grBody (na ot : Nat) : Nat → ((Nat → Nat) × (Nat → Nat)) → (Nat → Nat) × (Nat → Nat) := fun i y => (tieAl na i ot (1 ||| (1 <<< i)) y.1, tieBe na i ot (1 ||| (1 <<< i)) y.2)
def grpF (p0 p1 : Int32) (nc rc : Nat) (fal fbe fro : Nat → Nat) : Int32 × (Nat → Nat) × (Nat → Nat) × (Nat → Nat) × Nat :=
  if isN p0 nc then (if isN p1 nc then (if toN p0 = toN p1 then (-2, fal, fbe, fro, rc) else (if rc < 60 then (nI rc, (zlp (grBody (toN p0) (toN p1)) 6 1 (fal, fbe)).1, (zlp (grBody (toN p0) (toN p1)) 6 1 (fal, fbe)).2, va_up fro rc (((3 * 8 + toN p0) * 8 + 0) * 8 + toN p1), rc + 1)
    else (-4, fal, fbe, fro, rc))) else (-1, fal, fbe, fro, rc)) else (-1, fal, fbe, fro, rc)
theorem or_shl_lt {i : Nat} (h : i < 7) : 1 ||| (1 <<< i) < 2147483648 := by
  have : ∀ i, i < 7 → 1 ||| (1 <<< i) < 2147483648 := by decide
  exact this i h

theorem lkX3_group_12 : Cond.fieldLink RX3 12 "LeastChange" "rules" "LLeastChange$Rules;" ∈ wsX3_group := by decide +kernel
theorem inX3_group_X3 : ∀ w ∈ wsX30, w ∈ wsX3_group := by decide +kernel
theorem iniX3_group_X1 : Cond.initialized RX1 ∈ wsX3_group := by decide +kernel
theorem imX3_group_X1_tie : Cond.instanceMethod yX1_tie ∈ wsX3_group := by decide +kernel
theorem seX3_group_X1_tie : Cond.selects RX1 yX1_tie yX1_tie ∈ wsX3_group := by decide +kernel
set_option maxHeartbeats 4000000 in
set_option maxRecDepth 100000 in
theorem bX3_group {p : Program} {l : Launch} {e : Env} {R : Room} {s : State} {m : MethodId} {args : Array Value} {below : List Frame} {meth : Method} {c : Code} {Q : State → Prop} {A : Nat → Prop} {H0 : Heap} {D : va_G} {cA : ClassId} (hx : p.tables.exec = Jvm.exec) (hb : c.code = cX3_group) (hml : c.maxLocals = 4) (hown : s.vm.findClass RX3 = some m.cls) (hts : ∀ w ∈ wsX3_group, w.before args s = true) (hK : zK D cA s) (hA : ∀ q, H0.size ≤ q → A q) (lc : Nat) (ra : Nat) (sa : Nat) (fa : Nat) (ve : Nat) (lk : Nat) (jo : Nat) (ba : Nat) (ro : Nat) (al : Nat) (be : Nat) (nc : Nat) (rc : Nat) (fro : Nat → Nat) (na : Nat) (ot : Nat) (hn : na < 8) (ho : ot < 8) (hRf : 2 ≤ R.frames) (hRl : 47 ≤ R.locals)  : ∀ (k : Nat) (i : Nat) (y : (Nat → Nat) × (Nat → Nat)), (i + k = 7) → ∀ (H : Heap) (locs : List Loc) (ls : Array Slot), va_P D vwCl [(lc, .inr (5, [.ref ra, .ref sa, .ref fa, .ref ve, .ref lk, .ref jo, .ref ba, .ref ro, .int (nI nc), .int (nI rc)])), (ro, .inl (cA, 60, .inl (aN fro))), (ra, .inr (3, [.ref al, .ref be])), (al, .inl (cA, 8, .inl (aN y.1))), (be, .inl (cA, 448, .inl (aN y.2)))] H → va_D A [(lc, .inr (5, [.ref ra, .ref sa, .ref fa, .ref ve, .ref lk, .ref jo, .ref ba, .ref ro, .int (nI nc), .int (nI rc)])), (ro, .inl (cA, 60, .inl (aN fro))), (ra, .inr (3, [.ref al, .ref be])), (al, .inl (cA, 8, .inl (aN y.1))), (be, .inl (cA, 448, .inl (aN y.2)))] → va_S A H0 H locs → lv_has ls 4 [(0, .ref lc), (1, .int (nI na)), (2, .int (nI ot)), (3, .int (nI i))] → (∀ (H : Heap) (locs : List Loc) (ls : Array Slot), va_P D vwCl [(lc, .inr (5, [.ref ra, .ref sa, .ref fa, .ref ve, .ref lk, .ref jo, .ref ba, .ref ro, .int (nI nc), .int (nI rc)])), (ro, .inl (cA, 60, .inl (aN fro))), (ra, .inr (3, [.ref al, .ref be])), (al, .inl (cA, 8, .inl (aN ((zlp (grBody na ot) k i y).1)))), (be, .inl (cA, 448, .inl (aN ((zlp (grBody na ot) k i y).2))))] H → va_D A [(lc, .inr (5, [.ref ra, .ref sa, .ref fa, .ref ve, .ref lk, .ref jo, .ref ba, .ref ro, .int (nI nc), .int (nI rc)])), (ro, .inl (cA, 60, .inl (aN fro))), (ra, .inr (3, [.ref al, .ref be])), (al, .inl (cA, 8, .inl (aN ((zlp (grBody na ot) k i y).1)))), (be, .inl (cA, 448, .inl (aN ((zlp (grBody na ot) k i y).2))))] → va_S A H0 H locs → lv_has ls 4 [(0, .ref lc), (1, .int (nI na)), (2, .int (nI ot))] → W p l e R s m args below meth c H locs 0 0 Q (F0 m 67 ls [])) → W p l e R s m args below meth c H locs 0 0 Q (F0 m 40 ls []) := by
  intro k
  induction k with
  | zero =>
    intro i y hi H locs ls hP hD hS hl kk
    refine lv_iload_n hx hb dX3_group_40 rfl (lv_at hl 3 rfl) ?_
    refine lv_bipush (v := nI 7) hx hb dX3_group_41 (by decide) ?_
    refine nn_icmp_ge (tgt := 67) hx hb dX3_group_43 (by decide) (by omega) (by omega) (fun c_43 => ?_) (fun c_43 => ?_)
    · exact kk _ _ _ hP hD hS (lv_sub hl [0, 1, 2] rfl)
    · exfalso; omega
  | succ k ih =>
    intro i y hi H locs ls hP hD hS hl kk
    refine lv_iload_n hx hb dX3_group_40 rfl (lv_at hl 3 rfl) ?_
    refine lv_bipush (v := nI 7) hx hb dX3_group_41 (by decide) ?_
    refine nn_icmp_ge (tgt := 67) hx hb dX3_group_43 (by decide) (by omega) (by omega) (fun c_43 => ?_) (fun c_43 => ?_)
    · exfalso; omega
    · refine lv_aload_n hx hb dX3_group_46 rfl (lv_at hl 0 rfl) ?_
      refine va_get (D := D) (ci := 5) (v := .ref ra) (C := RX3) (T := TX3) (N := 10) hx hb hts inX3_group_X3 hown hK.1 hP 0 rfl rfl 0 (by decide) (hts _ lkX3_group_12) (fun _ h9 => h9) rfl dX3_group_47 ?_
      refine lv_iload_n hx hb dX3_group_50 rfl (lv_at hl 1 rfl) ?_
      refine lv_iload_n hx hb dX3_group_51 rfl (lv_at hl 3 rfl) ?_
      refine lv_iload_n hx hb dX3_group_52 rfl (lv_at hl 2 rfl) ?_
      refine lv_iconst (v := nI 1) hx hb dX3_group_53 (by decide) ?_
      refine lv_iconst (v := nI 1) hx hb dX3_group_54 (by decide) ?_
      refine lv_iload_n hx hb dX3_group_55 rfl (lv_at hl 3 rfl) ?_
      refine nn_ishl hx hb (by omega) dX3_group_56 ?_
      refine nn_ior hx hb dX3_group_57 ?_
      refine zz_callV (av := []) (wc := [(ra, .inr (3, [.ref al, .ref be])), (al, .inl (cA, 8, .inl (aN y.1))), (be, .inl (cA, 448, .inl (aN y.2)))]) (wr := [(lc, .inr (5, [.ref ra, .ref sa, .ref fa, .ref ve, .ref lk, .ref jo, .ref ba, .ref ro, .int (nI nc), .int (nI rc)])), (ro, .inl (cA, 60, .inl (aN fro)))]) hS hA hP hD [2, 3, 4] [0, 1] rfl rfl (by decide) (by decide) (va_runVN (As := [.int (nI na), .int (nI i), .int (nI ot), .int (nI (1 ||| (1 <<< i)))]) (rest := []) ⟨hx, hb, hml, hown, hts⟩ (kX1_tie l D cA H.size ra al be y.1 y.2 na i ot (1 ||| (1 <<< i)) (by omega) (by omega) (by omega) (or_shl_lt (by omega))) ⟨va_cnB 4 hts gX3_group_X1_tie_n71 rfl rfl rfl (hK.2 _ nkX3_71) (hts _ iniX3_group_X1) (by decide +kernel) ⟨Nat.le_trans (by decide) hRf, Nat.le_trans (by decide) hRl⟩, hts _ imX3_group_X1_tie, hts _ seX3_group_X1_tie⟩ ⟨(zPreS (av := [.ref ra, .int (nI na), .int (nI i), .int (nI ot), .int (nI (1 ||| (1 <<< i)))]) (wc := [(ra, .inr (3, [.ref al, .ref be])), (al, .inl (cA, 8, .inl (aN y.1))), (be, .inl (cA, 448, .inl (aN y.2)))]) hK hP hD [2, 3, 4] rfl (by decide) rfl).1, (va_recv hK.1 hP (ci := 3) (q0 := 2) rfl rfl), (zPreS (av := [.ref ra, .int (nI na), .int (nI i), .int (nI ot), .int (nI (1 ||| (1 <<< i)))]) (wc := [(ra, .inr (3, [.ref al, .ref be])), (al, .inl (cA, 8, .inl (aN y.1))), (be, .inl (cA, 448, .inl (aN y.2)))]) hK hP hD [2, 3, 4] rfl (by decide) rfl).2⟩ rfl rfl hl.1 rfl (lv_room (Nat.le_of_ble_eq_true rfl)) dX3_group_58 ⟨Nat.zero_le _, Nat.zero_le _⟩) (fun H locs hP hD hS => ?_)
      have hP : va_P D vwCl [(lc, .inr (5, [.ref ra, .ref sa, .ref fa, .ref ve, .ref lk, .ref jo, .ref ba, .ref ro, .int (nI nc), .int (nI rc)])), (ro, .inl (cA, 60, .inl (aN fro))), (ra, .inr (3, [.ref al, .ref be])), (al, .inl (cA, 8, .inl (aN (tieAl na i ot (1 ||| (1 <<< i)) y.1)))), (be, .inl (cA, 448, .inl (aN (tieBe na i ot (1 ||| (1 <<< i)) y.2))))] H := hP
      have hD : va_D A [(lc, .inr (5, [.ref ra, .ref sa, .ref fa, .ref ve, .ref lk, .ref jo, .ref ba, .ref ro, .int (nI nc), .int (nI rc)])), (ro, .inl (cA, 60, .inl (aN fro))), (ra, .inr (3, [.ref al, .ref be])), (al, .inl (cA, 8, .inl (aN (tieAl na i ot (1 ||| (1 <<< i)) y.1)))), (be, .inl (cA, 448, .inl (aN (tieBe na i ot (1 ||| (1 <<< i)) y.2))))] := hD
      refine lv_iinc (v := (nI (i + 1))) (lv' := [(3, .int (nI (i + 1))), (0, .ref lc), (1, .int (nI na)), (2, .int (nI ot))]) hx hb dX3_group_61 hl (k := 3) rfl (nI_add _ _) (by decide) rfl (fun ls hl => ?_)
      refine lv_goto (tgt := 40) hx hb dX3_group_64 (by decide) ?_
      exact ih (i + 1) (grBody na ot i y) (by omega) _ _ _ hP hD hS (lv_sub hl [1, 2, 3, 0] rfl) kk

theorem lkX3_group_52 : Cond.fieldLink RX3 52 "LeastChange" "rowCount" "I" ∈ wsX3_group := by decide +kernel
set_option maxHeartbeats 4000000 in
set_option maxRecDepth 100000 in
theorem kX3_group (l : Launch) (D : va_G) (cA : ClassId) (sz : Nat) (lc : Nat) (ra : Nat) (sa : Nat) (fa : Nat) (ve : Nat) (lk : Nat) (jo : Nat) (ba : Nat) (ro : Nat) (al : Nat) (be : Nat) (nc : Nat) (rc : Nat) (fro : Nat → Nat) (fal : Nat → Nat) (fbe : Nat → Nat) (p0 : Int32) (p1 : Int32) (hnc : nc ≤ 8) (hrc : rc < 2147483648) : zMi l yX3_group wsX3_group ({ frames := 2, cells := 0, slots := 0, locals := 47 }) D cA [.ref lc, .int p0, .int p1] sz [(lc, .inr (5, [.ref ra, .ref sa, .ref fa, .ref ve, .ref lk, .ref jo, .ref ba, .ref ro, .int (nI nc), .int (nI rc)])), (ro, .inl (cA, 60, .inl (aN fro))), (ra, .inr (3, [.ref al, .ref be])), (al, .inl (cA, 8, .inl (aN fal))), (be, .inl (cA, 448, .inl (aN fbe)))] [(lc, .inr (5, [.ref ra, .ref sa, .ref fa, .ref ve, .ref lk, .ref jo, .ref ba, .ref ro, .int (nI nc), .int (nI ((grpF p0 p1 nc rc fal fbe fro).2.2.2.2))])), (ro, .inl (cA, 60, .inl (aN ((grpF p0 p1 nc rc fal fbe fro).2.2.2.1)))), (ra, .inr (3, [.ref al, .ref be])), (al, .inl (cA, 8, .inl (aN ((grpF p0 p1 nc rc fal fbe fro).2.1)))), (be, .inl (cA, 448, .inl (aN ((grpF p0 p1 nc rc fal fbe fro).2.2.1))))] ((grpF p0 p1 nc rc fal fbe fro).1) := by
  refine Met.ofW (cc := cX3_group) (maxL := 4) (ret := (some .int)) (by decide) rfl ?_
  intro p e s m args below meth c s₁ B hml hv
  obtain ⟨rfl, hsz, hP, hK, hD0⟩ := hv
  have hx := B.exec
  have hb := B.bytes
  have hr := B.returns
  have hts := atoms_spec (ws := wsX3_group) B.pre
  have hown : s.vm.findClass RX3 = some m.cls := findClass_of_methodNamed B.named
  have hlocks := B.notSynchronized
  subst hsz
  have hD := hD0.self (sz := s.heap.size)
  generalize hAe : va_A [(lc, .inr (5, [.ref ra, .ref sa, .ref fa, .ref ve, .ref lk, .ref jo, .ref ba, .ref ro, .int (nI nc), .int (nI rc)])), (ro, .inl (cA, 60, .inl (aN fro))), (ra, .inr (3, [.ref al, .ref be])), (al, .inl (cA, 8, .inl (aN fal))), (be, .inl (cA, 448, .inl (aN fbe)))] s.heap.size = A at hD ⊢
  have hA : ∀ q : Nat, s.heap.size ≤ q → A q := fun q h => by rw [← hAe]; exact Or.inr h
  have hS : va_S A s.heap s.heap [] := va_S.rf
  have hP : va_P D vwCl [(lc, .inr (5, [.ref ra, .ref sa, .ref fa, .ref ve, .ref lk, .ref jo, .ref ba, .ref ro, .int (nI nc), .int (nI rc)])), (ro, .inl (cA, 60, .inl (aN fro))), (ra, .inr (3, [.ref al, .ref be])), (al, .inl (cA, 8, .inl (aN fal))), (be, .inl (cA, 448, .inl (aN fbe)))] s.heap := hP
  have hl := lv_entry ([.ref lc, .int p0, .int p1]) (n := 4) (Nat.le_of_ble_eq_true rfl)
  rw [lg_entry_eq]
  generalize (lg_sl ([.ref lc, .int p0, .int p1]) ++ List.replicate (4 - (lg_sl ([.ref lc, .int p0, .int p1])).length) Slot.unset).toArray = ls at hl ⊢
  have hl : lv_has ls 4 [(0, .ref lc), (1, .int p0), (2, .int p1)] := hl
  refine lv_aload_n hx hb dX3_group_0 rfl (lv_at hl 0 rfl) ?_
  refine lv_iload_n hx hb dX3_group_1 rfl (lv_at hl 1 rfl) ?_
  refine zz_callI (av := []) (wc := [(lc, .inr (5, [.ref ra, .ref sa, .ref fa, .ref ve, .ref lk, .ref jo, .ref ba, .ref ro, .int (nI nc), .int (nI rc)]))]) (wr := [(ro, .inl (cA, 60, .inl (aN fro))), (ra, .inr (3, [.ref al, .ref be])), (al, .inl (cA, 8, .inl (aN fal))), (be, .inl (cA, 448, .inl (aN fbe)))]) hS hA hP hD [0] [1, 2, 3, 4] rfl rfl (by decide) (by decide) (va_runV (As := [.int p0]) (rest := []) ⟨hx, hb, hml, hown, hts⟩ (kX3_isName l D cA s.heap.size lc ra sa fa ve lk jo ba ro nc rc p0 (by omega)) (cwV 1 hts gX3_group_X3_isName rfl rfl rfl (by decide +kernel) ⟨Nat.le_of_ble_eq_true rfl, Nat.le_of_ble_eq_true rfl⟩) ⟨(zPreS (av := [.ref lc, .int p0]) (wc := [(lc, .inr (5, [.ref ra, .ref sa, .ref fa, .ref ve, .ref lk, .ref jo, .ref ba, .ref ro, .int (nI nc), .int (nI rc)]))]) hK hP hD [0] rfl (by decide) rfl).1, (va_recv hK.1 hP (ci := 5) (q0 := 0) rfl rfl), (zPreS (av := [.ref lc, .int p0]) (wc := [(lc, .inr (5, [.ref ra, .ref sa, .ref fa, .ref ve, .ref lk, .ref jo, .ref ba, .ref ro, .int (nI nc), .int (nI rc)]))]) hK hP hD [0] rfl (by decide) rfl).2⟩ rfl rfl hl.1 rfl (lv_room (Nat.le_of_ble_eq_true rfl)) dX3_group_2 ⟨Nat.zero_le _, Nat.zero_le _⟩) (fun H locs hP hD hS => ?_)
  have hP : va_P D vwCl [(ro, .inl (cA, 60, .inl (aN fro))), (ra, .inr (3, [.ref al, .ref be])), (al, .inl (cA, 8, .inl (aN fal))), (be, .inl (cA, 448, .inl (aN fbe))), (lc, .inr (5, [.ref ra, .ref sa, .ref fa, .ref ve, .ref lk, .ref jo, .ref ba, .ref ro, .int (nI nc), .int (nI rc)]))] H := hP
  have hD : va_D A [(ro, .inl (cA, 60, .inl (aN fro))), (ra, .inr (3, [.ref al, .ref be])), (al, .inl (cA, 8, .inl (aN fal))), (be, .inl (cA, 448, .inl (aN fbe))), (lc, .inr (5, [.ref ra, .ref sa, .ref fa, .ref ve, .ref lk, .ref jo, .ref ba, .ref ro, .int (nI nc), .int (nI rc)]))] := hD
  have hP : va_P D vwCl [(lc, .inr (5, [.ref ra, .ref sa, .ref fa, .ref ve, .ref lk, .ref jo, .ref ba, .ref ro, .int (nI nc), .int (nI rc)])), (ro, .inl (cA, 60, .inl (aN fro))), (ra, .inr (3, [.ref al, .ref be])), (al, .inl (cA, 8, .inl (aN fal))), (be, .inl (cA, 448, .inl (aN fbe)))] H := hP.sub [4, 0, 1, 2, 3] rfl
  have hD : va_D A [(lc, .inr (5, [.ref ra, .ref sa, .ref fa, .ref ve, .ref lk, .ref jo, .ref ba, .ref ro, .int (nI nc), .int (nI rc)])), (ro, .inl (cA, 60, .inl (aN fro))), (ra, .inr (3, [.ref al, .ref be])), (al, .inl (cA, 8, .inl (aN fal))), (be, .inl (cA, 448, .inl (aN fbe)))] := hD.sub [4, 0, 1, 2, 3] (by decide) rfl
  refine nn_if_eq (tgt := 16) hx hb dX3_group_5 (by decide) if01_lt (fun c_5 => ?_) (fun c_5 => ?_)
  · have c_5 := if01_eq c_5
    refine lv_iconst (v := -1) hx hb dX3_group_16 (by decide) ?_
    have eF : (grpF p0 p1 nc rc fal fbe fro) = ((-1), fal, fbe, fro, rc) := by unfold grpF; (repeat' (first | rfl | contradiction | split))
    have eW : ([(lc, .inr (5, [.ref ra, .ref sa, .ref fa, .ref ve, .ref lk, .ref jo, .ref ba, .ref ro, .int (nI nc), .int (nI rc)])), (ro, .inl (cA, 60, .inl (aN fro))), (ra, .inr (3, [.ref al, .ref be])), (al, .inl (cA, 8, .inl (aN fal))), (be, .inl (cA, 448, .inl (aN fbe)))] : va_W) = [(lc, .inr (5, [.ref ra, .ref sa, .ref fa, .ref ve, .ref lk, .ref jo, .ref ba, .ref ro, .int (nI nc), .int (nI ((grpF p0 p1 nc rc fal fbe fro).2.2.2.2))])), (ro, .inl (cA, 60, .inl (aN ((grpF p0 p1 nc rc fal fbe fro).2.2.2.1)))), (ra, .inr (3, [.ref al, .ref be])), (al, .inl (cA, 8, .inl (aN ((grpF p0 p1 nc rc fal fbe fro).2.1)))), (be, .inl (cA, 448, .inl (aN ((grpF p0 p1 nc rc fal fbe fro).2.2.1))))] := by rw [eF]
    rw [eW] at hP hD
    exact W.iret (v := (-1)) hx hb hr (fun t ht hW => ⟨⟨(-1), (), rfl, (by rw [eF]), by rw [ht]; exact hP, hD⟩, hS.F ht⟩) hS.2.2 dX3_group_17
  · have c_5 := if01_ne c_5
    refine lv_aload_n hx hb dX3_group_8 rfl (lv_at hl 0 rfl) ?_
    refine lv_iload_n hx hb dX3_group_9 rfl (lv_at hl 2 rfl) ?_
    refine zz_callI (av := []) (wc := [(lc, .inr (5, [.ref ra, .ref sa, .ref fa, .ref ve, .ref lk, .ref jo, .ref ba, .ref ro, .int (nI nc), .int (nI rc)]))]) (wr := [(ro, .inl (cA, 60, .inl (aN fro))), (ra, .inr (3, [.ref al, .ref be])), (al, .inl (cA, 8, .inl (aN fal))), (be, .inl (cA, 448, .inl (aN fbe)))]) hS hA hP hD [0] [1, 2, 3, 4] rfl rfl (by decide) (by decide) (va_runV (As := [.int p1]) (rest := []) ⟨hx, hb, hml, hown, hts⟩ (kX3_isName l D cA H.size lc ra sa fa ve lk jo ba ro nc rc p1 (by omega)) (cwV 1 hts gX3_group_X3_isName rfl rfl rfl (by decide +kernel) ⟨Nat.le_of_ble_eq_true rfl, Nat.le_of_ble_eq_true rfl⟩) ⟨(zPreS (av := [.ref lc, .int p1]) (wc := [(lc, .inr (5, [.ref ra, .ref sa, .ref fa, .ref ve, .ref lk, .ref jo, .ref ba, .ref ro, .int (nI nc), .int (nI rc)]))]) hK hP hD [0] rfl (by decide) rfl).1, (va_recv hK.1 hP (ci := 5) (q0 := 0) rfl rfl), (zPreS (av := [.ref lc, .int p1]) (wc := [(lc, .inr (5, [.ref ra, .ref sa, .ref fa, .ref ve, .ref lk, .ref jo, .ref ba, .ref ro, .int (nI nc), .int (nI rc)]))]) hK hP hD [0] rfl (by decide) rfl).2⟩ rfl rfl hl.1 rfl (lv_room (Nat.le_of_ble_eq_true rfl)) dX3_group_10 ⟨Nat.zero_le _, Nat.zero_le _⟩) (fun H locs hP hD hS => ?_)
    have hP : va_P D vwCl [(ro, .inl (cA, 60, .inl (aN fro))), (ra, .inr (3, [.ref al, .ref be])), (al, .inl (cA, 8, .inl (aN fal))), (be, .inl (cA, 448, .inl (aN fbe))), (lc, .inr (5, [.ref ra, .ref sa, .ref fa, .ref ve, .ref lk, .ref jo, .ref ba, .ref ro, .int (nI nc), .int (nI rc)]))] H := hP
    have hD : va_D A [(ro, .inl (cA, 60, .inl (aN fro))), (ra, .inr (3, [.ref al, .ref be])), (al, .inl (cA, 8, .inl (aN fal))), (be, .inl (cA, 448, .inl (aN fbe))), (lc, .inr (5, [.ref ra, .ref sa, .ref fa, .ref ve, .ref lk, .ref jo, .ref ba, .ref ro, .int (nI nc), .int (nI rc)]))] := hD
    have hP : va_P D vwCl [(lc, .inr (5, [.ref ra, .ref sa, .ref fa, .ref ve, .ref lk, .ref jo, .ref ba, .ref ro, .int (nI nc), .int (nI rc)])), (ro, .inl (cA, 60, .inl (aN fro))), (ra, .inr (3, [.ref al, .ref be])), (al, .inl (cA, 8, .inl (aN fal))), (be, .inl (cA, 448, .inl (aN fbe)))] H := hP.sub [4, 0, 1, 2, 3] rfl
    have hD : va_D A [(lc, .inr (5, [.ref ra, .ref sa, .ref fa, .ref ve, .ref lk, .ref jo, .ref ba, .ref ro, .int (nI nc), .int (nI rc)])), (ro, .inl (cA, 60, .inl (aN fro))), (ra, .inr (3, [.ref al, .ref be])), (al, .inl (cA, 8, .inl (aN fal))), (be, .inl (cA, 448, .inl (aN fbe)))] := hD.sub [4, 0, 1, 2, 3] (by decide) rfl
    refine nn_if_ne (tgt := 18) hx hb dX3_group_13 (by decide) if01_lt (fun c_13 => ?_) (fun c_13 => ?_)
    · have c_13 := if01_ne c_13
      have e1 := toN_eq (c_5).1
      have b1 : toN p0 < nc := isN_lt (by omega) c_5
      have hl : lv_has ls 4 [(0, .ref lc), (1, .int (nI (toN p0))), (2, .int p1)] := by rw [← e1]; exact hl
      have e2 := toN_eq (c_13).1
      have b2 : toN p1 < nc := isN_lt (by omega) c_13
      have hl : lv_has ls 4 [(0, .ref lc), (1, .int (nI (toN p0))), (2, .int (nI (toN p1)))] := by rw [← e2]; exact hl
      refine lv_iload_n hx hb dX3_group_18 rfl (lv_at hl 1 rfl) ?_
      refine lv_iload_n hx hb dX3_group_19 rfl (lv_at hl 2 rfl) ?_
      refine nn_icmp_ne (tgt := 26) hx hb dX3_group_20 (by decide) (by omega) (by omega) (fun c_20 => ?_) (fun c_20 => ?_)
      · refine lv_aload_n hx hb dX3_group_26 rfl (lv_at hl 0 rfl) ?_
        refine va_get (D := D) (ci := 5) (v := .int (nI rc)) (C := RX3) (T := TX3) (N := 10) hx hb hts inX3_group_X3 hown hK.1 hP 0 rfl rfl 9 (by decide) (hts _ lkX3_group_52) (fun _ h9 => h9) rfl dX3_group_27 ?_
        refine lv_bipush (v := nI 60) hx hb dX3_group_30 (by decide) ?_
        refine nn_icmp_lt (tgt := 38) hx hb dX3_group_32 (by decide) (by omega) (by omega) (fun c_32 => ?_) (fun c_32 => ?_)
        · refine lv_iconst (v := nI 1) hx hb dX3_group_38 (by decide) ?_
          refine lv_istore_n (lv' := [(3, .int (nI 1)), (0, .ref lc), (1, .int (nI (toN p0))), (2, .int (nI (toN p1)))]) hx hb dX3_group_39 rfl hl (by decide) rfl (fun ls hl => ?_)
          refine bX3_group hx hb hml hown hts hK hA lc ra sa fa ve lk jo ba ro al be nc rc fro (toN p0) (toN p1) (by omega) (by omega) (Nat.le_of_ble_eq_true rfl) (Nat.le_of_ble_eq_true rfl) 6 1 (fal, fbe) (by omega) _ _ ls hP hD hS (lv_sub hl [1, 2, 3, 0] rfl) (fun H locs ls hP hD hS hl => ?_)
          refine lv_aload_n hx hb dX3_group_67 rfl (lv_at hl 0 rfl) ?_
          refine lv_iconst (v := nI 3) hx hb dX3_group_68 (by decide) ?_
          refine lv_iload_n hx hb dX3_group_69 rfl (lv_at hl 1 rfl) ?_
          refine lv_iconst (v := nI 0) hx hb dX3_group_70 (by decide) ?_
          refine lv_iload_n hx hb dX3_group_71 rfl (lv_at hl 2 rfl) ?_
          refine zz_callI (av := []) (wc := [(lc, .inr (5, [.ref ra, .ref sa, .ref fa, .ref ve, .ref lk, .ref jo, .ref ba, .ref ro, .int (nI nc), .int (nI rc)])), (ro, .inl (cA, 60, .inl (aN fro)))]) (wr := [(ra, .inr (3, [.ref al, .ref be])), (al, .inl (cA, 8, .inl (aN ((zlp (grBody (toN p0) (toN p1)) 6 1 (fal, fbe)).1)))), (be, .inl (cA, 448, .inl (aN ((zlp (grBody (toN p0) (toN p1)) 6 1 (fal, fbe)).2))))]) hS hA hP hD [0, 1] [2, 3, 4] rfl rfl (by decide) (by decide) (va_runV (As := [.int (nI 3), .int (nI (toN p0)), .int (nI 0), .int (nI (toN p1))]) (rest := []) ⟨hx, hb, hml, hown, hts⟩ (kX3_addRow l D cA H.size lc ra sa fa ve lk jo ba ro nc rc fro 3 (toN p0) 0 (toN p1) (by omega)) (cwV 4 hts gX3_group_X3_addRow rfl rfl rfl (by decide +kernel) ⟨Nat.le_of_ble_eq_true rfl, Nat.le_of_ble_eq_true rfl⟩) ⟨(zPreS (av := [.ref lc, .int (nI 3), .int (nI (toN p0)), .int (nI 0), .int (nI (toN p1))]) (wc := [(lc, .inr (5, [.ref ra, .ref sa, .ref fa, .ref ve, .ref lk, .ref jo, .ref ba, .ref ro, .int (nI nc), .int (nI rc)])), (ro, .inl (cA, 60, .inl (aN fro)))]) hK hP hD [0, 1] rfl (by decide) rfl).1, (va_recv hK.1 hP (ci := 5) (q0 := 0) rfl rfl), (zPreS (av := [.ref lc, .int (nI 3), .int (nI (toN p0)), .int (nI 0), .int (nI (toN p1))]) (wc := [(lc, .inr (5, [.ref ra, .ref sa, .ref fa, .ref ve, .ref lk, .ref jo, .ref ba, .ref ro, .int (nI nc), .int (nI rc)])), (ro, .inl (cA, 60, .inl (aN fro)))]) hK hP hD [0, 1] rfl (by decide) rfl).2⟩ rfl rfl hl.1 rfl (lv_room (Nat.le_of_ble_eq_true rfl)) dX3_group_72 ⟨Nat.zero_le _, Nat.zero_le _⟩) (fun H locs hP hD hS => ?_)
          have hP : va_P D vwCl [(ra, .inr (3, [.ref al, .ref be])), (al, .inl (cA, 8, .inl (aN ((zlp (grBody (toN p0) (toN p1)) 6 1 (fal, fbe)).1)))), (be, .inl (cA, 448, .inl (aN ((zlp (grBody (toN p0) (toN p1)) 6 1 (fal, fbe)).2)))), (lc, .inr (5, [.ref ra, .ref sa, .ref fa, .ref ve, .ref lk, .ref jo, .ref ba, .ref ro, .int (nI nc), .int (nI (rc + 1))])), (ro, .inl (cA, 60, .inl (aN (va_up fro rc (((3 * 8 + (toN p0)) * 8 + 0) * 8 + (toN p1))))))] H := hP
          have hD : va_D A [(ra, .inr (3, [.ref al, .ref be])), (al, .inl (cA, 8, .inl (aN ((zlp (grBody (toN p0) (toN p1)) 6 1 (fal, fbe)).1)))), (be, .inl (cA, 448, .inl (aN ((zlp (grBody (toN p0) (toN p1)) 6 1 (fal, fbe)).2)))), (lc, .inr (5, [.ref ra, .ref sa, .ref fa, .ref ve, .ref lk, .ref jo, .ref ba, .ref ro, .int (nI nc), .int (nI (rc + 1))])), (ro, .inl (cA, 60, .inl (aN (va_up fro rc (((3 * 8 + (toN p0)) * 8 + 0) * 8 + (toN p1))))))] := hD
          have hP : va_P D vwCl [(lc, .inr (5, [.ref ra, .ref sa, .ref fa, .ref ve, .ref lk, .ref jo, .ref ba, .ref ro, .int (nI nc), .int (nI (rc + 1))])), (ro, .inl (cA, 60, .inl (aN (va_up fro rc (((3 * 8 + (toN p0)) * 8 + 0) * 8 + (toN p1)))))), (ra, .inr (3, [.ref al, .ref be])), (al, .inl (cA, 8, .inl (aN ((zlp (grBody (toN p0) (toN p1)) 6 1 (fal, fbe)).1)))), (be, .inl (cA, 448, .inl (aN ((zlp (grBody (toN p0) (toN p1)) 6 1 (fal, fbe)).2))))] H := hP.sub [3, 4, 0, 1, 2] rfl
          have hD : va_D A [(lc, .inr (5, [.ref ra, .ref sa, .ref fa, .ref ve, .ref lk, .ref jo, .ref ba, .ref ro, .int (nI nc), .int (nI (rc + 1))])), (ro, .inl (cA, 60, .inl (aN (va_up fro rc (((3 * 8 + (toN p0)) * 8 + 0) * 8 + (toN p1)))))), (ra, .inr (3, [.ref al, .ref be])), (al, .inl (cA, 8, .inl (aN ((zlp (grBody (toN p0) (toN p1)) 6 1 (fal, fbe)).1)))), (be, .inl (cA, 448, .inl (aN ((zlp (grBody (toN p0) (toN p1)) 6 1 (fal, fbe)).2))))] := hD.sub [3, 4, 0, 1, 2] (by decide) rfl
          have eF : (grpF p0 p1 nc rc fal fbe fro) = ((nI rc), (zlp (grBody (toN p0) (toN p1)) 6 1 (fal, fbe)).1, (zlp (grBody (toN p0) (toN p1)) 6 1 (fal, fbe)).2, va_up fro rc (((3 * 8 + (toN p0)) * 8 + 0) * 8 + (toN p1)), rc + 1) := by unfold grpF; (repeat' (first | rfl | contradiction | split))
          have eW : ([(lc, .inr (5, [.ref ra, .ref sa, .ref fa, .ref ve, .ref lk, .ref jo, .ref ba, .ref ro, .int (nI nc), .int (nI (rc + 1))])), (ro, .inl (cA, 60, .inl (aN (va_up fro rc (((3 * 8 + (toN p0)) * 8 + 0) * 8 + (toN p1)))))), (ra, .inr (3, [.ref al, .ref be])), (al, .inl (cA, 8, .inl (aN ((zlp (grBody (toN p0) (toN p1)) 6 1 (fal, fbe)).1)))), (be, .inl (cA, 448, .inl (aN ((zlp (grBody (toN p0) (toN p1)) 6 1 (fal, fbe)).2))))] : va_W) = [(lc, .inr (5, [.ref ra, .ref sa, .ref fa, .ref ve, .ref lk, .ref jo, .ref ba, .ref ro, .int (nI nc), .int (nI ((grpF p0 p1 nc rc fal fbe fro).2.2.2.2))])), (ro, .inl (cA, 60, .inl (aN ((grpF p0 p1 nc rc fal fbe fro).2.2.2.1)))), (ra, .inr (3, [.ref al, .ref be])), (al, .inl (cA, 8, .inl (aN ((grpF p0 p1 nc rc fal fbe fro).2.1)))), (be, .inl (cA, 448, .inl (aN ((grpF p0 p1 nc rc fal fbe fro).2.2.1))))] := by rw [eF]
          rw [eW] at hP hD
          exact W.iret (v := (nI rc)) hx hb hr (fun t ht hW => ⟨⟨(nI rc), (), rfl, (by rw [eF]), by rw [ht]; exact hP, hD⟩, hS.F ht⟩) hS.2.2 dX3_group_75
        · refine lv_bipush (v := -4) hx hb dX3_group_35 (by decide) ?_
          have eF : (grpF p0 p1 nc rc fal fbe fro) = ((-4), fal, fbe, fro, rc) := by unfold grpF; (repeat' (first | rfl | contradiction | split))
          have eW : ([(lc, .inr (5, [.ref ra, .ref sa, .ref fa, .ref ve, .ref lk, .ref jo, .ref ba, .ref ro, .int (nI nc), .int (nI rc)])), (ro, .inl (cA, 60, .inl (aN fro))), (ra, .inr (3, [.ref al, .ref be])), (al, .inl (cA, 8, .inl (aN fal))), (be, .inl (cA, 448, .inl (aN fbe)))] : va_W) = [(lc, .inr (5, [.ref ra, .ref sa, .ref fa, .ref ve, .ref lk, .ref jo, .ref ba, .ref ro, .int (nI nc), .int (nI ((grpF p0 p1 nc rc fal fbe fro).2.2.2.2))])), (ro, .inl (cA, 60, .inl (aN ((grpF p0 p1 nc rc fal fbe fro).2.2.2.1)))), (ra, .inr (3, [.ref al, .ref be])), (al, .inl (cA, 8, .inl (aN ((grpF p0 p1 nc rc fal fbe fro).2.1)))), (be, .inl (cA, 448, .inl (aN ((grpF p0 p1 nc rc fal fbe fro).2.2.1))))] := by rw [eF]
          rw [eW] at hP hD
          exact W.iret (v := (-4)) hx hb hr (fun t ht hW => ⟨⟨(-4), (), rfl, (by rw [eF]), by rw [ht]; exact hP, hD⟩, hS.F ht⟩) hS.2.2 dX3_group_37
      · refine lv_bipush (v := -2) hx hb dX3_group_23 (by decide) ?_
        have eF : (grpF p0 p1 nc rc fal fbe fro) = ((-2), fal, fbe, fro, rc) := by unfold grpF; (repeat' (first | rfl | contradiction | split))
        have eW : ([(lc, .inr (5, [.ref ra, .ref sa, .ref fa, .ref ve, .ref lk, .ref jo, .ref ba, .ref ro, .int (nI nc), .int (nI rc)])), (ro, .inl (cA, 60, .inl (aN fro))), (ra, .inr (3, [.ref al, .ref be])), (al, .inl (cA, 8, .inl (aN fal))), (be, .inl (cA, 448, .inl (aN fbe)))] : va_W) = [(lc, .inr (5, [.ref ra, .ref sa, .ref fa, .ref ve, .ref lk, .ref jo, .ref ba, .ref ro, .int (nI nc), .int (nI ((grpF p0 p1 nc rc fal fbe fro).2.2.2.2))])), (ro, .inl (cA, 60, .inl (aN ((grpF p0 p1 nc rc fal fbe fro).2.2.2.1)))), (ra, .inr (3, [.ref al, .ref be])), (al, .inl (cA, 8, .inl (aN ((grpF p0 p1 nc rc fal fbe fro).2.1)))), (be, .inl (cA, 448, .inl (aN ((grpF p0 p1 nc rc fal fbe fro).2.2.1))))] := by rw [eF]
        rw [eW] at hP hD
        exact W.iret (v := (-2)) hx hb hr (fun t ht hW => ⟨⟨(-2), (), rfl, (by rw [eF]), by rw [ht]; exact hP, hD⟩, hS.F ht⟩) hS.2.2 dX3_group_25
    · have c_13 := if01_eq c_13
      refine lv_iconst (v := -1) hx hb dX3_group_16 (by decide) ?_
      have eF : (grpF p0 p1 nc rc fal fbe fro) = ((-1), fal, fbe, fro, rc) := by unfold grpF; (repeat' (first | rfl | contradiction | split))
      have eW : ([(lc, .inr (5, [.ref ra, .ref sa, .ref fa, .ref ve, .ref lk, .ref jo, .ref ba, .ref ro, .int (nI nc), .int (nI rc)])), (ro, .inl (cA, 60, .inl (aN fro))), (ra, .inr (3, [.ref al, .ref be])), (al, .inl (cA, 8, .inl (aN fal))), (be, .inl (cA, 448, .inl (aN fbe)))] : va_W) = [(lc, .inr (5, [.ref ra, .ref sa, .ref fa, .ref ve, .ref lk, .ref jo, .ref ba, .ref ro, .int (nI nc), .int (nI ((grpF p0 p1 nc rc fal fbe fro).2.2.2.2))])), (ro, .inl (cA, 60, .inl (aN ((grpF p0 p1 nc rc fal fbe fro).2.2.2.1)))), (ra, .inr (3, [.ref al, .ref be])), (al, .inl (cA, 8, .inl (aN ((grpF p0 p1 nc rc fal fbe fro).2.1)))), (be, .inl (cA, 448, .inl (aN ((grpF p0 p1 nc rc fal fbe fro).2.2.1))))] := by rw [eF]
      rw [eW] at hP hD
      exact W.iret (v := (-1)) hx hb hr (fun t ht hW => ⟨⟨(-1), (), rfl, (by rw [eF]), by rw [ht]; exact hP, hD⟩, hS.F ht⟩) hS.2.2 dX3_group_17

