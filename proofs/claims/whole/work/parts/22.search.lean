theorem lkX2_keptCode_21 : Cond.fieldLink RX2 21 "LeastChange$Search" "kept" "[I" ∈ wsX2_keptCode := by decide +kernel
theorem inX2_keptCode_X2 : ∀ w ∈ wsX20, w ∈ wsX2_keptCode := by decide +kernel
set_option maxHeartbeats 4000000 in
set_option maxRecDepth 100000 in
theorem kX2_keptCode (l : Launch) (D : va_G) (cA : ClassId) (sz : Nat) (sa : Nat) (le : Nat) (ho : Nat) (tr : Nat) (ke : Nat) (ra : Nat) (fke : Nat → Nat) (nm : Nat) (kc : Nat) (cb : Nat) (ef : Nat) (na : Nat) (hn : na < 8) : zMi l yX2_keptCode wsX2_keptCode ({ frames := 0, cells := 0, slots := 0, locals := 0 }) D cA [.ref sa, .int (nI na)] sz [(sa, .inr (4, [.ref ra, .ref le, .ref ho, .ref tr, .ref ke, .int (nI nm), .int (nI kc), .int (nI cb), .int (nI ef)])), (ke, .inl (cA, 8, .inl (aN fke)))] [(sa, .inr (4, [.ref ra, .ref le, .ref ho, .ref tr, .ref ke, .int (nI nm), .int (nI kc), .int (nI cb), .int (nI ef)])), (ke, .inl (cA, 8, .inl (aN fke)))] (nI (fke na)) := by
  refine Met.ofW (cc := cX2_keptCode) (maxL := 2) (ret := (some .int)) (by decide) rfl ?_
  intro p e s m args below meth c s₁ B hml hv
  obtain ⟨rfl, hsz, hP, hK, hD0⟩ := hv
  have hx := B.exec
  have hb := B.bytes
  have hr := B.returns
  have hts := atoms_spec (ws := wsX2_keptCode) B.pre
  have hown : s.vm.findClass RX2 = some m.cls := findClass_of_methodNamed B.named
  have hlocks := B.notSynchronized
  subst hsz
  have hD := hD0.self (sz := s.heap.size)
  generalize hAe : va_A [(sa, .inr (4, [.ref ra, .ref le, .ref ho, .ref tr, .ref ke, .int (nI nm), .int (nI kc), .int (nI cb), .int (nI ef)])), (ke, .inl (cA, 8, .inl (aN fke)))] s.heap.size = A at hD ⊢
  have hA : ∀ q : Nat, s.heap.size ≤ q → A q := fun q h => by rw [← hAe]; exact Or.inr h
  have hS : va_S A s.heap s.heap [] := va_S.rf
  have hP : va_P D vwCl [(sa, .inr (4, [.ref ra, .ref le, .ref ho, .ref tr, .ref ke, .int (nI nm), .int (nI kc), .int (nI cb), .int (nI ef)])), (ke, .inl (cA, 8, .inl (aN fke)))] s.heap := hP
  have hl := lv_entry ([.ref sa, .int (nI na)]) (n := 2) (Nat.le_of_ble_eq_true rfl)
  rw [lg_entry_eq]
  generalize (lg_sl ([.ref sa, .int (nI na)]) ++ List.replicate (2 - (lg_sl ([.ref sa, .int (nI na)])).length) Slot.unset).toArray = ls at hl ⊢
  have hl : lv_has ls 2 [(0, .ref sa), (1, .int (nI na))] := hl
  refine lv_aload_n hx hb dX2_keptCode_0 rfl (lv_at hl 0 rfl) ?_
  refine va_get (D := D) (ci := 4) (v := .ref ke) (C := RX2) (T := TX2) (N := 9) hx hb hts inX2_keptCode_X2 hown hK.1 hP 0 rfl rfl 4 (by decide) (hts _ lkX2_keptCode_21) (fun _ h9 => h9) rfl dX2_keptCode_1 ?_
  refine lv_iload_n hx hb dX2_keptCode_4 rfl (lv_at hl 1 rfl) ?_
  refine nn_ald hx hb hK hP 1 rfl (by omega) (by decide) dX2_keptCode_5 ?_
  exact W.iret (v := (nI (fke na))) hx hb hr (fun t ht hW => ⟨⟨(nI (fke na)), (), rfl, rfl, by rw [ht]; exact hP, hD⟩, hS.F ht⟩) hS.2.2 dX2_keptCode_6

theorem lkX2_changedCount_28 : Cond.fieldLink RX2 28 "LeastChange$Search" "keptCost" "I" ∈ wsX2_changedCount := by decide +kernel
theorem inX2_changedCount_X2 : ∀ w ∈ wsX20, w ∈ wsX2_changedCount := by decide +kernel
set_option maxHeartbeats 4000000 in
set_option maxRecDepth 100000 in
theorem kX2_changedCount (l : Launch) (D : va_G) (cA : ClassId) (sz : Nat) (sa : Nat) (le : Nat) (ho : Nat) (tr : Nat) (ke : Nat) (ra : Nat) (nm : Nat) (kc : Nat) (cb : Nat) (ef : Nat) (hk : kc < 2147483648) : zMi l yX2_changedCount wsX2_changedCount ({ frames := 0, cells := 0, slots := 0, locals := 0 }) D cA [.ref sa] sz [(sa, .inr (4, [.ref ra, .ref le, .ref ho, .ref tr, .ref ke, .int (nI nm), .int (nI kc), .int (nI cb), .int (nI ef)]))] [(sa, .inr (4, [.ref ra, .ref le, .ref ho, .ref tr, .ref ke, .int (nI nm), .int (nI kc), .int (nI cb), .int (nI ef)]))] (nI (kc / 16)) := by
  refine Met.ofW (cc := cX2_changedCount) (maxL := 1) (ret := (some .int)) (by decide) rfl ?_
  intro p e s m args below meth c s₁ B hml hv
  obtain ⟨rfl, hsz, hP, hK, hD0⟩ := hv
  have hx := B.exec
  have hb := B.bytes
  have hr := B.returns
  have hts := atoms_spec (ws := wsX2_changedCount) B.pre
  have hown : s.vm.findClass RX2 = some m.cls := findClass_of_methodNamed B.named
  have hlocks := B.notSynchronized
  subst hsz
  have hD := hD0.self (sz := s.heap.size)
  generalize hAe : va_A [(sa, .inr (4, [.ref ra, .ref le, .ref ho, .ref tr, .ref ke, .int (nI nm), .int (nI kc), .int (nI cb), .int (nI ef)]))] s.heap.size = A at hD ⊢
  have hA : ∀ q : Nat, s.heap.size ≤ q → A q := fun q h => by rw [← hAe]; exact Or.inr h
  have hS : va_S A s.heap s.heap [] := va_S.rf
  have hP : va_P D vwCl [(sa, .inr (4, [.ref ra, .ref le, .ref ho, .ref tr, .ref ke, .int (nI nm), .int (nI kc), .int (nI cb), .int (nI ef)]))] s.heap := hP
  have hl := lv_entry ([.ref sa]) (n := 1) (Nat.le_of_ble_eq_true rfl)
  rw [lg_entry_eq]
  generalize (lg_sl ([.ref sa]) ++ List.replicate (1 - (lg_sl ([.ref sa])).length) Slot.unset).toArray = ls at hl ⊢
  have hl : lv_has ls 1 [(0, .ref sa)] := hl
  refine lv_aload_n hx hb dX2_changedCount_0 rfl (lv_at hl 0 rfl) ?_
  refine va_get (D := D) (ci := 4) (v := .int (nI kc)) (C := RX2) (T := TX2) (N := 9) hx hb hts inX2_changedCount_X2 hown hK.1 hP 0 rfl rfl 6 (by decide) (hts _ lkX2_changedCount_28) (fun _ h9 => h9) rfl dX2_changedCount_1 ?_
  refine lv_bipush (v := nI 16) hx hb dX2_changedCount_4 (by decide) ?_
  refine nn_idiv hx hb (by omega) (by omega) (by omega) dX2_changedCount_6 ?_
  exact W.iret (v := (nI (kc / 16))) hx hb hr (fun t ht hW => ⟨⟨(nI (kc / 16)), (), rfl, rfl, by rw [ht]; exact hP, hD⟩, hS.F ht⟩) hS.2.2 dX2_changedCount_7


def kpBody (ftr : Nat → Nat) : Nat → (Nat → Nat) → Nat → Nat := fun i f => va_up f i (ftr i)

theorem lkX2_keep_18 : Cond.fieldLink RX2 18 "LeastChange$Search" "tried" "[I" ∈ wsX2_keep := by decide +kernel
theorem lkX2_keep_21 : Cond.fieldLink RX2 21 "LeastChange$Search" "kept" "[I" ∈ wsX2_keep := by decide +kernel
theorem lkX2_keep_24 : Cond.fieldLink RX2 24 "LeastChange$Search" "names" "I" ∈ wsX2_keep := by decide +kernel
theorem inX2_keep_X2 : ∀ w ∈ wsX20, w ∈ wsX2_keep := by decide +kernel
set_option maxHeartbeats 4000000 in
set_option maxRecDepth 100000 in
theorem bX2_keep {p : Program} {l : Launch} {e : Env} {R : Room} {s : State} {m : MethodId} {args : Array Value} {below : List Frame} {meth : Method} {c : Code} {Q : State → Prop} {A : Nat → Prop} {H0 : Heap} {D : va_G} {cA : ClassId} (hx : p.tables.exec = Jvm.exec) (hb : c.code = cX2_keep) (hml : c.maxLocals = 3) (hown : s.vm.findClass RX2 = some m.cls) (hts : ∀ w ∈ wsX2_keep, w.before args s = true) (hK : zK D cA s) (hA : ∀ q, H0.size ≤ q → A q) (sa : Nat) (le : Nat) (ho : Nat) (tr : Nat) (ke : Nat) (ra : Nat) (ftr : Nat → Nat) (nm : Nat) (kc : Nat) (cb : Nat) (ef : Nat) (co : Nat) (hn : nm ≤ 8) : ∀ (k : Nat) (i : Nat) (x : Nat → Nat), (i + k = nm) → ∀ (H : Heap) (locs : List Loc) (ls : Array Slot), va_P D vwCl [(sa, .inr (4, [.ref ra, .ref le, .ref ho, .ref tr, .ref ke, .int (nI nm), .int (nI kc), .int (nI cb), .int (nI ef)])), (tr, .inl (cA, 8, .inl (aN ftr))), (ke, .inl (cA, 8, .inl (aN x)))] H → va_D A [(sa, .inr (4, [.ref ra, .ref le, .ref ho, .ref tr, .ref ke, .int (nI nm), .int (nI kc), .int (nI cb), .int (nI ef)])), (tr, .inl (cA, 8, .inl (aN ftr))), (ke, .inl (cA, 8, .inl (aN x)))] → va_S A H0 H locs → lv_has ls 3 [(0, .ref sa), (1, .int (nI co)), (2, .int (nI i))] → (∀ (H : Heap) (locs : List Loc) (ls : Array Slot), va_P D vwCl [(sa, .inr (4, [.ref ra, .ref le, .ref ho, .ref tr, .ref ke, .int (nI nm), .int (nI kc), .int (nI cb), .int (nI ef)])), (tr, .inl (cA, 8, .inl (aN ftr))), (ke, .inl (cA, 8, .inl (aN (zlp (kpBody ftr) k i x))))] H → va_D A [(sa, .inr (4, [.ref ra, .ref le, .ref ho, .ref tr, .ref ke, .int (nI nm), .int (nI kc), .int (nI cb), .int (nI ef)])), (tr, .inl (cA, 8, .inl (aN ftr))), (ke, .inl (cA, 8, .inl (aN (zlp (kpBody ftr) k i x))))] → va_S A H0 H locs → lv_has ls 3 [(0, .ref sa), (1, .int (nI co))] → W p l e R s m args below meth c H locs 0 0 Q (F0 m 28 ls [])) → W p l e R s m args below meth c H locs 0 0 Q (F0 m 2 ls []) := by
  intro k
  induction k with
  | zero =>
    intro i x hi H locs ls hP hD hS hl kk
    refine lv_iload_n hx hb dX2_keep_2 rfl (lv_at hl 2 rfl) ?_
    refine lv_aload_n hx hb dX2_keep_3 rfl (lv_at hl 0 rfl) ?_
    refine va_get (D := D) (ci := 4) (v := .int (nI nm)) (C := RX2) (T := TX2) (N := 9) hx hb hts inX2_keep_X2 hown hK.1 hP 0 rfl rfl 5 (by decide) (hts _ lkX2_keep_24) (fun _ h9 => h9) rfl dX2_keep_4 ?_
    refine nn_icmp_ge (tgt := 28) hx hb dX2_keep_7 (by decide) (by omega) (by omega) (fun c_7 => ?_) (fun c_7 => ?_)
    · exact kk _ _ _ hP hD hS (lv_sub hl [0, 1] rfl)
    · exfalso; omega
  | succ k ih =>
    intro i x hi H locs ls hP hD hS hl kk
    refine lv_iload_n hx hb dX2_keep_2 rfl (lv_at hl 2 rfl) ?_
    refine lv_aload_n hx hb dX2_keep_3 rfl (lv_at hl 0 rfl) ?_
    refine va_get (D := D) (ci := 4) (v := .int (nI nm)) (C := RX2) (T := TX2) (N := 9) hx hb hts inX2_keep_X2 hown hK.1 hP 0 rfl rfl 5 (by decide) (hts _ lkX2_keep_24) (fun _ h9 => h9) rfl dX2_keep_4 ?_
    refine nn_icmp_ge (tgt := 28) hx hb dX2_keep_7 (by decide) (by omega) (by omega) (fun c_7 => ?_) (fun c_7 => ?_)
    · exfalso; omega
    · refine lv_aload_n hx hb dX2_keep_10 rfl (lv_at hl 0 rfl) ?_
      refine va_get (D := D) (ci := 4) (v := .ref ke) (C := RX2) (T := TX2) (N := 9) hx hb hts inX2_keep_X2 hown hK.1 hP 0 rfl rfl 4 (by decide) (hts _ lkX2_keep_21) (fun _ h9 => h9) rfl dX2_keep_11 ?_
      refine lv_iload_n hx hb dX2_keep_14 rfl (lv_at hl 2 rfl) ?_
      refine lv_aload_n hx hb dX2_keep_15 rfl (lv_at hl 0 rfl) ?_
      refine va_get (D := D) (ci := 4) (v := .ref tr) (C := RX2) (T := TX2) (N := 9) hx hb hts inX2_keep_X2 hown hK.1 hP 0 rfl rfl 3 (by decide) (hts _ lkX2_keep_18) (fun _ h9 => h9) rfl dX2_keep_16 ?_
      refine lv_iload_n hx hb dX2_keep_19 rfl (lv_at hl 2 rfl) ?_
      refine nn_ald hx hb hK hP 1 rfl (by omega) (by decide) dX2_keep_20 ?_
      refine nn_ast hx hb hK hP hD hS 2 rfl (by omega) (by decide) dX2_keep_21 (fun H locs hP hD hS => ?_)
      have hP : va_P D vwCl [(sa, .inr (4, [.ref ra, .ref le, .ref ho, .ref tr, .ref ke, .int (nI nm), .int (nI kc), .int (nI cb), .int (nI ef)])), (tr, .inl (cA, 8, .inl (aN ftr))), (ke, .inl (cA, 8, .inl (aN (va_up x i (ftr i)))))] H := hP
      have hD : va_D A [(sa, .inr (4, [.ref ra, .ref le, .ref ho, .ref tr, .ref ke, .int (nI nm), .int (nI kc), .int (nI cb), .int (nI ef)])), (tr, .inl (cA, 8, .inl (aN ftr))), (ke, .inl (cA, 8, .inl (aN (va_up x i (ftr i)))))] := hD
      refine lv_iinc (v := (nI (i + 1))) (lv' := [(2, .int (nI (i + 1))), (0, .ref sa), (1, .int (nI co))]) hx hb dX2_keep_22 hl (k := 2) rfl (nI_add _ _) (by decide) rfl (fun ls hl => ?_)
      refine lv_goto (tgt := 2) hx hb dX2_keep_25 (by decide) ?_
      exact ih (i + 1) (kpBody ftr i x) (by omega) _ _ _ hP hD hS (lv_sub hl [1, 2, 0] rfl) kk

theorem lkX2_keep_28 : Cond.fieldLink RX2 28 "LeastChange$Search" "keptCost" "I" ∈ wsX2_keep := by decide +kernel
theorem lkX2_keep_31 : Cond.fieldLink RX2 31 "LeastChange$Search" "costBound" "I" ∈ wsX2_keep := by decide +kernel
theorem lkX2_keep_34 : Cond.fieldLink RX2 34 "LeastChange$Search" "endsWithFirst" "Z" ∈ wsX2_keep := by decide +kernel
set_option maxHeartbeats 4000000 in
set_option maxRecDepth 100000 in
theorem kX2_keep (l : Launch) (D : va_G) (cA : ClassId) (sz : Nat) (sa : Nat) (le : Nat) (ho : Nat) (tr : Nat) (ke : Nat) (ra : Nat) (ftr : Nat → Nat) (fke : Nat → Nat) (nm : Nat) (kc : Nat) (cb : Nat) (ef : Nat) (co : Nat) (hn : nm ≤ 8) (he : ef < 2) : zMv l yX2_keep wsX2_keep ({ frames := 0, cells := 0, slots := 0, locals := 0 }) D cA [.ref sa, .int (nI co)] sz [(sa, .inr (4, [.ref ra, .ref le, .ref ho, .ref tr, .ref ke, .int (nI nm), .int (nI kc), .int (nI cb), .int (nI ef)])), (tr, .inl (cA, 8, .inl (aN ftr))), (ke, .inl (cA, 8, .inl (aN fke)))] [(sa, .inr (4, [.ref ra, .ref le, .ref ho, .ref tr, .ref ke, .int (nI nm), .int (nI co), .int (nI (if ef = 0 then co else 0)), .int (nI ef)])), (tr, .inl (cA, 8, .inl (aN ftr))), (ke, .inl (cA, 8, .inl (aN (zlp (kpBody ftr) nm 0 fke))))] := by
  refine Met.ofW (cc := cX2_keep) (maxL := 3) (ret := none) (by decide) rfl ?_
  intro p e s m args below meth c s₁ B hml hv
  obtain ⟨rfl, hsz, hP, hK, hD0⟩ := hv
  have hx := B.exec
  have hb := B.bytes
  have hr := B.returns
  have hts := atoms_spec (ws := wsX2_keep) B.pre
  have hown : s.vm.findClass RX2 = some m.cls := findClass_of_methodNamed B.named
  have hlocks := B.notSynchronized
  subst hsz
  have hD := hD0.self (sz := s.heap.size)
  generalize hAe : va_A [(sa, .inr (4, [.ref ra, .ref le, .ref ho, .ref tr, .ref ke, .int (nI nm), .int (nI kc), .int (nI cb), .int (nI ef)])), (tr, .inl (cA, 8, .inl (aN ftr))), (ke, .inl (cA, 8, .inl (aN fke)))] s.heap.size = A at hD ⊢
  have hA : ∀ q : Nat, s.heap.size ≤ q → A q := fun q h => by rw [← hAe]; exact Or.inr h
  have hS : va_S A s.heap s.heap [] := va_S.rf
  have hP : va_P D vwCl [(sa, .inr (4, [.ref ra, .ref le, .ref ho, .ref tr, .ref ke, .int (nI nm), .int (nI kc), .int (nI cb), .int (nI ef)])), (tr, .inl (cA, 8, .inl (aN ftr))), (ke, .inl (cA, 8, .inl (aN fke)))] s.heap := hP
  have hl := lv_entry ([.ref sa, .int (nI co)]) (n := 3) (Nat.le_of_ble_eq_true rfl)
  rw [lg_entry_eq]
  generalize (lg_sl ([.ref sa, .int (nI co)]) ++ List.replicate (3 - (lg_sl ([.ref sa, .int (nI co)])).length) Slot.unset).toArray = ls at hl ⊢
  have hl : lv_has ls 3 [(0, .ref sa), (1, .int (nI co))] := hl
  refine lv_iconst (v := nI 0) hx hb dX2_keep_0 (by decide) ?_
  refine lv_istore_n (lv' := [(2, .int (nI 0)), (0, .ref sa), (1, .int (nI co))]) hx hb dX2_keep_1 rfl hl (by decide) rfl (fun ls hl => ?_)
  refine bX2_keep hx hb hml hown hts hK hA sa le ho tr ke ra ftr nm kc cb ef co hn  nm 0 fke (by omega) _ _ ls hP hD hS (lv_sub hl [1, 2, 0] rfl) (fun H locs ls hP hD hS hl => ?_)
  refine lv_aload_n hx hb dX2_keep_28 rfl (lv_at hl 0 rfl) ?_
  refine lv_iload_n hx hb dX2_keep_29 rfl (lv_at hl 1 rfl) ?_
  refine va_put (D := D) (ci := 4) (v := .int (nI co)) (ty := .int) (C := RX2) (T := TX2) (N := 9) hx hb hts inX2_keep_X2 tyX2 tyX2_ok nmX2 hown hK.1 hP hD hS 0 rfl rfl 6 (by decide) (hts _ lkX2_keep_28) (fun _ h9 => h9) rfl (by decide +kernel) rfl rfl (Nat.le_of_ble_eq_true rfl) dX2_keep_30 (fun H locs hP hD hS => ?_)
  have hP : va_P D vwCl [(sa, .inr (4, [.ref ra, .ref le, .ref ho, .ref tr, .ref ke, .int (nI nm), .int (nI co), .int (nI cb), .int (nI ef)])), (tr, .inl (cA, 8, .inl (aN ftr))), (ke, .inl (cA, 8, .inl (aN (zlp (kpBody ftr) nm 0 fke))))] H := hP
  have hD : va_D A [(sa, .inr (4, [.ref ra, .ref le, .ref ho, .ref tr, .ref ke, .int (nI nm), .int (nI co), .int (nI cb), .int (nI ef)])), (tr, .inl (cA, 8, .inl (aN ftr))), (ke, .inl (cA, 8, .inl (aN (zlp (kpBody ftr) nm 0 fke))))] := hD
  refine lv_aload_n hx hb dX2_keep_33 rfl (lv_at hl 0 rfl) ?_
  refine lv_aload_n hx hb dX2_keep_34 rfl (lv_at hl 0 rfl) ?_
  refine va_get (D := D) (ci := 4) (v := .int (nI ef)) (C := RX2) (T := TX2) (N := 9) hx hb hts inX2_keep_X2 hown hK.1 hP 0 rfl rfl 8 (by decide) (hts _ lkX2_keep_34) (fun _ h9 => h9) rfl dX2_keep_35 ?_
  refine nn_if_eq (tgt := 45) hx hb dX2_keep_38 (by decide) (by omega) (fun c_38 => ?_) (fun c_38 => ?_)
  · refine lv_iload_n hx hb dX2_keep_45 rfl (lv_at hl 1 rfl) ?_
    refine va_put (D := D) (ci := 4) (v := .int (nI co)) (ty := .int) (C := RX2) (T := TX2) (N := 9) hx hb hts inX2_keep_X2 tyX2 tyX2_ok nmX2 hown hK.1 hP hD hS 0 rfl rfl 7 (by decide) (hts _ lkX2_keep_31) (fun _ h9 => h9) rfl (by decide +kernel) rfl rfl (Nat.le_of_ble_eq_true rfl) dX2_keep_46 (fun H locs hP hD hS => ?_)
    have hP : va_P D vwCl [(sa, .inr (4, [.ref ra, .ref le, .ref ho, .ref tr, .ref ke, .int (nI nm), .int (nI co), .int (nI co), .int (nI ef)])), (tr, .inl (cA, 8, .inl (aN ftr))), (ke, .inl (cA, 8, .inl (aN (zlp (kpBody ftr) nm 0 fke))))] H := hP
    have hD : va_D A [(sa, .inr (4, [.ref ra, .ref le, .ref ho, .ref tr, .ref ke, .int (nI nm), .int (nI co), .int (nI co), .int (nI ef)])), (tr, .inl (cA, 8, .inl (aN ftr))), (ke, .inl (cA, 8, .inl (aN (zlp (kpBody ftr) nm 0 fke))))] := hD
    have eW : ([(sa, .inr (4, [.ref ra, .ref le, .ref ho, .ref tr, .ref ke, .int (nI nm), .int (nI co), .int (nI co), .int (nI ef)])), (tr, .inl (cA, 8, .inl (aN ftr))), (ke, .inl (cA, 8, .inl (aN (zlp (kpBody ftr) nm 0 fke))))] : va_W) = [(sa, .inr (4, [.ref ra, .ref le, .ref ho, .ref tr, .ref ke, .int (nI nm), .int (nI co), .int (nI (if ef = 0 then co else 0)), .int (nI ef)])), (tr, .inl (cA, 8, .inl (aN ftr))), (ke, .inl (cA, 8, .inl (aN (zlp (kpBody ftr) nm 0 fke))))] := by first | rw [if_pos c_38] | rw [if_neg c_38]
    rw [eW] at hP hD
    exact W.vret hx hb hr (fun t ht hW => ⟨⟨(), rfl, trivial, by rw [ht]; exact hP, hD⟩, hS.F ht⟩) hS.2.2 dX2_keep_49
  · refine lv_iconst (v := nI 0) hx hb dX2_keep_41 (by decide) ?_
    refine lv_goto (tgt := 46) hx hb dX2_keep_42 (by decide) ?_
    refine va_put (D := D) (ci := 4) (v := .int (nI 0)) (ty := .int) (C := RX2) (T := TX2) (N := 9) hx hb hts inX2_keep_X2 tyX2 tyX2_ok nmX2 hown hK.1 hP hD hS 0 rfl rfl 7 (by decide) (hts _ lkX2_keep_31) (fun _ h9 => h9) rfl (by decide +kernel) rfl rfl (Nat.le_of_ble_eq_true rfl) dX2_keep_46 (fun H locs hP hD hS => ?_)
    have hP : va_P D vwCl [(sa, .inr (4, [.ref ra, .ref le, .ref ho, .ref tr, .ref ke, .int (nI nm), .int (nI co), .int (nI 0), .int (nI ef)])), (tr, .inl (cA, 8, .inl (aN ftr))), (ke, .inl (cA, 8, .inl (aN (zlp (kpBody ftr) nm 0 fke))))] H := hP
    have hD : va_D A [(sa, .inr (4, [.ref ra, .ref le, .ref ho, .ref tr, .ref ke, .int (nI nm), .int (nI co), .int (nI 0), .int (nI ef)])), (tr, .inl (cA, 8, .inl (aN ftr))), (ke, .inl (cA, 8, .inl (aN (zlp (kpBody ftr) nm 0 fke))))] := hD
    have eW : ([(sa, .inr (4, [.ref ra, .ref le, .ref ho, .ref tr, .ref ke, .int (nI nm), .int (nI co), .int (nI 0), .int (nI ef)])), (tr, .inl (cA, 8, .inl (aN ftr))), (ke, .inl (cA, 8, .inl (aN (zlp (kpBody ftr) nm 0 fke))))] : va_W) = [(sa, .inr (4, [.ref ra, .ref le, .ref ho, .ref tr, .ref ke, .int (nI nm), .int (nI co), .int (nI (if ef = 0 then co else 0)), .int (nI ef)])), (tr, .inl (cA, 8, .inl (aN ftr))), (ke, .inl (cA, 8, .inl (aN (zlp (kpBody ftr) nm 0 fke))))] := by first | rw [if_pos c_38] | rw [if_neg c_38]
    rw [eW] at hP hD
    exact W.vret hx hb hr (fun t ht hW => ⟨⟨(), rfl, trivial, by rw [ht]; exact hP, hD⟩, hS.F ht⟩) hS.2.2 dX2_keep_49


theorem up_lt {f : Nat → Nat} {B k v : Nat} (h : ∀ j, f j < B) (hv : v < B) : ∀ j, va_up f k v j < B := fun j => by
  unfold va_up
  split
  · exact hv
  · exact h j
theorem and_lt128 {a b : Nat} (h : a < 128) : a &&& b < 128 := Nat.lt_of_le_of_lt Nat.and_le_left h
theorem lcost_le (cs h : Nat) : lcost cs h ≤ 144 := by
  unfold lcost
  repeat' split
  all_goals omega
theorem costN_le (cd h : Nat) : costN cd h ≤ 17 := by
  unfold costN
  repeat' split
  all_goals omega
theorem room_le {cb nw co : Nat} (h1 : cb < 1000000) (h2 : nw < 1000000) (h3 : co < 1000000) : (nI cb - nI nw) ≤ nI co ↔ cb ≤ co + nw := by
  rw [Int32.le_iff_toInt_le, pk_sub_toInt (by omega) (by omega), nI_toInt (by omega)]
  omega
/-- what later names may be given, narrowed, and the least that they must cost -/
def nrLoop (fbe fho : Nat → Nat) (fr to bs nw cb : Nat) : Nat → Nat → Nat → (Nat → Nat) → Nat × (Nat → Nat)
  | 0, _, co, x => (co, x)
  | k + 1, o, co, x => if co + nw < cb then nrLoop fbe fho fr to bs nw cb k (o + 1) (co + lcost ((x (fr + o)) &&& (fbe (bs + o))) (fho o)) (va_up x (to + o) ((x (fr + o)) &&& (fbe (bs + o)))) else (co, x)
theorem nrLoop_le (fbe fho : Nat → Nat) (fr to bs nw cb : Nat) : ∀ k o co x, (nrLoop fbe fho fr to bs nw cb k o co x).1 ≤ co + 144 * k := by
  intro k
  induction k with
  | zero => intro o co x; exact Nat.le_refl _
  | succ k ih =>
    intro o co x
    rw [nrLoop]
    split
    · have h1 := ih (o + 1) (co + lcost ((x (fr + o)) &&& (fbe (bs + o))) (fho o)) (va_up x (to + o) ((x (fr + o)) &&& (fbe (bs + o))))
      have h2 := lcost_le ((x (fr + o)) &&& (fbe (bs + o))) (fho o)
      omega
    · show co ≤ _
      omega
theorem nrLoop_lt (fbe fho : Nat → Nat) (fr to bs nw cb : Nat) : ∀ k o co x, (∀ j, x j < 128) → ∀ j, (nrLoop fbe fho fr to bs nw cb k o co x).2 j < 128 := by
  intro k
  induction k with
  | zero => intro o co x h; exact h
  | succ k ih =>
    intro o co x h
    rw [nrLoop]
    split
    · exact ih _ _ _ (up_lt h (and_lt128 (h _)))
    · exact h
def nrF (nm : Nat) (fbe fho : Nat → Nat) (na cd cb nw : Nat) (x : Nat → Nat) : Nat × (Nat → Nat) := nrLoop fbe fho (na * 8) (na * 8 + 8) ((na * 7 + cd) * 8 + 0) nw cb (nm - (na + 1)) (na + 1) 0 x
theorem nrF_le {nm : Nat} {fbe fho : Nat → Nat} {na cd cb nw : Nat} {x : Nat → Nat} (h : nm ≤ 8) : (nrF nm fbe fho na cd cb nw x).1 ≤ 1152 := by
  have := nrLoop_le fbe fho (na * 8) (na * 8 + 8) ((na * 7 + cd) * 8 + 0) nw cb (nm - (na + 1)) (na + 1) 0 x
  unfold nrF
  omega
theorem nrF_lt {nm : Nat} {fbe fho : Nat → Nat} {na cd cb nw : Nat} {x : Nat → Nat} (h : ∀ j, x j < 128) : ∀ j, (nrF nm fbe fho na cd cb nw x).2 j < 128 := nrLoop_lt _ _ _ _ _ _ _ _ _ _ _ h

theorem lkX2_narrowRest_11 : Cond.fieldLink RX2 11 "LeastChange$Search" "left" "[I" ∈ wsX2_narrowRest := by decide +kernel
theorem lkX2_narrowRest_15 : Cond.fieldLink RX2 15 "LeastChange$Search" "home" "[I" ∈ wsX2_narrowRest := by decide +kernel
theorem lkX2_narrowRest_24 : Cond.fieldLink RX2 24 "LeastChange$Search" "names" "I" ∈ wsX2_narrowRest := by decide +kernel
theorem lkX2_narrowRest_38 : Cond.fieldLink RX2 38 "LeastChange$Search" "rules" "LLeastChange$Rules;" ∈ wsX2_narrowRest := by decide +kernel
theorem inX2_narrowRest_X1 : ∀ w ∈ wsX10, w ∈ wsX2_narrowRest := by decide +kernel
theorem inX2_narrowRest_X2 : ∀ w ∈ wsX20, w ∈ wsX2_narrowRest := by decide +kernel
set_option maxHeartbeats 4000000 in
set_option maxRecDepth 100000 in
theorem bX2_nr {p : Program} {l : Launch} {e : Env} {R : Room} {s : State} {m : MethodId} {args : Array Value} {below : List Frame} {meth : Method} {c : Code} {Q : State → Prop} {A : Nat → Prop} {H0 : Heap} {D : va_G} {cA : ClassId} (hx : p.tables.exec = Jvm.exec) (hb : c.code = cX2_narrowRest) (hml : c.maxLocals = 10) (hown : s.vm.findClass RX2 = some m.cls) (hts : ∀ w ∈ wsX2_narrowRest, w.before args s = true) (hK : zK D cA s) (hA : ∀ q, H0.size ≤ q → A q) (sa : Nat) (le : Nat) (ho : Nat) (tr : Nat) (ke : Nat) (ra : Nat) (al : Nat) (be : Nat) (fho : Nat → Nat) (ftr : Nat → Nat) (fke : Nat → Nat) (fal : Nat → Nat) (fbe : Nat → Nat) (nm : Nat) (kc : Nat) (cbf : Nat) (ef : Nat) (na : Nat) (cd : Nat) (cb : Nat) (nw : Nat) (hn : nm ≤ 8) (hna : na < nm) (hc : cd < 7) (hcb : cb < 1000) (hnw : nw < 1000) (hho : ∀ j, fho j < 32) (hRf : 1 ≤ R.frames) (hRl : 22 ≤ R.locals)  : ∀ (k : Nat) (o : Nat) (co : Nat) (x : Nat → Nat), (o + k = nm) → (∀ j, x j < 128) → (co + 144 * k ≤ 2000) → ∀ (H : Heap) (locs : List Loc) (ls : Array Slot), va_P D vwCl [(sa, .inr (4, [.ref ra, .ref le, .ref ho, .ref tr, .ref ke, .int (nI nm), .int (nI kc), .int (nI cbf), .int (nI ef)])), (le, .inl (cA, 72, .inl (aN x))), (ho, .inl (cA, 8, .inl (aN fho))), (tr, .inl (cA, 8, .inl (aN ftr))), (ke, .inl (cA, 8, .inl (aN fke))), (ra, .inr (3, [.ref al, .ref be])), (al, .inl (cA, 8, .inl (aN fal))), (be, .inl (cA, 448, .inl (aN fbe)))] H → va_D A [(sa, .inr (4, [.ref ra, .ref le, .ref ho, .ref tr, .ref ke, .int (nI nm), .int (nI kc), .int (nI cbf), .int (nI ef)])), (le, .inl (cA, 72, .inl (aN x))), (ho, .inl (cA, 8, .inl (aN fho))), (tr, .inl (cA, 8, .inl (aN ftr))), (ke, .inl (cA, 8, .inl (aN fke))), (ra, .inr (3, [.ref al, .ref be])), (al, .inl (cA, 8, .inl (aN fal))), (be, .inl (cA, 448, .inl (aN fbe)))] → va_S A H0 H locs → lv_has ls 10 [(0, .ref sa), (1, .int (nI na)), (2, .int (nI cd)), (3, .int (nI cb - nI nw)), (4, .int (nI (na * 8))), (5, .int (nI (na * 8 + 8))), (6, .int (nI ((na * 7 + cd) * 8 + 0))), (7, .int (nI co)), (8, .int (nI o))] → (∀ (H : Heap) (locs : List Loc) (ls : Array Slot), va_P D vwCl [(sa, .inr (4, [.ref ra, .ref le, .ref ho, .ref tr, .ref ke, .int (nI nm), .int (nI kc), .int (nI cbf), .int (nI ef)])), (le, .inl (cA, 72, .inl (aN ((nrLoop fbe fho (na * 8) (na * 8 + 8) ((na * 7 + cd) * 8 + 0) nw cb k o co x).2)))), (ho, .inl (cA, 8, .inl (aN fho))), (tr, .inl (cA, 8, .inl (aN ftr))), (ke, .inl (cA, 8, .inl (aN fke))), (ra, .inr (3, [.ref al, .ref be])), (al, .inl (cA, 8, .inl (aN fal))), (be, .inl (cA, 448, .inl (aN fbe)))] H → va_D A [(sa, .inr (4, [.ref ra, .ref le, .ref ho, .ref tr, .ref ke, .int (nI nm), .int (nI kc), .int (nI cbf), .int (nI ef)])), (le, .inl (cA, 72, .inl (aN ((nrLoop fbe fho (na * 8) (na * 8 + 8) ((na * 7 + cd) * 8 + 0) nw cb k o co x).2)))), (ho, .inl (cA, 8, .inl (aN fho))), (tr, .inl (cA, 8, .inl (aN ftr))), (ke, .inl (cA, 8, .inl (aN fke))), (ra, .inr (3, [.ref al, .ref be])), (al, .inl (cA, 8, .inl (aN fal))), (be, .inl (cA, 448, .inl (aN fbe)))] → va_S A H0 H locs → lv_has ls 10 [(0, .ref sa), (7, .int (nI ((nrLoop fbe fho (na * 8) (na * 8 + 8) ((na * 7 + cd) * 8 + 0) nw cb k o co x).1)))] → W p l e R s m args below meth c H locs 0 0 Q (F0 m 105 ls [])) → W p l e R s m args below meth c H locs 0 0 Q (F0 m 29 ls []) := by
  intro k
  induction k with
  | zero =>
    intro o co x hi hx9 hco H locs ls hP hD hS hl kk
    refine lv_iload hx hb dX2_narrowRest_29 (lv_at hl 8 rfl) ?_
    refine lv_aload_n hx hb dX2_narrowRest_31 rfl (lv_at hl 0 rfl) ?_
    refine va_get (D := D) (ci := 4) (v := .int (nI nm)) (C := RX2) (T := TX2) (N := 9) hx hb hts inX2_narrowRest_X2 hown hK.1 hP 0 rfl rfl 5 (by decide) (hts _ lkX2_narrowRest_24) (fun _ h9 => h9) rfl dX2_narrowRest_32 ?_
    refine nn_icmp_ge (tgt := 105) hx hb dX2_narrowRest_35 (by decide) (by omega) (by omega) (fun c_35 => ?_) (fun c_35 => ?_)
    · exact kk _ _ _ hP hD hS (lv_sub hl [0, 7] rfl)
    · exfalso; omega
  | succ k ih =>
    intro o co x hi hx9 hco H locs ls hP hD hS hl kk
    refine lv_iload hx hb dX2_narrowRest_29 (lv_at hl 8 rfl) ?_
    refine lv_aload_n hx hb dX2_narrowRest_31 rfl (lv_at hl 0 rfl) ?_
    refine va_get (D := D) (ci := 4) (v := .int (nI nm)) (C := RX2) (T := TX2) (N := 9) hx hb hts inX2_narrowRest_X2 hown hK.1 hP 0 rfl rfl 5 (by decide) (hts _ lkX2_narrowRest_24) (fun _ h9 => h9) rfl dX2_narrowRest_32 ?_
    refine nn_icmp_ge (tgt := 105) hx hb dX2_narrowRest_35 (by decide) (by omega) (by omega) (fun c_35 => ?_) (fun c_35 => ?_)
    · exfalso; omega
    · refine lv_iload hx hb dX2_narrowRest_38 (lv_at hl 7 rfl) ?_
      refine lv_iload_n hx hb dX2_narrowRest_40 rfl (lv_at hl 3 rfl) ?_
      refine lv_icmp_ge (tgt := 105) hx hb dX2_narrowRest_41 (by decide) (fun c_41 => ?_) (fun c_41 => ?_)
      · have c_41 : cb ≤ co + nw := (room_le (by omega) (by omega) (by omega)).mp c_41
        have eN : nrLoop fbe fho (na * 8) (na * 8 + 8) ((na * 7 + cd) * 8 + 0) nw cb (k + 1) o co x = (co, x) := by rw [nrLoop]; exact if_neg (by omega)
        rw [eN] at kk
        exact kk _ _ _ hP hD hS (lv_sub hl [0, 7] rfl)
      · have c_41 : ¬ cb ≤ co + nw := fun z => c_41 ((room_le (by omega) (by omega) (by omega)).mpr z)
        refine lv_aload_n hx hb dX2_narrowRest_44 rfl (lv_at hl 0 rfl) ?_
        refine va_get (D := D) (ci := 4) (v := .ref le) (C := RX2) (T := TX2) (N := 9) hx hb hts inX2_narrowRest_X2 hown hK.1 hP 0 rfl rfl 1 (by decide) (hts _ lkX2_narrowRest_11) (fun _ h9 => h9) rfl dX2_narrowRest_45 ?_
        refine lv_iload hx hb dX2_narrowRest_48 (lv_at hl 4 rfl) ?_
        refine lv_iload hx hb dX2_narrowRest_50 (lv_at hl 8 rfl) ?_
        refine nn_iadd hx hb dX2_narrowRest_52 ?_
        refine nn_ald hx hb hK hP 1 rfl (by omega) (by decide) dX2_narrowRest_53 ?_
        refine lv_aload_n hx hb dX2_narrowRest_54 rfl (lv_at hl 0 rfl) ?_
        refine va_get (D := D) (ci := 4) (v := .ref ra) (C := RX2) (T := TX2) (N := 9) hx hb hts inX2_narrowRest_X2 hown hK.1 hP 0 rfl rfl 0 (by decide) (hts _ lkX2_narrowRest_38) (fun _ h9 => h9) rfl dX2_narrowRest_55 ?_
        refine va_getN (D := D) (ci := 3) (v := .ref be) (C := RX1) (T := TX1) (N := 2) hx hb hts inX2_narrowRest_X1 hown hK.1 hP 5 rfl rfl 1 (by decide) (va_Nw.use rfl (hK.2 _ nkX2_89)) (fun _ h9 => h9) rfl dX2_narrowRest_58 ?_
        refine lv_iload hx hb dX2_narrowRest_61 (lv_at hl 6 rfl) ?_
        refine lv_iload hx hb dX2_narrowRest_63 (lv_at hl 8 rfl) ?_
        refine nn_iadd hx hb dX2_narrowRest_65 ?_
        refine nn_ald hx hb hK hP 7 rfl (by omega) (by decide) dX2_narrowRest_66 ?_
        refine nn_iand hx hb dX2_narrowRest_67 ?_
        refine lv_istore (lv' := [(9, .int (nI ((x ((na * 8) + o)) &&& (fbe (((na * 7 + cd) * 8 + 0) + o))))), (0, .ref sa), (1, .int (nI na)), (2, .int (nI cd)), (3, .int (nI cb - nI nw)), (4, .int (nI (na * 8))), (5, .int (nI (na * 8 + 8))), (6, .int (nI ((na * 7 + cd) * 8 + 0))), (7, .int (nI co)), (8, .int (nI o))]) hx hb dX2_narrowRest_68 hl (by decide) rfl (fun ls hl => ?_)
        refine lv_aload_n hx hb dX2_narrowRest_70 rfl (lv_at hl 1 rfl) ?_
        refine va_get (D := D) (ci := 4) (v := .ref le) (C := RX2) (T := TX2) (N := 9) hx hb hts inX2_narrowRest_X2 hown hK.1 hP 0 rfl rfl 1 (by decide) (hts _ lkX2_narrowRest_11) (fun _ h9 => h9) rfl dX2_narrowRest_71 ?_
        refine lv_iload hx hb dX2_narrowRest_74 (lv_at hl 6 rfl) ?_
        refine lv_iload hx hb dX2_narrowRest_76 (lv_at hl 9 rfl) ?_
        refine nn_iadd hx hb dX2_narrowRest_78 ?_
        refine lv_iload hx hb dX2_narrowRest_79 (lv_at hl 0 rfl) ?_
        refine nn_ast hx hb hK hP hD hS 1 rfl (by omega) (by decide) dX2_narrowRest_81 (fun H locs hP hD hS => ?_)
        have hP : va_P D vwCl [(sa, .inr (4, [.ref ra, .ref le, .ref ho, .ref tr, .ref ke, .int (nI nm), .int (nI kc), .int (nI cbf), .int (nI ef)])), (le, .inl (cA, 72, .inl (aN (va_up x ((na * 8 + 8) + o) ((x ((na * 8) + o)) &&& (fbe (((na * 7 + cd) * 8 + 0) + o))))))), (ho, .inl (cA, 8, .inl (aN fho))), (tr, .inl (cA, 8, .inl (aN ftr))), (ke, .inl (cA, 8, .inl (aN fke))), (ra, .inr (3, [.ref al, .ref be])), (al, .inl (cA, 8, .inl (aN fal))), (be, .inl (cA, 448, .inl (aN fbe)))] H := hP
        have hD : va_D A [(sa, .inr (4, [.ref ra, .ref le, .ref ho, .ref tr, .ref ke, .int (nI nm), .int (nI kc), .int (nI cbf), .int (nI ef)])), (le, .inl (cA, 72, .inl (aN (va_up x ((na * 8 + 8) + o) ((x ((na * 8) + o)) &&& (fbe (((na * 7 + cd) * 8 + 0) + o))))))), (ho, .inl (cA, 8, .inl (aN fho))), (tr, .inl (cA, 8, .inl (aN ftr))), (ke, .inl (cA, 8, .inl (aN fke))), (ra, .inr (3, [.ref al, .ref be])), (al, .inl (cA, 8, .inl (aN fal))), (be, .inl (cA, 448, .inl (aN fbe)))] := hD
        refine lv_iload hx hb dX2_narrowRest_82 (lv_at hl 8 rfl) ?_
        refine lv_iload hx hb dX2_narrowRest_84 (lv_at hl 0 rfl) ?_
        refine lv_aload_n hx hb dX2_narrowRest_86 rfl (lv_at hl 1 rfl) ?_
        refine va_get (D := D) (ci := 4) (v := .ref ho) (C := RX2) (T := TX2) (N := 9) hx hb hts inX2_narrowRest_X2 hown hK.1 hP 0 rfl rfl 2 (by decide) (hts _ lkX2_narrowRest_15) (fun _ h9 => h9) rfl dX2_narrowRest_87 ?_
        refine lv_iload hx hb dX2_narrowRest_90 (lv_at hl 9 rfl) ?_
        refine nn_ald hx hb hK hP 2 rfl (by omega) (by decide) dX2_narrowRest_92 ?_
        refine zz_callI (av := []) (wc := []) (wr := [(sa, .inr (4, [.ref ra, .ref le, .ref ho, .ref tr, .ref ke, .int (nI nm), .int (nI kc), .int (nI cbf), .int (nI ef)])), (le, .inl (cA, 72, .inl (aN (va_up x ((na * 8 + 8) + o) ((x ((na * 8) + o)) &&& (fbe (((na * 7 + cd) * 8 + 0) + o))))))), (ho, .inl (cA, 8, .inl (aN fho))), (tr, .inl (cA, 8, .inl (aN ftr))), (ke, .inl (cA, 8, .inl (aN fke))), (ra, .inr (3, [.ref al, .ref be])), (al, .inl (cA, 8, .inl (aN fal))), (be, .inl (cA, 448, .inl (aN fbe)))]) hS hA hP hD [] [0, 1, 2, 3, 4, 5, 6, 7] rfl rfl (by decide) (by decide) (va_runS (As := [.int (nI ((x ((na * 8) + o)) &&& (fbe (((na * 7 + cd) * 8 + 0) + o)))), .int (nI (fho o))]) (rest := [.int (nI co)]) ⟨hx, hb, hml, hown, hts⟩ (kX2_leastCostOf l D cA H.size ((x ((na * 8) + o)) &&& (fbe (((na * 7 + cd) * 8 + 0) + o))) (fho o) (Nat.lt_trans (and_lt128 (hx9 _)) (by decide)) (hho _)) (va_cwS 2 hts gX2_narrowRest_X2_leastCostOf rfl rfl rfl (by decide +kernel) ⟨Nat.le_trans (by decide) hRf, Nat.le_trans (by decide) hRl⟩) (zPreS (av := [.int (nI ((x ((na * 8) + o)) &&& (fbe (((na * 7 + cd) * 8 + 0) + o)))), .int (nI (fho o))]) (wc := []) hK hP hD [] rfl (by decide) rfl) rfl rfl hl.1 rfl (lv_room (Nat.le_of_ble_eq_true rfl)) dX2_narrowRest_93 ⟨Nat.zero_le _, Nat.zero_le _⟩) (fun H locs hP hD hS => ?_)
        have hP : va_P D vwCl [(sa, .inr (4, [.ref ra, .ref le, .ref ho, .ref tr, .ref ke, .int (nI nm), .int (nI kc), .int (nI cbf), .int (nI ef)])), (le, .inl (cA, 72, .inl (aN (va_up x ((na * 8 + 8) + o) ((x ((na * 8) + o)) &&& (fbe (((na * 7 + cd) * 8 + 0) + o))))))), (ho, .inl (cA, 8, .inl (aN fho))), (tr, .inl (cA, 8, .inl (aN ftr))), (ke, .inl (cA, 8, .inl (aN fke))), (ra, .inr (3, [.ref al, .ref be])), (al, .inl (cA, 8, .inl (aN fal))), (be, .inl (cA, 448, .inl (aN fbe)))] H := hP
        have hD : va_D A [(sa, .inr (4, [.ref ra, .ref le, .ref ho, .ref tr, .ref ke, .int (nI nm), .int (nI kc), .int (nI cbf), .int (nI ef)])), (le, .inl (cA, 72, .inl (aN (va_up x ((na * 8 + 8) + o) ((x ((na * 8) + o)) &&& (fbe (((na * 7 + cd) * 8 + 0) + o))))))), (ho, .inl (cA, 8, .inl (aN fho))), (tr, .inl (cA, 8, .inl (aN ftr))), (ke, .inl (cA, 8, .inl (aN fke))), (ra, .inr (3, [.ref al, .ref be])), (al, .inl (cA, 8, .inl (aN fal))), (be, .inl (cA, 448, .inl (aN fbe)))] := hD
        refine nn_iadd hx hb dX2_narrowRest_96 ?_
        refine lv_istore (lv' := [(7, .int (nI (co + (lcost ((x ((na * 8) + o)) &&& (fbe (((na * 7 + cd) * 8 + 0) + o))) (fho o))))), (9, .int (nI ((x ((na * 8) + o)) &&& (fbe (((na * 7 + cd) * 8 + 0) + o))))), (0, .ref sa), (1, .int (nI na)), (2, .int (nI cd)), (3, .int (nI cb - nI nw)), (4, .int (nI (na * 8))), (5, .int (nI (na * 8 + 8))), (6, .int (nI ((na * 7 + cd) * 8 + 0))), (8, .int (nI o))]) hx hb dX2_narrowRest_97 hl (by decide) rfl (fun ls hl => ?_)
        refine lv_iinc (v := (nI (o + 1))) (lv' := [(8, .int (nI (o + 1))), (7, .int (nI (co + (lcost ((x ((na * 8) + o)) &&& (fbe (((na * 7 + cd) * 8 + 0) + o))) (fho o))))), (9, .int (nI ((x ((na * 8) + o)) &&& (fbe (((na * 7 + cd) * 8 + 0) + o))))), (0, .ref sa), (1, .int (nI na)), (2, .int (nI cd)), (3, .int (nI cb - nI nw)), (4, .int (nI (na * 8))), (5, .int (nI (na * 8 + 8))), (6, .int (nI ((na * 7 + cd) * 8 + 0)))]) hx hb dX2_narrowRest_99 hl (k := 9) rfl (nI_add _ _) (by decide) rfl (fun ls hl => ?_)
        refine lv_goto (tgt := 29) hx hb dX2_narrowRest_102 (by decide) ?_
        have eN : nrLoop fbe fho (na * 8) (na * 8 + 8) ((na * 7 + cd) * 8 + 0) nw cb (k + 1) o co x = nrLoop fbe fho (na * 8) (na * 8 + 8) ((na * 7 + cd) * 8 + 0) nw cb k (o + 1) (co + lcost ((x ((na * 8) + o)) &&& (fbe (((na * 7 + cd) * 8 + 0) + o))) (fho o)) (va_up x ((na * 8 + 8) + o) ((x ((na * 8) + o)) &&& (fbe (((na * 7 + cd) * 8 + 0) + o)))) := by rw [nrLoop]; exact if_pos (by omega)
        rw [eN] at kk
        have hlc := lcost_le ((x ((na * 8) + o)) &&& (fbe (((na * 7 + cd) * 8 + 0) + o))) (fho o)
        exact ih (o + 1) (co + (lcost ((x ((na * 8) + o)) &&& (fbe (((na * 7 + cd) * 8 + 0) + o))) (fho o))) (va_up x ((na * 8 + 8) + o) ((x ((na * 8) + o)) &&& (fbe (((na * 7 + cd) * 8 + 0) + o)))) (by omega) (up_lt hx9 (and_lt128 (hx9 _))) (by omega) _ _ _ hP hD hS (lv_sub hl [3, 4, 5, 6, 7, 8, 9, 1, 0] rfl) kk

theorem iniX2_narrowRest_X1 : Cond.initialized RX1 ∈ wsX2_narrowRest := by decide +kernel
theorem stX2_narrowRest_X1_place : Cond.static yX1_place ∈ wsX2_narrowRest := by decide +kernel
set_option maxHeartbeats 4000000 in
set_option maxRecDepth 100000 in
theorem kX2_narrowRest (l : Launch) (D : va_G) (cA : ClassId) (sz : Nat) (sa : Nat) (le : Nat) (ho : Nat) (tr : Nat) (ke : Nat) (ra : Nat) (al : Nat) (be : Nat) (fle : Nat → Nat) (fho : Nat → Nat) (ftr : Nat → Nat) (fke : Nat → Nat) (fal : Nat → Nat) (fbe : Nat → Nat) (nm : Nat) (kc : Nat) (cbf : Nat) (ef : Nat) (na : Nat) (cd : Nat) (cb : Nat) (nw : Nat) (hn : nm ≤ 8) (hna : na < nm) (hc : cd < 7) (hcb : cb < 1000) (hnw : nw < 1000) (hho : ∀ j, fho j < 32) (hle : ∀ j, fle j < 128) : zMi l yX2_narrowRest wsX2_narrowRest ({ frames := 1, cells := 0, slots := 0, locals := 22 }) D cA [.ref sa, .int (nI na), .int (nI cd), .int (nI cb - nI nw)] sz [(sa, .inr (4, [.ref ra, .ref le, .ref ho, .ref tr, .ref ke, .int (nI nm), .int (nI kc), .int (nI cbf), .int (nI ef)])), (le, .inl (cA, 72, .inl (aN fle))), (ho, .inl (cA, 8, .inl (aN fho))), (tr, .inl (cA, 8, .inl (aN ftr))), (ke, .inl (cA, 8, .inl (aN fke))), (ra, .inr (3, [.ref al, .ref be])), (al, .inl (cA, 8, .inl (aN fal))), (be, .inl (cA, 448, .inl (aN fbe)))] [(sa, .inr (4, [.ref ra, .ref le, .ref ho, .ref tr, .ref ke, .int (nI nm), .int (nI kc), .int (nI cbf), .int (nI ef)])), (le, .inl (cA, 72, .inl (aN ((nrF nm fbe fho na cd cb nw fle).2)))), (ho, .inl (cA, 8, .inl (aN fho))), (tr, .inl (cA, 8, .inl (aN ftr))), (ke, .inl (cA, 8, .inl (aN fke))), (ra, .inr (3, [.ref al, .ref be])), (al, .inl (cA, 8, .inl (aN fal))), (be, .inl (cA, 448, .inl (aN fbe)))] (nI ((nrF nm fbe fho na cd cb nw fle).1)) := by
  refine Met.ofW (cc := cX2_narrowRest) (maxL := 10) (ret := (some .int)) (by decide) rfl ?_
  intro p e s m args below meth c s₁ B hml hv
  obtain ⟨rfl, hsz, hP, hK, hD0⟩ := hv
  have hx := B.exec
  have hb := B.bytes
  have hr := B.returns
  have hts := atoms_spec (ws := wsX2_narrowRest) B.pre
  have hown : s.vm.findClass RX2 = some m.cls := findClass_of_methodNamed B.named
  have hlocks := B.notSynchronized
  subst hsz
  have hD := hD0.self (sz := s.heap.size)
  generalize hAe : va_A [(sa, .inr (4, [.ref ra, .ref le, .ref ho, .ref tr, .ref ke, .int (nI nm), .int (nI kc), .int (nI cbf), .int (nI ef)])), (le, .inl (cA, 72, .inl (aN fle))), (ho, .inl (cA, 8, .inl (aN fho))), (tr, .inl (cA, 8, .inl (aN ftr))), (ke, .inl (cA, 8, .inl (aN fke))), (ra, .inr (3, [.ref al, .ref be])), (al, .inl (cA, 8, .inl (aN fal))), (be, .inl (cA, 448, .inl (aN fbe)))] s.heap.size = A at hD ⊢
  have hA : ∀ q : Nat, s.heap.size ≤ q → A q := fun q h => by rw [← hAe]; exact Or.inr h
  have hS : va_S A s.heap s.heap [] := va_S.rf
  have hP : va_P D vwCl [(sa, .inr (4, [.ref ra, .ref le, .ref ho, .ref tr, .ref ke, .int (nI nm), .int (nI kc), .int (nI cbf), .int (nI ef)])), (le, .inl (cA, 72, .inl (aN fle))), (ho, .inl (cA, 8, .inl (aN fho))), (tr, .inl (cA, 8, .inl (aN ftr))), (ke, .inl (cA, 8, .inl (aN fke))), (ra, .inr (3, [.ref al, .ref be])), (al, .inl (cA, 8, .inl (aN fal))), (be, .inl (cA, 448, .inl (aN fbe)))] s.heap := hP
  have hl := lv_entry ([.ref sa, .int (nI na), .int (nI cd), .int (nI cb - nI nw)]) (n := 10) (Nat.le_of_ble_eq_true rfl)
  rw [lg_entry_eq]
  generalize (lg_sl ([.ref sa, .int (nI na), .int (nI cd), .int (nI cb - nI nw)]) ++ List.replicate (10 - (lg_sl ([.ref sa, .int (nI na), .int (nI cd), .int (nI cb - nI nw)])).length) Slot.unset).toArray = ls at hl ⊢
  have hl : lv_has ls 10 [(0, .ref sa), (1, .int (nI na)), (2, .int (nI cd)), (3, .int (nI cb - nI nw))] := hl
  refine lv_iload_n hx hb dX2_narrowRest_0 rfl (lv_at hl 1 rfl) ?_
  refine lv_bipush (v := nI 8) hx hb dX2_narrowRest_1 (by decide) ?_
  refine nn_imul hx hb dX2_narrowRest_3 ?_
  refine lv_istore (lv' := [(4, .int (nI (na * 8))), (0, .ref sa), (1, .int (nI na)), (2, .int (nI cd)), (3, .int (nI cb - nI nw))]) hx hb dX2_narrowRest_4 hl (by decide) rfl (fun ls hl => ?_)
  refine lv_iload hx hb dX2_narrowRest_6 (lv_at hl 0 rfl) ?_
  refine lv_bipush (v := nI 8) hx hb dX2_narrowRest_8 (by decide) ?_
  refine nn_iadd hx hb dX2_narrowRest_10 ?_
  refine lv_istore (lv' := [(5, .int (nI ((na * 8) + 8))), (4, .int (nI (na * 8))), (0, .ref sa), (1, .int (nI na)), (2, .int (nI cd)), (3, .int (nI cb - nI nw))]) hx hb dX2_narrowRest_11 hl (by decide) rfl (fun ls hl => ?_)
  refine lv_iload_n hx hb dX2_narrowRest_13 rfl (lv_at hl 3 rfl) ?_
  refine lv_iload_n hx hb dX2_narrowRest_14 rfl (lv_at hl 4 rfl) ?_
  refine lv_iconst (v := nI 0) hx hb dX2_narrowRest_15 (by decide) ?_
  refine zz_callI (av := []) (wc := []) (wr := [(sa, .inr (4, [.ref ra, .ref le, .ref ho, .ref tr, .ref ke, .int (nI nm), .int (nI kc), .int (nI cbf), .int (nI ef)])), (le, .inl (cA, 72, .inl (aN fle))), (ho, .inl (cA, 8, .inl (aN fho))), (tr, .inl (cA, 8, .inl (aN ftr))), (ke, .inl (cA, 8, .inl (aN fke))), (ra, .inr (3, [.ref al, .ref be])), (al, .inl (cA, 8, .inl (aN fal))), (be, .inl (cA, 448, .inl (aN fbe)))]) hS hA hP hD [] [0, 1, 2, 3, 4, 5, 6, 7] rfl rfl (by decide) (by decide) (va_runSN (As := [.int (nI na), .int (nI cd), .int (nI 0)]) (rest := []) ⟨hx, hb, hml, hown, hts⟩ (kX1_place l D cA s.heap.size na cd 0 ) ⟨va_cnB 3 hts gX2_narrowRest_X1_place_n83 rfl rfl rfl (hK.2 _ nkX2_83) (hts _ iniX2_narrowRest_X1) (by decide +kernel) ⟨Nat.le_of_ble_eq_true rfl, Nat.le_of_ble_eq_true rfl⟩, hts _ stX2_narrowRest_X1_place, trivial⟩ (zPreS (av := [.int (nI na), .int (nI cd), .int (nI 0)]) (wc := []) hK hP hD [] rfl (by decide) rfl) rfl rfl hl.1 rfl (lv_room (Nat.le_of_ble_eq_true rfl)) dX2_narrowRest_16 ⟨Nat.zero_le _, Nat.zero_le _⟩) (fun H locs hP hD hS => ?_)
  have hP : va_P D vwCl [(sa, .inr (4, [.ref ra, .ref le, .ref ho, .ref tr, .ref ke, .int (nI nm), .int (nI kc), .int (nI cbf), .int (nI ef)])), (le, .inl (cA, 72, .inl (aN fle))), (ho, .inl (cA, 8, .inl (aN fho))), (tr, .inl (cA, 8, .inl (aN ftr))), (ke, .inl (cA, 8, .inl (aN fke))), (ra, .inr (3, [.ref al, .ref be])), (al, .inl (cA, 8, .inl (aN fal))), (be, .inl (cA, 448, .inl (aN fbe)))] H := hP
  have hD : va_D A [(sa, .inr (4, [.ref ra, .ref le, .ref ho, .ref tr, .ref ke, .int (nI nm), .int (nI kc), .int (nI cbf), .int (nI ef)])), (le, .inl (cA, 72, .inl (aN fle))), (ho, .inl (cA, 8, .inl (aN fho))), (tr, .inl (cA, 8, .inl (aN ftr))), (ke, .inl (cA, 8, .inl (aN fke))), (ra, .inr (3, [.ref al, .ref be])), (al, .inl (cA, 8, .inl (aN fal))), (be, .inl (cA, 448, .inl (aN fbe)))] := hD
  refine lv_istore (lv' := [(6, .int (nI ((na * 7 + cd) * 8 + 0))), (5, .int (nI ((na * 8) + 8))), (4, .int (nI (na * 8))), (0, .ref sa), (1, .int (nI na)), (2, .int (nI cd)), (3, .int (nI cb - nI nw))]) hx hb dX2_narrowRest_19 hl (by decide) rfl (fun ls hl => ?_)
  refine lv_iconst (v := nI 0) hx hb dX2_narrowRest_21 (by decide) ?_
  refine lv_istore (lv' := [(7, .int (nI 0)), (6, .int (nI ((na * 7 + cd) * 8 + 0))), (5, .int (nI ((na * 8) + 8))), (4, .int (nI (na * 8))), (0, .ref sa), (1, .int (nI na)), (2, .int (nI cd)), (3, .int (nI cb - nI nw))]) hx hb dX2_narrowRest_22 hl (by decide) rfl (fun ls hl => ?_)
  refine lv_iload_n hx hb dX2_narrowRest_24 rfl (lv_at hl 5 rfl) ?_
  refine lv_iconst (v := nI 1) hx hb dX2_narrowRest_25 (by decide) ?_
  refine nn_iadd hx hb dX2_narrowRest_26 ?_
  refine lv_istore (lv' := [(8, .int (nI (na + 1))), (7, .int (nI 0)), (6, .int (nI ((na * 7 + cd) * 8 + 0))), (5, .int (nI ((na * 8) + 8))), (4, .int (nI (na * 8))), (0, .ref sa), (1, .int (nI na)), (2, .int (nI cd)), (3, .int (nI cb - nI nw))]) hx hb dX2_narrowRest_27 hl (by decide) rfl (fun ls hl => ?_)
  refine bX2_nr hx hb hml hown hts hK hA sa le ho tr ke ra al be fho ftr fke fal fbe nm kc cbf ef na cd cb nw hn hna hc hcb hnw hho (Nat.le_of_ble_eq_true rfl) (Nat.le_of_ble_eq_true rfl) (nm - (na + 1)) (na + 1) 0 fle (by omega) hle (by omega) _ _ ls hP hD hS (lv_sub hl [5, 6, 7, 8, 4, 3, 2, 1, 0] rfl) (fun H locs ls hP hD hS hl => ?_)
  refine lv_iload hx hb dX2_narrowRest_105 (lv_at hl 1 rfl) ?_
  have eW : ([(sa, .inr (4, [.ref ra, .ref le, .ref ho, .ref tr, .ref ke, .int (nI nm), .int (nI kc), .int (nI cbf), .int (nI ef)])), (le, .inl (cA, 72, .inl (aN ((nrLoop fbe fho (na * 8) (na * 8 + 8) ((na * 7 + cd) * 8 + 0) nw cb (nm - (na + 1)) (na + 1) 0 fle).2)))), (ho, .inl (cA, 8, .inl (aN fho))), (tr, .inl (cA, 8, .inl (aN ftr))), (ke, .inl (cA, 8, .inl (aN fke))), (ra, .inr (3, [.ref al, .ref be])), (al, .inl (cA, 8, .inl (aN fal))), (be, .inl (cA, 448, .inl (aN fbe)))] : va_W) = [(sa, .inr (4, [.ref ra, .ref le, .ref ho, .ref tr, .ref ke, .int (nI nm), .int (nI kc), .int (nI cbf), .int (nI ef)])), (le, .inl (cA, 72, .inl (aN ((nrF nm fbe fho na cd cb nw fle).2)))), (ho, .inl (cA, 8, .inl (aN fho))), (tr, .inl (cA, 8, .inl (aN ftr))), (ke, .inl (cA, 8, .inl (aN fke))), (ra, .inr (3, [.ref al, .ref be])), (al, .inl (cA, 8, .inl (aN fal))), (be, .inl (cA, 448, .inl (aN fbe)))] := by rfl
  rw [eW] at hP hD
  exact W.iret (v := (nI ((nrLoop fbe fho (na * 8) (na * 8 + 8) ((na * 7 + cd) * 8 + 0) nw cb (nm - (na + 1)) (na + 1) 0 fle).1))) hx hb hr (fun t ht hW => ⟨⟨(nI ((nrLoop fbe fho (na * 8) (na * 8 + 8) ((na * 7 + cd) * 8 + 0) nw cb (nm - (na + 1)) (na + 1) 0 fle).1)), (), rfl, (by rfl), by rw [ht]; exact hP, hD⟩, hS.F ht⟩) hS.2.2 dX2_narrowRest_107

