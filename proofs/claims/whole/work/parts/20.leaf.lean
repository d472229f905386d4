theorem nkX3_11 : Cond.methodLinkNest RX3 11 yX1_init "LeastChange" ∈ zNest := List.mem_of_getElem? (i := 0) rfl
theorem nkX2_46 : Cond.fieldLinkNest RX2 46 "LeastChange$Rules" "alone" "[I" "LeastChange" ∈ zNest := List.mem_of_getElem? (i := 1) rfl
theorem nkX2_89 : Cond.fieldLinkNest RX2 89 "LeastChange$Rules" "beside" "[I" "LeastChange" ∈ zNest := List.mem_of_getElem? (i := 2) rfl
theorem nkX3_18 : Cond.methodLinkNest RX3 18 yX2_init "LeastChange" ∈ zNest := List.mem_of_getElem? (i := 3) rfl
theorem nkX3_27 : Cond.methodLinkNest RX3 27 yX0_init "LeastChange" ∈ zNest := List.mem_of_getElem? (i := 4) rfl
theorem nkX3_107 : Cond.fieldLinkNest RX3 107 "LeastChange$Found" "codes" "[I" "LeastChange" ∈ zNest := List.mem_of_getElem? (i := 5) rfl
theorem nkX3_119 : Cond.fieldLinkNest RX3 119 "LeastChange$Found" "given" "I" "LeastChange" ∈ zNest := List.mem_of_getElem? (i := 6) rfl
theorem nkX3_128 : Cond.fieldLinkNest RX3 128 "LeastChange$Found" "changed" "I" "LeastChange" ∈ zNest := List.mem_of_getElem? (i := 7) rfl
theorem nkX3_113 : Cond.fieldLinkNest RX3 113 "LeastChange$Found" "down" "I" "LeastChange" ∈ zNest := List.mem_of_getElem? (i := 8) rfl
theorem nkX3_59 : Cond.methodLinkNest RX3 59 yX1_open "LeastChange" ∈ zNest := List.mem_of_getElem? (i := 9) rfl
theorem nkX3_71 : Cond.methodLinkNest RX3 71 yX1_tie "LeastChange" ∈ zNest := List.mem_of_getElem? (i := 10) rfl
theorem nkX3_148 : Cond.methodLinkNest RX3 148 yX1_narrow "LeastChange" ∈ zNest := List.mem_of_getElem? (i := 11) rfl
theorem nkX3_83 : Cond.methodLinkNest RX3 83 yX2_findBest "LeastChange" ∈ zNest := List.mem_of_getElem? (i := 12) rfl
theorem nkX2_95 : Cond.methodLinkNest RX2 95 yX3_isChanged "LeastChange" ∈ zNest := List.mem_of_getElem? (i := 13) rfl
theorem nkX2_75 : Cond.methodLinkNest RX2 75 yX3_isDown "LeastChange" ∈ zNest := List.mem_of_getElem? (i := 14) rfl
theorem nkX2_83 : Cond.methodLinkNest RX2 83 yX1_place "LeastChange" ∈ zNest := List.mem_of_getElem? (i := 15) rfl
theorem nkX3_87 : Cond.methodLinkNest RX3 87 yX2_changedCount "LeastChange" ∈ zNest := List.mem_of_getElem? (i := 16) rfl
theorem nkX3_100 : Cond.methodLinkNest RX3 100 yX2_findFirst "LeastChange" ∈ zNest := List.mem_of_getElem? (i := 17) rfl
theorem nkX3_103 : Cond.methodLinkNest RX3 103 yX0_keep "LeastChange" ∈ zNest := List.mem_of_getElem? (i := 18) rfl
theorem nkX0_25 : Cond.methodLinkNest RX0 25 yX2_keptCode "LeastChange" ∈ zNest := List.mem_of_getElem? (i := 19) rfl
theorem nkX0_31 : Cond.methodLinkNest RX0 31 yX3_isChanged "LeastChange" ∈ zNest := List.mem_of_getElem? (i := 20) rfl
theorem nkX0_35 : Cond.methodLinkNest RX0 35 yX3_isDown "LeastChange" ∈ zNest := List.mem_of_getElem? (i := 21) rfl

/-- six bits of a set -/
def lo6 (d : Int64) : Nat := d.toBitVec.toNat % 64
theorem lo6_lt (d : Int64) : lo6 d < 64 := Nat.mod_lt _ (by decide)
theorem even_and : ∀ y, y < 64 → 2 * y &&& 4294967294 = 2 * y := by decide +kernel
theorem csOf_eq (d : Int64) : ((d <<< ((nI 1).toInt64 &&& 63)).toInt32 &&& nI 127) &&& (-2) = nI (2 * lo6 d) := by
  have h1 : (d <<< ((nI 1).toInt64 &&& 63)).toInt32 = nI (2 * d.toBitVec.toNat) := by
    apply i32_ext
    apply BitVec.eq_of_toNat_eq
    rw [nI_bv, BitVec.toNat_ofNat]
    have : (d <<< ((nI 1).toInt64 &&& 63)) = d <<< (1 : Int64) := rfl
    rw [this, Int64.toBitVec_toInt32, BitVec.signExtend_eq_setWidth_of_le _ (by decide), BitVec.toNat_setWidth, Int64.toBitVec_shiftLeft]
    have h2 : ((1 : Int64).toBitVec.smod 64) = 1#64 := by decide
    rw [h2]
    rw [BitVec.shiftLeft_eq', BitVec.toNat_shiftLeft, Nat.shiftLeft_eq]
    have h3 : (1#64).toNat = 1 := rfl
    rw [h3]
    omega
  rw [h1, nI_and, show (-2 : Int32) = nI 4294967294 from rfl, nI_and]
  congr 1
  have h4 : 2 * d.toBitVec.toNat &&& 127 = 2 * lo6 d := by
    rw [show (127 : Nat) = 2 ^ 7 - 1 from rfl, Nat.and_two_pow_sub_one_eq_mod]
    unfold lo6
    omega
  rw [h4]
  exact even_and _ (lo6_lt d)
def dgN (n v : Int32) : Int64 := ((n + nI 1).toInt64 * 1000003 + v.toInt64 + 1) * 2654435761
def costN (c h : Nat) : Nat := (if c = h then 0 else 16) + (if c ≠ 0 ∧ c < h then 1 else 0)
def lcost (cs h : Nat) : Nat := if cs = 0 then 144 else if (cs >>> h) &&& 1 = 0 then (if cs &&& 1 = 0 ∧ cs >>> h = 0 then 17 else 16) else 0
theorem shr_le (a k : Nat) : a >>> k ≤ a := by rw [Nat.shiftRight_eq_div_pow]; exact Nat.div_le_self _ _
theorem and1_lt (a : Nat) : a &&& 1 < 2147483648 := Nat.lt_of_le_of_lt Nat.and_le_right (by decide)
theorem if01_lt {P : Prop} [Decidable P] : (if P then 1 else 0 : Nat) < 2147483648 := by split <;> decide
theorem if01_eq {P : Prop} [Decidable P] (h : (if P then 1 else 0 : Nat) = 0) : ¬ P := fun q => by rw [if_pos q] at h; exact absurd h (by decide)
theorem if01_ne {P : Prop} [Decidable P] (h : ¬ (if P then 1 else 0 : Nat) = 0) : P := Classical.byContradiction fun q => h (if_neg q)
theorem if10_eq {P : Prop} [Decidable P] (h : (if P then 0 else 1 : Nat) = 0) : P := Classical.byContradiction fun q => by rw [if_neg q] at h; exact absurd h (by decide)
theorem if10_ne {P : Prop} [Decidable P] (h : ¬ (if P then 0 else 1 : Nat) = 0) : ¬ P := fun q => h (if_pos q)
theorem if10_lt {P : Prop} [Decidable P] : (if P then 0 else 1 : Nat) < 2147483648 := by split <;> decide

set_option maxHeartbeats 4000000 in
set_option maxRecDepth 100000 in
theorem kX3_isChanged (l : Launch) (D : va_G) (cA : ClassId) (sz : Nat) (cd : Nat) (hm : Nat) (hc : cd < 2147483648) (hh : hm < 2147483648) : zMi l yX3_isChanged wsX3_isChanged ({ frames := 0, cells := 0, slots := 0, locals := 0 }) D cA [.int (nI cd), .int (nI hm)] sz [] [] (nI (if cd = hm then 0 else 1)) := by
  refine Met.ofW (cc := cX3_isChanged) (maxL := 2) (ret := (some .boolean)) (by decide) rfl ?_
  intro p e s m args below meth c s₁ B hml hv
  obtain ⟨rfl, hsz, hP, hK, hD0⟩ := hv
  have hx := B.exec
  have hb := B.bytes
  have hr := B.returns
  have hts := atoms_spec (ws := wsX3_isChanged) B.pre
  have hown : s.vm.findClass RX3 = some m.cls := findClass_of_methodNamed B.named
  have hlocks := B.notSynchronized
  subst hsz
  have hD := hD0.self (sz := s.heap.size)
  generalize hAe : va_A [] s.heap.size = A at hD ⊢
  have hA : ∀ q : Nat, s.heap.size ≤ q → A q := fun q h => by rw [← hAe]; exact Or.inr h
  have hS : va_S A s.heap s.heap [] := va_S.rf
  have hP : va_P D vwCl [] s.heap := hP
  have hl := lv_entry ([.int (nI cd), .int (nI hm)]) (n := 2) (Nat.le_of_ble_eq_true rfl)
  rw [lg_entry_eq]
  generalize (lg_sl ([.int (nI cd), .int (nI hm)]) ++ List.replicate (2 - (lg_sl ([.int (nI cd), .int (nI hm)])).length) Slot.unset).toArray = ls at hl ⊢
  have hl : lv_has ls 2 [(0, .int (nI cd)), (1, .int (nI hm))] := hl
  refine lv_iload_n hx hb dX3_isChanged_0 rfl (lv_at hl 0 rfl) ?_
  refine lv_iload_n hx hb dX3_isChanged_1 rfl (lv_at hl 1 rfl) ?_
  refine nn_icmp_eq (tgt := 9) hx hb dX3_isChanged_2 (by decide) (by omega) (by omega) (fun c_2 => ?_) (fun c_2 => ?_)
  · refine lv_iconst (v := nI 0) hx hb dX3_isChanged_9 (by decide) ?_
    exact W.zret (v := (nI 0)) hx hb hr rfl (fun t ht hW => ⟨⟨(nI 0), (), rfl, (by simp [*]), by rw [ht]; exact hP, hD⟩, hS.F ht⟩) hS.2.2 dX3_isChanged_10
  · refine lv_iconst (v := nI 1) hx hb dX3_isChanged_5 (by decide) ?_
    refine lv_goto (tgt := 10) hx hb dX3_isChanged_6 (by decide) ?_
    exact W.zret (v := (nI 1)) hx hb hr rfl (fun t ht hW => ⟨⟨(nI 1), (), rfl, (by simp [*]), by rw [ht]; exact hP, hD⟩, hS.F ht⟩) hS.2.2 dX3_isChanged_10

set_option maxHeartbeats 4000000 in
set_option maxRecDepth 100000 in
theorem kX3_isDown (l : Launch) (D : va_G) (cA : ClassId) (sz : Nat) (cd : Nat) (hm : Nat) (hc : cd < 2147483648) (hh : hm < 2147483648) : zMi l yX3_isDown wsX3_isDown ({ frames := 0, cells := 0, slots := 0, locals := 0 }) D cA [.int (nI cd), .int (nI hm)] sz [] [] (nI (if cd ≠ 0 ∧ cd < hm then 1 else 0)) := by
  refine Met.ofW (cc := cX3_isDown) (maxL := 2) (ret := (some .boolean)) (by decide) rfl ?_
  intro p e s m args below meth c s₁ B hml hv
  obtain ⟨rfl, hsz, hP, hK, hD0⟩ := hv
  have hx := B.exec
  have hb := B.bytes
  have hr := B.returns
  have hts := atoms_spec (ws := wsX3_isDown) B.pre
  have hown : s.vm.findClass RX3 = some m.cls := findClass_of_methodNamed B.named
  have hlocks := B.notSynchronized
  subst hsz
  have hD := hD0.self (sz := s.heap.size)
  generalize hAe : va_A [] s.heap.size = A at hD ⊢
  have hA : ∀ q : Nat, s.heap.size ≤ q → A q := fun q h => by rw [← hAe]; exact Or.inr h
  have hS : va_S A s.heap s.heap [] := va_S.rf
  have hP : va_P D vwCl [] s.heap := hP
  have hl := lv_entry ([.int (nI cd), .int (nI hm)]) (n := 2) (Nat.le_of_ble_eq_true rfl)
  rw [lg_entry_eq]
  generalize (lg_sl ([.int (nI cd), .int (nI hm)]) ++ List.replicate (2 - (lg_sl ([.int (nI cd), .int (nI hm)])).length) Slot.unset).toArray = ls at hl ⊢
  have hl : lv_has ls 2 [(0, .int (nI cd)), (1, .int (nI hm))] := hl
  refine lv_iload_n hx hb dX3_isDown_0 rfl (lv_at hl 0 rfl) ?_
  refine nn_if_eq (tgt := 13) hx hb dX3_isDown_1 (by decide) (by omega) (fun c_1 => ?_) (fun c_1 => ?_)
  · refine lv_iconst (v := nI 0) hx hb dX3_isDown_13 (by decide) ?_
    exact W.zret (v := (nI 0)) hx hb hr rfl (fun t ht hW => ⟨⟨(nI 0), (), rfl, (by first | (rw [if_pos (by omega)]; done) | (rw [if_neg (by omega)]; done)), by rw [ht]; exact hP, hD⟩, hS.F ht⟩) hS.2.2 dX3_isDown_14
  · refine lv_iload_n hx hb dX3_isDown_4 rfl (lv_at hl 0 rfl) ?_
    refine lv_iload_n hx hb dX3_isDown_5 rfl (lv_at hl 1 rfl) ?_
    refine nn_icmp_ge (tgt := 13) hx hb dX3_isDown_6 (by decide) (by omega) (by omega) (fun c_6 => ?_) (fun c_6 => ?_)
    · refine lv_iconst (v := nI 0) hx hb dX3_isDown_13 (by decide) ?_
      exact W.zret (v := (nI 0)) hx hb hr rfl (fun t ht hW => ⟨⟨(nI 0), (), rfl, (by first | (rw [if_pos (by omega)]; done) | (rw [if_neg (by omega)]; done)), by rw [ht]; exact hP, hD⟩, hS.F ht⟩) hS.2.2 dX3_isDown_14
    · refine lv_iconst (v := nI 1) hx hb dX3_isDown_9 (by decide) ?_
      refine lv_goto (tgt := 14) hx hb dX3_isDown_10 (by decide) ?_
      exact W.zret (v := (nI 1)) hx hb hr rfl (fun t ht hW => ⟨⟨(nI 1), (), rfl, (by first | (rw [if_pos (by omega)]; done) | (rw [if_neg (by omega)]; done)), by rw [ht]; exact hP, hD⟩, hS.F ht⟩) hS.2.2 dX3_isDown_14

theorem iniX2_costOf_X3 : Cond.initialized RX3 ∈ wsX2_costOf := by decide +kernel
theorem stX2_costOf_X3_isChanged : Cond.static yX3_isChanged ∈ wsX2_costOf := by decide +kernel
theorem stX2_costOf_X3_isDown : Cond.static yX3_isDown ∈ wsX2_costOf := by decide +kernel
set_option maxHeartbeats 4000000 in
set_option maxRecDepth 100000 in
theorem kX2_costOf (l : Launch) (D : va_G) (cA : ClassId) (sz : Nat) (cd : Nat) (hm : Nat) (hc : cd < 2147483648) (hh : hm < 2147483648) : zMi l yX2_costOf wsX2_costOf ({ frames := 1, cells := 0, slots := 0, locals := 21 }) D cA [.int (nI cd), .int (nI hm)] sz [] [] (nI (costN cd hm)) := by
  refine Met.ofW (cc := cX2_costOf) (maxL := 2) (ret := (some .int)) (by decide) rfl ?_
  intro p e s m args below meth c s₁ B hml hv
  obtain ⟨rfl, hsz, hP, hK, hD0⟩ := hv
  have hx := B.exec
  have hb := B.bytes
  have hr := B.returns
  have hts := atoms_spec (ws := wsX2_costOf) B.pre
  have hown : s.vm.findClass RX2 = some m.cls := findClass_of_methodNamed B.named
  have hlocks := B.notSynchronized
  subst hsz
  have hD := hD0.self (sz := s.heap.size)
  generalize hAe : va_A [] s.heap.size = A at hD ⊢
  have hA : ∀ q : Nat, s.heap.size ≤ q → A q := fun q h => by rw [← hAe]; exact Or.inr h
  have hS : va_S A s.heap s.heap [] := va_S.rf
  have hP : va_P D vwCl [] s.heap := hP
  have hl := lv_entry ([.int (nI cd), .int (nI hm)]) (n := 2) (Nat.le_of_ble_eq_true rfl)
  rw [lg_entry_eq]
  generalize (lg_sl ([.int (nI cd), .int (nI hm)]) ++ List.replicate (2 - (lg_sl ([.int (nI cd), .int (nI hm)])).length) Slot.unset).toArray = ls at hl ⊢
  have hl : lv_has ls 2 [(0, .int (nI cd)), (1, .int (nI hm))] := hl
  refine lv_iload_n hx hb dX2_costOf_0 rfl (lv_at hl 0 rfl) ?_
  refine lv_iload_n hx hb dX2_costOf_1 rfl (lv_at hl 1 rfl) ?_
  refine zz_callI (av := []) (wc := []) (wr := []) hS hA hP hD [] [] rfl rfl (by decide) (by decide) (va_runSN (As := [.int (nI cd), .int (nI hm)]) (rest := []) ⟨hx, hb, hml, hown, hts⟩ (kX3_isChanged l D cA s.heap.size cd hm (by omega) (by omega)) ⟨va_cnB 2 hts gX2_costOf_X3_isChanged_n95 rfl rfl rfl (hK.2 _ nkX2_95) (hts _ iniX2_costOf_X3) (by decide +kernel) ⟨Nat.le_of_ble_eq_true rfl, Nat.le_of_ble_eq_true rfl⟩, hts _ stX2_costOf_X3_isChanged, trivial⟩ (zPreS (av := [.int (nI cd), .int (nI hm)]) (wc := []) hK hP hD [] rfl (by decide) rfl) rfl rfl hl.1 rfl (lv_room (Nat.le_of_ble_eq_true rfl)) dX2_costOf_2 ⟨Nat.zero_le _, Nat.zero_le _⟩) (fun H locs hP hD hS => ?_)
  have hP : va_P D vwCl [] H := hP
  have hD : va_D A [] := hD
  refine nn_if_eq (tgt := 13) hx hb dX2_costOf_5 (by decide) if10_lt (fun c_5 => ?_) (fun c_5 => ?_)
  · have c_5 := if10_eq c_5
    refine lv_iconst (v := nI 0) hx hb dX2_costOf_13 (by decide) ?_
    refine lv_iload_n hx hb dX2_costOf_14 rfl (lv_at hl 0 rfl) ?_
    refine lv_iload_n hx hb dX2_costOf_15 rfl (lv_at hl 1 rfl) ?_
    refine zz_callI (av := []) (wc := []) (wr := []) hS hA hP hD [] [] rfl rfl (by decide) (by decide) (va_runSN (As := [.int (nI cd), .int (nI hm)]) (rest := [.int (nI 0)]) ⟨hx, hb, hml, hown, hts⟩ (kX3_isDown l D cA H.size cd hm (by omega) (by omega)) ⟨va_cnB 2 hts gX2_costOf_X3_isDown_n75 rfl rfl rfl (hK.2 _ nkX2_75) (hts _ iniX2_costOf_X3) (by decide +kernel) ⟨Nat.le_of_ble_eq_true rfl, Nat.le_of_ble_eq_true rfl⟩, hts _ stX2_costOf_X3_isDown, trivial⟩ (zPreS (av := [.int (nI cd), .int (nI hm)]) (wc := []) hK hP hD [] rfl (by decide) rfl) rfl rfl hl.1 rfl (lv_room (Nat.le_of_ble_eq_true rfl)) dX2_costOf_16 ⟨Nat.zero_le _, Nat.zero_le _⟩) (fun H locs hP hD hS => ?_)
    have hP : va_P D vwCl [] H := hP
    have hD : va_D A [] := hD
    refine nn_if_eq (tgt := 26) hx hb dX2_costOf_19 (by decide) if01_lt (fun c_19 => ?_) (fun c_19 => ?_)
    · have c_19 := if01_eq c_19
      refine lv_iconst (v := nI 0) hx hb dX2_costOf_26 (by decide) ?_
      refine nn_iadd hx hb dX2_costOf_27 ?_
      exact W.iret (v := (nI (0 + 0))) hx hb hr (fun t ht hW => ⟨⟨(nI (0 + 0)), (), rfl, (by unfold costN; (repeat' (first | rfl | contradiction | split))), by rw [ht]; exact hP, hD⟩, hS.F ht⟩) hS.2.2 dX2_costOf_28
    · have c_19 := if01_ne c_19
      refine lv_iconst (v := nI 1) hx hb dX2_costOf_22 (by decide) ?_
      refine lv_goto (tgt := 27) hx hb dX2_costOf_23 (by decide) ?_
      refine nn_iadd hx hb dX2_costOf_27 ?_
      exact W.iret (v := (nI (0 + 1))) hx hb hr (fun t ht hW => ⟨⟨(nI (0 + 1)), (), rfl, (by unfold costN; (repeat' (first | rfl | contradiction | split))), by rw [ht]; exact hP, hD⟩, hS.F ht⟩) hS.2.2 dX2_costOf_28
  · have c_5 := if10_ne c_5
    refine lv_bipush (v := nI 16) hx hb dX2_costOf_8 (by decide) ?_
    refine lv_goto (tgt := 14) hx hb dX2_costOf_10 (by decide) ?_
    refine lv_iload_n hx hb dX2_costOf_14 rfl (lv_at hl 0 rfl) ?_
    refine lv_iload_n hx hb dX2_costOf_15 rfl (lv_at hl 1 rfl) ?_
    refine zz_callI (av := []) (wc := []) (wr := []) hS hA hP hD [] [] rfl rfl (by decide) (by decide) (va_runSN (As := [.int (nI cd), .int (nI hm)]) (rest := [.int (nI 16)]) ⟨hx, hb, hml, hown, hts⟩ (kX3_isDown l D cA H.size cd hm (by omega) (by omega)) ⟨va_cnB 2 hts gX2_costOf_X3_isDown_n75 rfl rfl rfl (hK.2 _ nkX2_75) (hts _ iniX2_costOf_X3) (by decide +kernel) ⟨Nat.le_of_ble_eq_true rfl, Nat.le_of_ble_eq_true rfl⟩, hts _ stX2_costOf_X3_isDown, trivial⟩ (zPreS (av := [.int (nI cd), .int (nI hm)]) (wc := []) hK hP hD [] rfl (by decide) rfl) rfl rfl hl.1 rfl (lv_room (Nat.le_of_ble_eq_true rfl)) dX2_costOf_16 ⟨Nat.zero_le _, Nat.zero_le _⟩) (fun H locs hP hD hS => ?_)
    have hP : va_P D vwCl [] H := hP
    have hD : va_D A [] := hD
    refine nn_if_eq (tgt := 26) hx hb dX2_costOf_19 (by decide) if01_lt (fun c_19 => ?_) (fun c_19 => ?_)
    · have c_19 := if01_eq c_19
      refine lv_iconst (v := nI 0) hx hb dX2_costOf_26 (by decide) ?_
      refine nn_iadd hx hb dX2_costOf_27 ?_
      exact W.iret (v := (nI (16 + 0))) hx hb hr (fun t ht hW => ⟨⟨(nI (16 + 0)), (), rfl, (by unfold costN; (repeat' (first | rfl | contradiction | split))), by rw [ht]; exact hP, hD⟩, hS.F ht⟩) hS.2.2 dX2_costOf_28
    · have c_19 := if01_ne c_19
      refine lv_iconst (v := nI 1) hx hb dX2_costOf_22 (by decide) ?_
      refine lv_goto (tgt := 27) hx hb dX2_costOf_23 (by decide) ?_
      refine nn_iadd hx hb dX2_costOf_27 ?_
      exact W.iret (v := (nI (16 + 1))) hx hb hr (fun t ht hW => ⟨⟨(nI (16 + 1)), (), rfl, (by unfold costN; (repeat' (first | rfl | contradiction | split))), by rw [ht]; exact hP, hD⟩, hS.F ht⟩) hS.2.2 dX2_costOf_28

set_option maxHeartbeats 4000000 in
set_option maxRecDepth 100000 in
theorem kX2_leastCostOf (l : Launch) (D : va_G) (cA : ClassId) (sz : Nat) (cs : Nat) (hm : Nat) (hc : cs < 2147483648) (hh : hm < 32) : zMi l yX2_leastCostOf wsX2_leastCostOf ({ frames := 0, cells := 0, slots := 0, locals := 0 }) D cA [.int (nI cs), .int (nI hm)] sz [] [] (nI (lcost cs hm)) := by
  refine Met.ofW (cc := cX2_leastCostOf) (maxL := 3) (ret := (some .int)) (by decide) rfl ?_
  intro p e s m args below meth c s₁ B hml hv
  obtain ⟨rfl, hsz, hP, hK, hD0⟩ := hv
  have hx := B.exec
  have hb := B.bytes
  have hr := B.returns
  have hts := atoms_spec (ws := wsX2_leastCostOf) B.pre
  have hown : s.vm.findClass RX2 = some m.cls := findClass_of_methodNamed B.named
  have hlocks := B.notSynchronized
  subst hsz
  have hD := hD0.self (sz := s.heap.size)
  generalize hAe : va_A [] s.heap.size = A at hD ⊢
  have hA : ∀ q : Nat, s.heap.size ≤ q → A q := fun q h => by rw [← hAe]; exact Or.inr h
  have hS : va_S A s.heap s.heap [] := va_S.rf
  have hP : va_P D vwCl [] s.heap := hP
  have hl := lv_entry ([.int (nI cs), .int (nI hm)]) (n := 3) (Nat.le_of_ble_eq_true rfl)
  rw [lg_entry_eq]
  generalize (lg_sl ([.int (nI cs), .int (nI hm)]) ++ List.replicate (3 - (lg_sl ([.int (nI cs), .int (nI hm)])).length) Slot.unset).toArray = ls at hl ⊢
  have hl : lv_has ls 3 [(0, .int (nI cs)), (1, .int (nI hm))] := hl
  refine lv_iload_n hx hb dX2_leastCostOf_0 rfl (lv_at hl 0 rfl) ?_
  refine nn_if_ne (tgt := 8) hx hb dX2_leastCostOf_1 (by decide) (by omega) (fun c_1 => ?_) (fun c_1 => ?_)
  · refine lv_iload_n hx hb dX2_leastCostOf_8 rfl (lv_at hl 0 rfl) ?_
    refine lv_iload_n hx hb dX2_leastCostOf_9 rfl (lv_at hl 1 rfl) ?_
    refine nn_ishr hx hb (by omega) (by omega) dX2_leastCostOf_10 ?_
    refine lv_iconst (v := nI 1) hx hb dX2_leastCostOf_11 (by decide) ?_
    refine nn_iand hx hb dX2_leastCostOf_12 ?_
    refine nn_if_eq (tgt := 18) hx hb dX2_leastCostOf_13 (by decide) (and1_lt _) (fun c_13 => ?_) (fun c_13 => ?_)
    · refine lv_iload_n hx hb dX2_leastCostOf_18 rfl (lv_at hl 0 rfl) ?_
      refine lv_iconst (v := nI 1) hx hb dX2_leastCostOf_19 (by decide) ?_
      refine nn_iand hx hb dX2_leastCostOf_20 ?_
      refine nn_if_ne (tgt := 30) hx hb dX2_leastCostOf_21 (by decide) (and1_lt _) (fun c_21 => ?_) (fun c_21 => ?_)
      · refine lv_iconst (v := nI 1) hx hb dX2_leastCostOf_30 (by decide) ?_
        refine lv_goto (tgt := 35) hx hb dX2_leastCostOf_31 (by decide) ?_
        refine lv_istore_n (lv' := [(2, .int (nI 1)), (0, .int (nI cs)), (1, .int (nI hm))]) hx hb dX2_leastCostOf_35 rfl hl (by decide) rfl (fun ls hl => ?_)
        refine lv_iload_n hx hb dX2_leastCostOf_36 rfl (lv_at hl 0 rfl) ?_
        refine nn_if_eq (tgt := 45) hx hb dX2_leastCostOf_37 (by decide) (by decide) (fun c9 => absurd c9 (by decide)) (fun _ => ?_)
        refine lv_bipush (v := nI 16) hx hb dX2_leastCostOf_40 (by decide) ?_
        refine lv_goto (tgt := 47) hx hb dX2_leastCostOf_42 (by decide) ?_
        exact W.iret (v := (nI 16)) hx hb hr (fun t ht hW => ⟨⟨(nI 16), (), rfl, (by unfold lcost; simp_all), by rw [ht]; exact hP, hD⟩, hS.F ht⟩) hS.2.2 dX2_leastCostOf_47
      · refine lv_iload_n hx hb dX2_leastCostOf_24 rfl (lv_at hl 0 rfl) ?_
        refine lv_iload_n hx hb dX2_leastCostOf_25 rfl (lv_at hl 1 rfl) ?_
        refine nn_ishr hx hb (by omega) (by omega) dX2_leastCostOf_26 ?_
        refine nn_if_eq (tgt := 34) hx hb dX2_leastCostOf_27 (by decide) (Nat.lt_of_le_of_lt (shr_le _ _) hc) (fun c_27 => ?_) (fun c_27 => ?_)
        · refine lv_iconst (v := nI 0) hx hb dX2_leastCostOf_34 (by decide) ?_
          refine lv_istore_n (lv' := [(2, .int (nI 0)), (0, .int (nI cs)), (1, .int (nI hm))]) hx hb dX2_leastCostOf_35 rfl hl (by decide) rfl (fun ls hl => ?_)
          refine lv_iload_n hx hb dX2_leastCostOf_36 rfl (lv_at hl 0 rfl) ?_
          refine nn_if_eq (tgt := 45) hx hb dX2_leastCostOf_37 (by decide) (by decide) (fun _ => ?_) (fun c9 => absurd c9 (by decide))
          refine lv_bipush (v := nI 17) hx hb dX2_leastCostOf_45 (by decide) ?_
          exact W.iret (v := (nI 17)) hx hb hr (fun t ht hW => ⟨⟨(nI 17), (), rfl, (by unfold lcost; simp_all), by rw [ht]; exact hP, hD⟩, hS.F ht⟩) hS.2.2 dX2_leastCostOf_47
        · refine lv_iconst (v := nI 1) hx hb dX2_leastCostOf_30 (by decide) ?_
          refine lv_goto (tgt := 35) hx hb dX2_leastCostOf_31 (by decide) ?_
          refine lv_istore_n (lv' := [(2, .int (nI 1)), (0, .int (nI cs)), (1, .int (nI hm))]) hx hb dX2_leastCostOf_35 rfl hl (by decide) rfl (fun ls hl => ?_)
          refine lv_iload_n hx hb dX2_leastCostOf_36 rfl (lv_at hl 0 rfl) ?_
          refine nn_if_eq (tgt := 45) hx hb dX2_leastCostOf_37 (by decide) (by decide) (fun c9 => absurd c9 (by decide)) (fun _ => ?_)
          refine lv_bipush (v := nI 16) hx hb dX2_leastCostOf_40 (by decide) ?_
          refine lv_goto (tgt := 47) hx hb dX2_leastCostOf_42 (by decide) ?_
          exact W.iret (v := (nI 16)) hx hb hr (fun t ht hW => ⟨⟨(nI 16), (), rfl, (by unfold lcost; simp_all), by rw [ht]; exact hP, hD⟩, hS.F ht⟩) hS.2.2 dX2_leastCostOf_47
    · refine lv_iconst (v := nI 0) hx hb dX2_leastCostOf_16 (by decide) ?_
      exact W.iret (v := (nI 0)) hx hb hr (fun t ht hW => ⟨⟨(nI 0), (), rfl, (by unfold lcost; simp_all), by rw [ht]; exact hP, hD⟩, hS.F ht⟩) hS.2.2 dX2_leastCostOf_17
  · refine lv_sipush (v := nI 144) hx hb dX2_leastCostOf_4 (by decide) ?_
    exact W.iret (v := (nI 144)) hx hb hr (fun t ht hW => ⟨⟨(nI 144), (), rfl, (by unfold lcost; simp_all), by rw [ht]; exact hP, hD⟩, hS.F ht⟩) hS.2.2 dX2_leastCostOf_7

set_option maxHeartbeats 4000000 in
set_option maxRecDepth 100000 in
theorem kX1_place (l : Launch) (D : va_G) (cA : ClassId) (sz : Nat) (na : Nat) (cd : Nat) (ot : Nat)  : zMi l yX1_place wsX1_place ({ frames := 0, cells := 0, slots := 0, locals := 0 }) D cA [.int (nI na), .int (nI cd), .int (nI ot)] sz [] [] (nI ((na * 7 + cd) * 8 + ot)) := by
  refine Met.ofW (cc := cX1_place) (maxL := 3) (ret := (some .int)) (by decide) rfl ?_
  intro p e s m args below meth c s₁ B hml hv
  obtain ⟨rfl, hsz, hP, hK, hD0⟩ := hv
  have hx := B.exec
  have hb := B.bytes
  have hr := B.returns
  have hts := atoms_spec (ws := wsX1_place) B.pre
  have hown : s.vm.findClass RX1 = some m.cls := findClass_of_methodNamed B.named
  have hlocks := B.notSynchronized
  subst hsz
  have hD := hD0.self (sz := s.heap.size)
  generalize hAe : va_A [] s.heap.size = A at hD ⊢
  have hA : ∀ q : Nat, s.heap.size ≤ q → A q := fun q h => by rw [← hAe]; exact Or.inr h
  have hS : va_S A s.heap s.heap [] := va_S.rf
  have hP : va_P D vwCl [] s.heap := hP
  have hl := lv_entry ([.int (nI na), .int (nI cd), .int (nI ot)]) (n := 3) (Nat.le_of_ble_eq_true rfl)
  rw [lg_entry_eq]
  generalize (lg_sl ([.int (nI na), .int (nI cd), .int (nI ot)]) ++ List.replicate (3 - (lg_sl ([.int (nI na), .int (nI cd), .int (nI ot)])).length) Slot.unset).toArray = ls at hl ⊢
  have hl : lv_has ls 3 [(0, .int (nI na)), (1, .int (nI cd)), (2, .int (nI ot))] := hl
  refine lv_iload_n hx hb dX1_place_0 rfl (lv_at hl 0 rfl) ?_
  refine lv_bipush (v := nI 7) hx hb dX1_place_1 (by decide) ?_
  refine nn_imul hx hb dX1_place_3 ?_
  refine lv_iload_n hx hb dX1_place_4 rfl (lv_at hl 1 rfl) ?_
  refine nn_iadd hx hb dX1_place_5 ?_
  refine lv_bipush (v := nI 8) hx hb dX1_place_6 (by decide) ?_
  refine nn_imul hx hb dX1_place_8 ?_
  refine lv_iload_n hx hb dX1_place_9 rfl (lv_at hl 2 rfl) ?_
  refine nn_iadd hx hb dX1_place_10 ?_
  exact W.iret (v := (nI ((((na * 7) + cd) * 8) + ot))) hx hb hr (fun t ht hW => ⟨⟨(nI ((((na * 7) + cd) * 8) + ot)), (), rfl, (by simp_all), by rw [ht]; exact hP, hD⟩, hS.F ht⟩) hS.2.2 dX1_place_11

set_option maxHeartbeats 4000000 in
set_option maxRecDepth 100000 in
theorem kX3_codeOf (l : Launch) (D : va_G) (cA : ClassId) (sz : Nat) (xx : Int32)  : zMi l yX3_codeOf wsX3_codeOf ({ frames := 0, cells := 0, slots := 0, locals := 0 }) D cA [.int xx] sz [] [] (xx + nI 1) := by
  refine Met.ofW (cc := cX3_codeOf) (maxL := 1) (ret := (some .int)) (by decide) rfl ?_
  intro p e s m args below meth c s₁ B hml hv
  obtain ⟨rfl, hsz, hP, hK, hD0⟩ := hv
  have hx := B.exec
  have hb := B.bytes
  have hr := B.returns
  have hts := atoms_spec (ws := wsX3_codeOf) B.pre
  have hown : s.vm.findClass RX3 = some m.cls := findClass_of_methodNamed B.named
  have hlocks := B.notSynchronized
  subst hsz
  have hD := hD0.self (sz := s.heap.size)
  generalize hAe : va_A [] s.heap.size = A at hD ⊢
  have hA : ∀ q : Nat, s.heap.size ≤ q → A q := fun q h => by rw [← hAe]; exact Or.inr h
  have hS : va_S A s.heap s.heap [] := va_S.rf
  have hP : va_P D vwCl [] s.heap := hP
  have hl := lv_entry ([.int xx]) (n := 1) (Nat.le_of_ble_eq_true rfl)
  rw [lg_entry_eq]
  generalize (lg_sl ([.int xx]) ++ List.replicate (1 - (lg_sl ([.int xx])).length) Slot.unset).toArray = ls at hl ⊢
  have hl : lv_has ls 1 [(0, .int xx)] := hl
  refine lv_iload_n hx hb dX3_codeOf_0 rfl (lv_at hl 0 rfl) ?_
  refine lv_iconst (v := nI 1) hx hb dX3_codeOf_1 (by decide) ?_
  refine lv_iadd hx hb dX3_codeOf_2 ?_
  exact W.iret (v := (xx + (nI 1))) hx hb hr (fun t ht hW => ⟨⟨(xx + (nI 1)), (), rfl, (by simp_all), by rw [ht]; exact hP, hD⟩, hS.F ht⟩) hS.2.2 dX3_codeOf_3

set_option maxHeartbeats 4000000 in
set_option maxRecDepth 100000 in
theorem kX3_versionOf (l : Launch) (D : va_G) (cA : ClassId) (sz : Nat) (xx : Int32)  : zMi l yX3_versionOf wsX3_versionOf ({ frames := 0, cells := 0, slots := 0, locals := 0 }) D cA [.int xx] sz [] [] (xx - nI 1) := by
  refine Met.ofW (cc := cX3_versionOf) (maxL := 1) (ret := (some .int)) (by decide) rfl ?_
  intro p e s m args below meth c s₁ B hml hv
  obtain ⟨rfl, hsz, hP, hK, hD0⟩ := hv
  have hx := B.exec
  have hb := B.bytes
  have hr := B.returns
  have hts := atoms_spec (ws := wsX3_versionOf) B.pre
  have hown : s.vm.findClass RX3 = some m.cls := findClass_of_methodNamed B.named
  have hlocks := B.notSynchronized
  subst hsz
  have hD := hD0.self (sz := s.heap.size)
  generalize hAe : va_A [] s.heap.size = A at hD ⊢
  have hA : ∀ q : Nat, s.heap.size ≤ q → A q := fun q h => by rw [← hAe]; exact Or.inr h
  have hS : va_S A s.heap s.heap [] := va_S.rf
  have hP : va_P D vwCl [] s.heap := hP
  have hl := lv_entry ([.int xx]) (n := 1) (Nat.le_of_ble_eq_true rfl)
  rw [lg_entry_eq]
  generalize (lg_sl ([.int xx]) ++ List.replicate (1 - (lg_sl ([.int xx])).length) Slot.unset).toArray = ls at hl ⊢
  have hl : lv_has ls 1 [(0, .int xx)] := hl
  refine lv_iload_n hx hb dX3_versionOf_0 rfl (lv_at hl 0 rfl) ?_
  refine lv_iconst (v := nI 1) hx hb dX3_versionOf_1 (by decide) ?_
  refine lv_isub hx hb dX3_versionOf_2 ?_
  exact W.iret (v := (xx - (nI 1))) hx hb hr (fun t ht hW => ⟨⟨(xx - (nI 1)), (), rfl, (by simp_all), by rw [ht]; exact hP, hD⟩, hS.F ht⟩) hS.2.2 dX3_versionOf_3

set_option maxHeartbeats 4000000 in
set_option maxRecDepth 100000 in
theorem kX3_codesOf (l : Launch) (D : va_G) (cA : ClassId) (sz : Nat) (dd : Int64)  : zMi l yX3_codesOf wsX3_codesOf ({ frames := 0, cells := 0, slots := 0, locals := 0 }) D cA [.long dd] sz [] [] (nI (2 * lo6 dd)) := by
  refine Met.ofW (cc := cX3_codesOf) (maxL := 2) (ret := (some .int)) (by decide) rfl ?_
  intro p e s m args below meth c s₁ B hml hv
  obtain ⟨rfl, hsz, hP, hK, hD0⟩ := hv
  have hx := B.exec
  have hb := B.bytes
  have hr := B.returns
  have hts := atoms_spec (ws := wsX3_codesOf) B.pre
  have hown : s.vm.findClass RX3 = some m.cls := findClass_of_methodNamed B.named
  have hlocks := B.notSynchronized
  subst hsz
  have hD := hD0.self (sz := s.heap.size)
  generalize hAe : va_A [] s.heap.size = A at hD ⊢
  have hA : ∀ q : Nat, s.heap.size ≤ q → A q := fun q h => by rw [← hAe]; exact Or.inr h
  have hS : va_S A s.heap s.heap [] := va_S.rf
  have hP : va_P D vwCl [] s.heap := hP
  have hl := lv_entry ([.long dd]) (n := 2) (Nat.le_of_ble_eq_true rfl)
  rw [lg_entry_eq]
  generalize (lg_sl ([.long dd]) ++ List.replicate (2 - (lg_sl ([.long dd])).length) Slot.unset).toArray = ls at hl ⊢
  have hl : lv_has ls 2 [(0, .long dd)] := hl
  refine lv_lload_n hx hb dX3_codesOf_0 rfl (lv_at hl 0 rfl) ?_
  refine lv_iconst (v := nI 1) hx hb dX3_codesOf_1 (by decide) ?_
  refine lv_lshl hx hb dX3_codesOf_2 rfl ?_
  refine lv_l2i hx hb dX3_codesOf_3 rfl ?_
  refine lv_bipush (v := nI 127) hx hb dX3_codesOf_4 (by decide) ?_
  refine lv_iand hx hb dX3_codesOf_6 ?_
  refine lv_bipush (v := -2) hx hb dX3_codesOf_7 (by decide) ?_
  refine lv_iand hx hb dX3_codesOf_9 ?_
  exact W.iret (v := ((((dd <<< ((nI 1).toInt64 &&& 63)).toInt32) &&& (nI 127)) &&& (-2))) hx hb hr (fun t ht hW => ⟨⟨((((dd <<< ((nI 1).toInt64 &&& 63)).toInt32) &&& (nI 127)) &&& (-2)), (), rfl, (by exact csOf_eq dd), by rw [ht]; exact hP, hD⟩, hS.F ht⟩) hS.2.2 dX3_codesOf_10

theorem clX3_digestOf_151 : Cond.constantLong RX3 151 (1000003) ∈ wsX3_digestOf := by decide +kernel
theorem clX3_digestOf_153 : Cond.constantLong RX3 153 (2654435761) ∈ wsX3_digestOf := by decide +kernel
set_option maxHeartbeats 4000000 in
set_option maxRecDepth 100000 in
theorem kX3_digestOf (l : Launch) (D : va_G) (cA : ClassId) (sz : Nat) (na : Int32) (ve : Int32)  : zMl l yX3_digestOf wsX3_digestOf ({ frames := 0, cells := 0, slots := 0, locals := 0 }) D cA [.int na, .int ve] sz [] [] (dgN na ve) := by
  refine Met.ofW (cc := cX3_digestOf) (maxL := 2) (ret := (some .long)) (by decide) rfl ?_
  intro p e s m args below meth c s₁ B hml hv
  obtain ⟨rfl, hsz, hP, hK, hD0⟩ := hv
  have hx := B.exec
  have hb := B.bytes
  have hr := B.returns
  have hts := atoms_spec (ws := wsX3_digestOf) B.pre
  have hown : s.vm.findClass RX3 = some m.cls := findClass_of_methodNamed B.named
  have hlocks := B.notSynchronized
  subst hsz
  have hD := hD0.self (sz := s.heap.size)
  generalize hAe : va_A [] s.heap.size = A at hD ⊢
  have hA : ∀ q : Nat, s.heap.size ≤ q → A q := fun q h => by rw [← hAe]; exact Or.inr h
  have hS : va_S A s.heap s.heap [] := va_S.rf
  have hP : va_P D vwCl [] s.heap := hP
  have hl := lv_entry ([.int na, .int ve]) (n := 2) (Nat.le_of_ble_eq_true rfl)
  rw [lg_entry_eq]
  generalize (lg_sl ([.int na, .int ve]) ++ List.replicate (2 - (lg_sl ([.int na, .int ve])).length) Slot.unset).toArray = ls at hl ⊢
  have hl : lv_has ls 2 [(0, .int na), (1, .int ve)] := hl
  refine lv_iload_n hx hb dX3_digestOf_0 rfl (lv_at hl 0 rfl) ?_
  refine lv_iconst (v := nI 1) hx hb dX3_digestOf_1 (by decide) ?_
  refine lv_iadd hx hb dX3_digestOf_2 ?_
  refine lv_i2l hx hb dX3_digestOf_3 rfl ?_
  refine lv_ldc2 (v := 1000003) hx hb hown (hts _ clX3_digestOf_151) dX3_digestOf_4 ?_
  refine lv_lmul hx hb dX3_digestOf_7 ?_
  refine lv_iload_n hx hb dX3_digestOf_8 rfl (lv_at hl 1 rfl) ?_
  refine lv_i2l hx hb dX3_digestOf_9 rfl ?_
  refine lv_ladd hx hb dX3_digestOf_10 ?_
  refine lv_lconst (v := 1) hx hb dX3_digestOf_11 (by decide) ?_
  refine lv_ladd hx hb dX3_digestOf_12 ?_
  refine lv_ldc2 (v := 2654435761) hx hb hown (hts _ clX3_digestOf_153) dX3_digestOf_13 ?_
  refine lv_lmul hx hb dX3_digestOf_16 ?_
  exact W.lret (v := ((((((na + (nI 1)).toInt64) * (1000003 : Int64)) + ve.toInt64) + (1 : Int64)) * (2654435761 : Int64))) hx hb hr (fun t ht hW => ⟨⟨((((((na + (nI 1)).toInt64) * (1000003 : Int64)) + ve.toInt64) + (1 : Int64)) * (2654435761 : Int64)), (), rfl, (by rfl), by rw [ht]; exact hP, hD⟩, hS.F ht⟩) hS.2.2 dX3_digestOf_17

theorem clX4_digestOf_126 : Cond.constantLong RX4 126 (1000003) ∈ wsX4_digestOf := by decide +kernel
theorem clX4_digestOf_128 : Cond.constantLong RX4 128 (2654435761) ∈ wsX4_digestOf := by decide +kernel
set_option maxHeartbeats 4000000 in
set_option maxRecDepth 100000 in
theorem kX4_digestOf (l : Launch) (D : va_G) (cA : ClassId) (sz : Nat) (na : Int32) (ve : Int32)  : zMl l yX4_digestOf wsX4_digestOf ({ frames := 0, cells := 0, slots := 0, locals := 0 }) D cA [.int na, .int ve] sz [] [] (dgN na ve) := by
  refine Met.ofW (cc := cX4_digestOf) (maxL := 2) (ret := (some .long)) (by decide) rfl ?_
  intro p e s m args below meth c s₁ B hml hv
  obtain ⟨rfl, hsz, hP, hK, hD0⟩ := hv
  have hx := B.exec
  have hb := B.bytes
  have hr := B.returns
  have hts := atoms_spec (ws := wsX4_digestOf) B.pre
  have hown : s.vm.findClass RX4 = some m.cls := findClass_of_methodNamed B.named
  have hlocks := B.notSynchronized
  subst hsz
  have hD := hD0.self (sz := s.heap.size)
  generalize hAe : va_A [] s.heap.size = A at hD ⊢
  have hA : ∀ q : Nat, s.heap.size ≤ q → A q := fun q h => by rw [← hAe]; exact Or.inr h
  have hS : va_S A s.heap s.heap [] := va_S.rf
  have hP : va_P D vwCl [] s.heap := hP
  have hl := lv_entry ([.int na, .int ve]) (n := 2) (Nat.le_of_ble_eq_true rfl)
  rw [lg_entry_eq]
  generalize (lg_sl ([.int na, .int ve]) ++ List.replicate (2 - (lg_sl ([.int na, .int ve])).length) Slot.unset).toArray = ls at hl ⊢
  have hl : lv_has ls 2 [(0, .int na), (1, .int ve)] := hl
  refine lv_iload_n hx hb dX4_digestOf_0 rfl (lv_at hl 0 rfl) ?_
  refine lv_iconst (v := nI 1) hx hb dX4_digestOf_1 (by decide) ?_
  refine lv_iadd hx hb dX4_digestOf_2 ?_
  refine lv_i2l hx hb dX4_digestOf_3 rfl ?_
  refine lv_ldc2 (v := 1000003) hx hb hown (hts _ clX4_digestOf_126) dX4_digestOf_4 ?_
  refine lv_lmul hx hb dX4_digestOf_7 ?_
  refine lv_iload_n hx hb dX4_digestOf_8 rfl (lv_at hl 1 rfl) ?_
  refine lv_i2l hx hb dX4_digestOf_9 rfl ?_
  refine lv_ladd hx hb dX4_digestOf_10 ?_
  refine lv_lconst (v := 1) hx hb dX4_digestOf_11 (by decide) ?_
  refine lv_ladd hx hb dX4_digestOf_12 ?_
  refine lv_ldc2 (v := 2654435761) hx hb hown (hts _ clX4_digestOf_128) dX4_digestOf_13 ?_
  refine lv_lmul hx hb dX4_digestOf_16 ?_
  exact W.lret (v := ((((((na + (nI 1)).toInt64) * (1000003 : Int64)) + ve.toInt64) + (1 : Int64)) * (2654435761 : Int64))) hx hb hr (fun t ht hW => ⟨⟨((((((na + (nI 1)).toInt64) * (1000003 : Int64)) + ve.toInt64) + (1 : Int64)) * (2654435761 : Int64)), (), rfl, (by rfl), by rw [ht]; exact hP, hD⟩, hS.F ht⟩) hS.2.2 dX4_digestOf_17

