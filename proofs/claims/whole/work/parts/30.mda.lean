theorem lkX4_thrown_61 : Cond.fieldLink RX4 61 "LeastChangeModel" "thrown" "I" ∈ wsX4_thrown := by decide +kernel
theorem inX4_thrown_X4 : ∀ w ∈ wsX40, w ∈ wsX4_thrown := by decide +kernel
set_option maxHeartbeats 4000000 in
set_option maxRecDepth 100000 in
theorem kX4_thrown (l : Launch) (D : va_G) (cA : ClassId) (sz : Nat) (md : Nat) (veA : Nat) (lkA : Nat) (baA : Nat) (kiA : Nat) (fiA : Nat) (atA : Nat) (seA : Nat) (stA : Nat) (bsA : Nat) (lfA : Nat) (giA : Nat) (btA : Nat) (gaA : Nat) (waA : Nat) (cmA : Nat) (cgA : Nat) (dwA : Nat) (th : Nat) (mn : Nat) (mr : Nat) (bc : Nat) (xc : Nat) (xd : Nat) (an : Nat) (fn : Nat)  : zMi l yX4_thrown wsX4_thrown ({ frames := 0, cells := 0, slots := 0, locals := 0 }) D cA [.ref md] sz [(md, .inr (6, [.int (nI th), .int (nI mn), .int (nI mr), .ref veA, .ref lkA, .ref baA, .ref kiA, .ref fiA, .ref atA, .ref seA, .ref stA, .ref bsA, .ref lfA, .ref giA, .ref btA, .int (nI bc), .int (nI xc), .int (nI xd), .int (nI an), .int (nI fn), .ref gaA, .ref waA, .ref cmA, .ref cgA, .ref dwA]))] [(md, .inr (6, [.int (nI th), .int (nI mn), .int (nI mr), .ref veA, .ref lkA, .ref baA, .ref kiA, .ref fiA, .ref atA, .ref seA, .ref stA, .ref bsA, .ref lfA, .ref giA, .ref btA, .int (nI bc), .int (nI xc), .int (nI xd), .int (nI an), .int (nI fn), .ref gaA, .ref waA, .ref cmA, .ref cgA, .ref dwA]))] (nI th) := by
  refine Met.ofW (cc := cX4_thrown) (maxL := 1) (ret := (some .int)) (by decide) rfl ?_
  intro p e s m args below meth c s₁ B hml hv
  obtain ⟨rfl, hsz, hP, hK, hD0⟩ := hv
  have hx := B.exec
  have hb := B.bytes
  have hr := B.returns
  have hts := atoms_spec (ws := wsX4_thrown) B.pre
  have hown : s.vm.findClass RX4 = some m.cls := findClass_of_methodNamed B.named
  have hlocks := B.notSynchronized
  subst hsz
  have hD := hD0.self (sz := s.heap.size)
  generalize hAe : va_A [(md, .inr (6, [.int (nI th), .int (nI mn), .int (nI mr), .ref veA, .ref lkA, .ref baA, .ref kiA, .ref fiA, .ref atA, .ref seA, .ref stA, .ref bsA, .ref lfA, .ref giA, .ref btA, .int (nI bc), .int (nI xc), .int (nI xd), .int (nI an), .int (nI fn), .ref gaA, .ref waA, .ref cmA, .ref cgA, .ref dwA]))] s.heap.size = A at hD ⊢
  have hA : ∀ q : Nat, s.heap.size ≤ q → A q := fun q h => by rw [← hAe]; exact Or.inr h
  have hS : va_S A s.heap s.heap [] := va_S.rf
  have hP : va_P D vwCl [(md, .inr (6, [.int (nI th), .int (nI mn), .int (nI mr), .ref veA, .ref lkA, .ref baA, .ref kiA, .ref fiA, .ref atA, .ref seA, .ref stA, .ref bsA, .ref lfA, .ref giA, .ref btA, .int (nI bc), .int (nI xc), .int (nI xd), .int (nI an), .int (nI fn), .ref gaA, .ref waA, .ref cmA, .ref cgA, .ref dwA]))] s.heap := hP
  have hl := lv_entry ([.ref md]) (n := 1) (Nat.le_of_ble_eq_true rfl)
  rw [lg_entry_eq]
  generalize (lg_sl ([.ref md]) ++ List.replicate (1 - (lg_sl ([.ref md])).length) Slot.unset).toArray = ls at hl ⊢
  have hl : lv_has ls 1 [(0, .ref md)] := hl
  refine lv_aload_n hx hb dX4_thrown_0 rfl (lv_at hl 0 rfl) ?_
  refine va_get (D := D) (ci := 6) (v := .int (nI th)) (C := RX4) (T := TX4) (N := 25) hx hb hts inX4_thrown_X4 hown hK.1 hP 0 rfl rfl 0 (by decide) (hts _ lkX4_thrown_61) (fun _ h9 => h9) rfl dX4_thrown_1 ?_
  exact W.iret (v := (nI th)) hx hb hr (fun t ht hW => ⟨⟨(nI th), (), rfl, rfl, by rw [ht]; exact hP, hD⟩, hS.F ht⟩) hS.2.2 dX4_thrown_4

theorem lkX4_isName_65 : Cond.fieldLink RX4 65 "LeastChangeModel" "names" "I" ∈ wsX4_isName := by decide +kernel
theorem inX4_isName_X4 : ∀ w ∈ wsX40, w ∈ wsX4_isName := by decide +kernel
set_option maxHeartbeats 4000000 in
set_option maxRecDepth 100000 in
theorem kX4_isName (l : Launch) (D : va_G) (cA : ClassId) (sz : Nat) (md : Nat) (veA : Nat) (lkA : Nat) (baA : Nat) (kiA : Nat) (fiA : Nat) (atA : Nat) (seA : Nat) (stA : Nat) (bsA : Nat) (lfA : Nat) (giA : Nat) (btA : Nat) (gaA : Nat) (waA : Nat) (cmA : Nat) (cgA : Nat) (dwA : Nat) (th : Nat) (mn : Nat) (mr : Nat) (bc : Nat) (xc : Nat) (xd : Nat) (an : Nat) (fn : Nat) (xx : Int32) (hmn : mn ≤ 8) : zMi l yX4_isName wsX4_isName ({ frames := 0, cells := 0, slots := 0, locals := 0 }) D cA [.ref md, .int xx] sz [(md, .inr (6, [.int (nI th), .int (nI mn), .int (nI mr), .ref veA, .ref lkA, .ref baA, .ref kiA, .ref fiA, .ref atA, .ref seA, .ref stA, .ref bsA, .ref lfA, .ref giA, .ref btA, .int (nI bc), .int (nI xc), .int (nI xd), .int (nI an), .int (nI fn), .ref gaA, .ref waA, .ref cmA, .ref cgA, .ref dwA]))] [(md, .inr (6, [.int (nI th), .int (nI mn), .int (nI mr), .ref veA, .ref lkA, .ref baA, .ref kiA, .ref fiA, .ref atA, .ref seA, .ref stA, .ref bsA, .ref lfA, .ref giA, .ref btA, .int (nI bc), .int (nI xc), .int (nI xd), .int (nI an), .int (nI fn), .ref gaA, .ref waA, .ref cmA, .ref cgA, .ref dwA]))] (nI (if isN xx mn then 1 else 0)) := by
  refine Met.ofW (cc := cX4_isName) (maxL := 2) (ret := (some .boolean)) (by decide) rfl ?_
  intro p e s m args below meth c s₁ B hml hv
  obtain ⟨rfl, hsz, hP, hK, hD0⟩ := hv
  have hx := B.exec
  have hb := B.bytes
  have hr := B.returns
  have hts := atoms_spec (ws := wsX4_isName) B.pre
  have hown : s.vm.findClass RX4 = some m.cls := findClass_of_methodNamed B.named
  have hlocks := B.notSynchronized
  subst hsz
  have hD := hD0.self (sz := s.heap.size)
  generalize hAe : va_A [(md, .inr (6, [.int (nI th), .int (nI mn), .int (nI mr), .ref veA, .ref lkA, .ref baA, .ref kiA, .ref fiA, .ref atA, .ref seA, .ref stA, .ref bsA, .ref lfA, .ref giA, .ref btA, .int (nI bc), .int (nI xc), .int (nI xd), .int (nI an), .int (nI fn), .ref gaA, .ref waA, .ref cmA, .ref cgA, .ref dwA]))] s.heap.size = A at hD ⊢
  have hA : ∀ q : Nat, s.heap.size ≤ q → A q := fun q h => by rw [← hAe]; exact Or.inr h
  have hS : va_S A s.heap s.heap [] := va_S.rf
  have hP : va_P D vwCl [(md, .inr (6, [.int (nI th), .int (nI mn), .int (nI mr), .ref veA, .ref lkA, .ref baA, .ref kiA, .ref fiA, .ref atA, .ref seA, .ref stA, .ref bsA, .ref lfA, .ref giA, .ref btA, .int (nI bc), .int (nI xc), .int (nI xd), .int (nI an), .int (nI fn), .ref gaA, .ref waA, .ref cmA, .ref cgA, .ref dwA]))] s.heap := hP
  have hl := lv_entry ([.ref md, .int xx]) (n := 2) (Nat.le_of_ble_eq_true rfl)
  rw [lg_entry_eq]
  generalize (lg_sl ([.ref md, .int xx]) ++ List.replicate (2 - (lg_sl ([.ref md, .int xx])).length) Slot.unset).toArray = ls at hl ⊢
  have hl : lv_has ls 2 [(0, .ref md), (1, .int xx)] := hl
  refine lv_iload_n hx hb dX4_isName_0 rfl (lv_at hl 1 rfl) ?_
  refine lv_if_lt (tgt := 16) hx hb dX4_isName_1 (by decide) (fun c_1 => ?_) (fun c_1 => ?_)
  · refine lv_iconst (v := nI 0) hx hb dX4_isName_16 (by decide) ?_
    exact W.zret (v := (nI 0)) hx hb hr rfl (fun t ht hW => ⟨⟨(nI 0), (), rfl, (by first | exact congrArg nI (if_pos (show isN xx mn from ⟨c_1, Int32.not_le.mp c_9⟩)).symm | exact congrArg nI (if_neg (fun q : isN xx mn => Int32.not_le.mpr q.2 c_9)).symm | exact congrArg nI (if_neg (fun q : isN xx mn => q.1 c_1)).symm), by rw [ht]; exact hP, hD⟩, hS.F ht⟩) hS.2.2 dX4_isName_17
  · refine lv_iload_n hx hb dX4_isName_4 rfl (lv_at hl 1 rfl) ?_
    refine lv_aload_n hx hb dX4_isName_5 rfl (lv_at hl 0 rfl) ?_
    refine va_get (D := D) (ci := 6) (v := .int (nI mn)) (C := RX4) (T := TX4) (N := 25) hx hb hts inX4_isName_X4 hown hK.1 hP 0 rfl rfl 1 (by decide) (hts _ lkX4_isName_65) (fun _ h9 => h9) rfl dX4_isName_6 ?_
    refine lv_icmp_ge (tgt := 16) hx hb dX4_isName_9 (by decide) (fun c_9 => ?_) (fun c_9 => ?_)
    · refine lv_iconst (v := nI 0) hx hb dX4_isName_16 (by decide) ?_
      exact W.zret (v := (nI 0)) hx hb hr rfl (fun t ht hW => ⟨⟨(nI 0), (), rfl, (by first | exact congrArg nI (if_pos (show isN xx mn from ⟨c_1, Int32.not_le.mp c_9⟩)).symm | exact congrArg nI (if_neg (fun q : isN xx mn => Int32.not_le.mpr q.2 c_9)).symm | exact congrArg nI (if_neg (fun q : isN xx mn => q.1 c_1)).symm), by rw [ht]; exact hP, hD⟩, hS.F ht⟩) hS.2.2 dX4_isName_17
    · refine lv_iconst (v := nI 1) hx hb dX4_isName_12 (by decide) ?_
      refine lv_goto (tgt := 17) hx hb dX4_isName_13 (by decide) ?_
      exact W.zret (v := (nI 1)) hx hb hr rfl (fun t ht hW => ⟨⟨(nI 1), (), rfl, (by first | exact congrArg nI (if_pos (show isN xx mn from ⟨c_1, Int32.not_le.mp c_9⟩)).symm | exact congrArg nI (if_neg (fun q : isN xx mn => Int32.not_le.mpr q.2 c_9)).symm | exact congrArg nI (if_neg (fun q : isN xx mn => q.1 c_1)).symm), by rw [ht]; exact hP, hD⟩, hS.F ht⟩) hS.2.2 dX4_isName_17


def mnameF (p0 p1 : Int32) (mn : Nat) (gve glk : Nat → Nat) : Int32 × (Nat → Nat) × (Nat → Nat) × Nat :=
  if okV p0 p1 then (if mn = 8 then (-4, gve, glk, mn) else (nI (mn + 1 - 1), va_up gve mn (toN p0), va_up glk mn (toC p1), mn + 1)) else (-2, gve, glk, mn)
theorem and63 (dd : Int64) : (dd &&& 63).toInt32 = nI (lo6 dd) := by
  apply i32_ext
  apply BitVec.eq_of_toNat_eq
  rw [nI_bv, BitVec.toNat_ofNat, Int64.toBitVec_toInt32, BitVec.signExtend_eq_setWidth_of_le _ (by decide), BitVec.toNat_setWidth, Int64.toBitVec_and, BitVec.toNat_and]
  rw [show ((63 : Int64).toBitVec).toNat = 2 ^ 6 - 1 from rfl, Nat.and_two_pow_sub_one_eq_mod]
  rfl
/-- a row of the reference: five arrays at mr -/
def addF (kd na vs ot : Nat) (dd : Int64) (mr : Nat) (gki gfi gat gse gst : Nat → Nat) : Int32 × (Nat → Nat) × (Nat → Nat) × (Nat → Nat) × (Nat → Nat) × (Nat → Nat) × Nat :=
  if mr = 60 then (-4, gki, gfi, gat, gse, gst, mr) else (nI (mr + 1 - 1), va_up gki mr kd, va_up gfi mr na, va_up gat mr vs, va_up gse mr ot, va_up gst mr (lo6 dd), mr + 1)

theorem lkX4_name_13 : Cond.fieldLink RX4 13 "LeastChangeModel" "locked" "[I" ∈ wsX4_name := by decide +kernel
theorem lkX4_name_61 : Cond.fieldLink RX4 61 "LeastChangeModel" "thrown" "I" ∈ wsX4_name := by decide +kernel
theorem lkX4_name_65 : Cond.fieldLink RX4 65 "LeastChangeModel" "names" "I" ∈ wsX4_name := by decide +kernel
theorem lkX4_name_7 : Cond.fieldLink RX4 7 "LeastChangeModel" "versions" "[I" ∈ wsX4_name := by decide +kernel
theorem inX4_name_X4 : ∀ w ∈ wsX40, w ∈ wsX4_name := by decide +kernel
set_option maxHeartbeats 4000000 in
set_option maxRecDepth 100000 in
theorem kX4_name (l : Launch) (D : va_G) (cA : ClassId) (sz : Nat) (md : Nat) (veA : Nat) (lkA : Nat) (baA : Nat) (kiA : Nat) (fiA : Nat) (atA : Nat) (seA : Nat) (stA : Nat) (bsA : Nat) (lfA : Nat) (giA : Nat) (btA : Nat) (gaA : Nat) (waA : Nat) (cmA : Nat) (cgA : Nat) (dwA : Nat) (th : Nat) (mn : Nat) (mr : Nat) (bc : Nat) (xc : Nat) (xd : Nat) (an : Nat) (fn : Nat) (gve : Nat → Nat) (glk : Nat → Nat) (p0 : Int32) (p1 : Int32) (hmn : mn ≤ 8) : zMi l yX4_name wsX4_name ({ frames := 0, cells := 0, slots := 0, locals := 0 }) D cA [.ref md, .int p0, .int p1] sz [(md, .inr (6, [.int (nI th), .int (nI mn), .int (nI mr), .ref veA, .ref lkA, .ref baA, .ref kiA, .ref fiA, .ref atA, .ref seA, .ref stA, .ref bsA, .ref lfA, .ref giA, .ref btA, .int (nI bc), .int (nI xc), .int (nI xd), .int (nI an), .int (nI fn), .ref gaA, .ref waA, .ref cmA, .ref cgA, .ref dwA])), (veA, .inl (cA, 8, .inl (aN gve))), (lkA, .inl (cA, 8, .inl (aM glk)))] [(md, .inr (6, [.int (nI 0), .int (nI ((mnameF p0 p1 mn gve glk).2.2.2)), .int (nI mr), .ref veA, .ref lkA, .ref baA, .ref kiA, .ref fiA, .ref atA, .ref seA, .ref stA, .ref bsA, .ref lfA, .ref giA, .ref btA, .int (nI bc), .int (nI xc), .int (nI xd), .int (nI an), .int (nI fn), .ref gaA, .ref waA, .ref cmA, .ref cgA, .ref dwA])), (veA, .inl (cA, 8, .inl (aN ((mnameF p0 p1 mn gve glk).2.1)))), (lkA, .inl (cA, 8, .inl (aM ((mnameF p0 p1 mn gve glk).2.2.1))))] ((mnameF p0 p1 mn gve glk).1) := by
  refine Met.ofW (cc := cX4_name) (maxL := 3) (ret := (some .int)) (by decide) rfl ?_
  intro p e s m args below meth c s₁ B hml hv
  obtain ⟨rfl, hsz, hP, hK, hD0⟩ := hv
  have hx := B.exec
  have hb := B.bytes
  have hr := B.returns
  have hts := atoms_spec (ws := wsX4_name) B.pre
  have hown : s.vm.findClass RX4 = some m.cls := findClass_of_methodNamed B.named
  have hlocks := B.notSynchronized
  subst hsz
  have hD := hD0.self (sz := s.heap.size)
  generalize hAe : va_A [(md, .inr (6, [.int (nI th), .int (nI mn), .int (nI mr), .ref veA, .ref lkA, .ref baA, .ref kiA, .ref fiA, .ref atA, .ref seA, .ref stA, .ref bsA, .ref lfA, .ref giA, .ref btA, .int (nI bc), .int (nI xc), .int (nI xd), .int (nI an), .int (nI fn), .ref gaA, .ref waA, .ref cmA, .ref cgA, .ref dwA])), (veA, .inl (cA, 8, .inl (aN gve))), (lkA, .inl (cA, 8, .inl (aM glk)))] s.heap.size = A at hD ⊢
  have hA : ∀ q : Nat, s.heap.size ≤ q → A q := fun q h => by rw [← hAe]; exact Or.inr h
  have hS : va_S A s.heap s.heap [] := va_S.rf
  have hP : va_P D vwCl [(md, .inr (6, [.int (nI th), .int (nI mn), .int (nI mr), .ref veA, .ref lkA, .ref baA, .ref kiA, .ref fiA, .ref atA, .ref seA, .ref stA, .ref bsA, .ref lfA, .ref giA, .ref btA, .int (nI bc), .int (nI xc), .int (nI xd), .int (nI an), .int (nI fn), .ref gaA, .ref waA, .ref cmA, .ref cgA, .ref dwA])), (veA, .inl (cA, 8, .inl (aN gve))), (lkA, .inl (cA, 8, .inl (aM glk)))] s.heap := hP
  have hl := lv_entry ([.ref md, .int p0, .int p1]) (n := 3) (Nat.le_of_ble_eq_true rfl)
  rw [lg_entry_eq]
  generalize (lg_sl ([.ref md, .int p0, .int p1]) ++ List.replicate (3 - (lg_sl ([.ref md, .int p0, .int p1])).length) Slot.unset).toArray = ls at hl ⊢
  have hl : lv_has ls 3 [(0, .ref md), (1, .int p0), (2, .int p1)] := hl
  refine lv_aload_n hx hb dX4_name_0 rfl (lv_at hl 0 rfl) ?_
  refine lv_iconst (v := nI 0) hx hb dX4_name_1 (by decide) ?_
  refine va_put (D := D) (ci := 6) (v := .int (nI 0)) (ty := .int) (C := RX4) (T := TX4) (N := 25) hx hb hts inX4_name_X4 tyX4 tyX4_ok nmX4 hown hK.1 hP hD hS 0 rfl rfl 0 (by decide) (hts _ lkX4_name_61) (fun _ h9 => h9) rfl (by decide +kernel) rfl rfl (Nat.le_of_ble_eq_true rfl) dX4_name_2 (fun H locs hP hD hS => ?_)
  have hP : va_P D vwCl [(md, .inr (6, [.int (nI 0), .int (nI mn), .int (nI mr), .ref veA, .ref lkA, .ref baA, .ref kiA, .ref fiA, .ref atA, .ref seA, .ref stA, .ref bsA, .ref lfA, .ref giA, .ref btA, .int (nI bc), .int (nI xc), .int (nI xd), .int (nI an), .int (nI fn), .ref gaA, .ref waA, .ref cmA, .ref cgA, .ref dwA])), (veA, .inl (cA, 8, .inl (aN gve))), (lkA, .inl (cA, 8, .inl (aM glk)))] H := hP
  have hD : va_D A [(md, .inr (6, [.int (nI 0), .int (nI mn), .int (nI mr), .ref veA, .ref lkA, .ref baA, .ref kiA, .ref fiA, .ref atA, .ref seA, .ref stA, .ref bsA, .ref lfA, .ref giA, .ref btA, .int (nI bc), .int (nI xc), .int (nI xd), .int (nI an), .int (nI fn), .ref gaA, .ref waA, .ref cmA, .ref cgA, .ref dwA])), (veA, .inl (cA, 8, .inl (aN gve))), (lkA, .inl (cA, 8, .inl (aM glk)))] := hD
  refine lv_iload_n hx hb dX4_name_5 rfl (lv_at hl 1 rfl) ?_
  refine lv_iconst (v := nI 1) hx hb dX4_name_6 (by decide) ?_
  refine lv_icmp_lt (tgt := 27) hx hb dX4_name_7 (by decide) (fun c_7 => ?_) (fun c_7 => ?_)
  · have ck : ¬ okV p0 p1 := fun q => q.1.1 c_7
    refine lv_bipush (v := -2) hx hb dX4_name_27 (by decide) ?_
    have eF : mnameF p0 p1 mn gve glk = ((-2), gve, glk, mn) := by unfold mnameF; (repeat' (first | with_reducible rfl | contradiction | (exfalso; omega) | split))
    have eW : ([(md, .inr (6, [.int (nI 0), .int (nI mn), .int (nI mr), .ref veA, .ref lkA, .ref baA, .ref kiA, .ref fiA, .ref atA, .ref seA, .ref stA, .ref bsA, .ref lfA, .ref giA, .ref btA, .int (nI bc), .int (nI xc), .int (nI xd), .int (nI an), .int (nI fn), .ref gaA, .ref waA, .ref cmA, .ref cgA, .ref dwA])), (veA, .inl (cA, 8, .inl (aN gve))), (lkA, .inl (cA, 8, .inl (aM glk)))] : va_W) = [(md, .inr (6, [.int (nI 0), .int (nI ((mnameF p0 p1 mn gve glk).2.2.2)), .int (nI mr), .ref veA, .ref lkA, .ref baA, .ref kiA, .ref fiA, .ref atA, .ref seA, .ref stA, .ref bsA, .ref lfA, .ref giA, .ref btA, .int (nI bc), .int (nI xc), .int (nI xd), .int (nI an), .int (nI fn), .ref gaA, .ref waA, .ref cmA, .ref cgA, .ref dwA])), (veA, .inl (cA, 8, .inl (aN ((mnameF p0 p1 mn gve glk).2.1)))), (lkA, .inl (cA, 8, .inl (aM ((mnameF p0 p1 mn gve glk).2.2.1))))] := by rw [eF]
    rw [eW] at hP hD
    exact W.iret (v := (-2)) hx hb hr (fun t ht hW => ⟨⟨(-2), (), rfl, (by rw [eF]), by rw [ht]; exact hP, hD⟩, hS.F ht⟩) hS.2.2 dX4_name_29
  · refine lv_iload_n hx hb dX4_name_10 rfl (lv_at hl 1 rfl) ?_
    refine lv_bipush (v := nI 6) hx hb dX4_name_11 (by decide) ?_
    refine lv_icmp_gt (tgt := 27) hx hb dX4_name_13 (by decide) (fun c_13 => ?_) (fun c_13 => ?_)
    · have ck : ¬ okV p0 p1 := fun q => q.1.2 c_13
      refine lv_bipush (v := -2) hx hb dX4_name_27 (by decide) ?_
      have eF : mnameF p0 p1 mn gve glk = ((-2), gve, glk, mn) := by unfold mnameF; (repeat' (first | with_reducible rfl | contradiction | (exfalso; omega) | split))
      have eW : ([(md, .inr (6, [.int (nI 0), .int (nI mn), .int (nI mr), .ref veA, .ref lkA, .ref baA, .ref kiA, .ref fiA, .ref atA, .ref seA, .ref stA, .ref bsA, .ref lfA, .ref giA, .ref btA, .int (nI bc), .int (nI xc), .int (nI xd), .int (nI an), .int (nI fn), .ref gaA, .ref waA, .ref cmA, .ref cgA, .ref dwA])), (veA, .inl (cA, 8, .inl (aN gve))), (lkA, .inl (cA, 8, .inl (aM glk)))] : va_W) = [(md, .inr (6, [.int (nI 0), .int (nI ((mnameF p0 p1 mn gve glk).2.2.2)), .int (nI mr), .ref veA, .ref lkA, .ref baA, .ref kiA, .ref fiA, .ref atA, .ref seA, .ref stA, .ref bsA, .ref lfA, .ref giA, .ref btA, .int (nI bc), .int (nI xc), .int (nI xd), .int (nI an), .int (nI fn), .ref gaA, .ref waA, .ref cmA, .ref cgA, .ref dwA])), (veA, .inl (cA, 8, .inl (aN ((mnameF p0 p1 mn gve glk).2.1)))), (lkA, .inl (cA, 8, .inl (aM ((mnameF p0 p1 mn gve glk).2.2.1))))] := by rw [eF]
      rw [eW] at hP hD
      exact W.iret (v := (-2)) hx hb hr (fun t ht hW => ⟨⟨(-2), (), rfl, (by rw [eF]), by rw [ht]; exact hP, hD⟩, hS.F ht⟩) hS.2.2 dX4_name_29
    · refine lv_iload_n hx hb dX4_name_16 rfl (lv_at hl 2 rfl) ?_
      refine lv_iconst (v := -1) hx hb dX4_name_17 (by decide) ?_
      refine lv_icmp_lt (tgt := 27) hx hb dX4_name_18 (by decide) (fun c_18 => ?_) (fun c_18 => ?_)
      · have ck : ¬ okV p0 p1 := fun q => q.2.1 c_18
        refine lv_bipush (v := -2) hx hb dX4_name_27 (by decide) ?_
        have eF : mnameF p0 p1 mn gve glk = ((-2), gve, glk, mn) := by unfold mnameF; (repeat' (first | with_reducible rfl | contradiction | (exfalso; omega) | split))
        have eW : ([(md, .inr (6, [.int (nI 0), .int (nI mn), .int (nI mr), .ref veA, .ref lkA, .ref baA, .ref kiA, .ref fiA, .ref atA, .ref seA, .ref stA, .ref bsA, .ref lfA, .ref giA, .ref btA, .int (nI bc), .int (nI xc), .int (nI xd), .int (nI an), .int (nI fn), .ref gaA, .ref waA, .ref cmA, .ref cgA, .ref dwA])), (veA, .inl (cA, 8, .inl (aN gve))), (lkA, .inl (cA, 8, .inl (aM glk)))] : va_W) = [(md, .inr (6, [.int (nI 0), .int (nI ((mnameF p0 p1 mn gve glk).2.2.2)), .int (nI mr), .ref veA, .ref lkA, .ref baA, .ref kiA, .ref fiA, .ref atA, .ref seA, .ref stA, .ref bsA, .ref lfA, .ref giA, .ref btA, .int (nI bc), .int (nI xc), .int (nI xd), .int (nI an), .int (nI fn), .ref gaA, .ref waA, .ref cmA, .ref cgA, .ref dwA])), (veA, .inl (cA, 8, .inl (aN ((mnameF p0 p1 mn gve glk).2.1)))), (lkA, .inl (cA, 8, .inl (aM ((mnameF p0 p1 mn gve glk).2.2.1))))] := by rw [eF]
        rw [eW] at hP hD
        exact W.iret (v := (-2)) hx hb hr (fun t ht hW => ⟨⟨(-2), (), rfl, (by rw [eF]), by rw [ht]; exact hP, hD⟩, hS.F ht⟩) hS.2.2 dX4_name_29
      · refine lv_iload_n hx hb dX4_name_21 rfl (lv_at hl 2 rfl) ?_
        refine lv_bipush (v := nI 9) hx hb dX4_name_22 (by decide) ?_
        refine lv_icmp_le (tgt := 30) hx hb dX4_name_24 (by decide) (fun c_24 => ?_) (fun c_24 => ?_)
        · have ck : okV p0 p1 := ⟨⟨c_7, c_13⟩, c_18, c_24⟩
          obtain ⟨e1, b1, b2⟩ := rng_eq c_7 c_13
          obtain ⟨e2, b3⟩ := toC_eq c_18 c_24
          have hl : lv_has ls 3 [(0, .ref md), (1, .int (nI (toN p0))), (2, .int p1)] := by rw [← e1]; exact hl
          have hl : lv_has ls 3 [(0, .ref md), (1, .int (nI (toN p0))), (2, .int (mI (toC p1)))] := by rw [← e2]; exact hl
          refine lv_aload_n hx hb dX4_name_30 rfl (lv_at hl 0 rfl) ?_
          refine va_get (D := D) (ci := 6) (v := .int (nI mn)) (C := RX4) (T := TX4) (N := 25) hx hb hts inX4_name_X4 hown hK.1 hP 0 rfl rfl 1 (by decide) (hts _ lkX4_name_65) (fun _ h9 => h9) rfl dX4_name_31 ?_
          refine lv_bipush (v := nI 8) hx hb dX4_name_34 (by decide) ?_
          refine nn_icmp_ne (tgt := 42) hx hb dX4_name_36 (by decide) (by omega) (by omega) (fun c_36 => ?_) (fun c_36 => ?_)
          · refine lv_aload_n hx hb dX4_name_42 rfl (lv_at hl 0 rfl) ?_
            refine va_get (D := D) (ci := 6) (v := .ref veA) (C := RX4) (T := TX4) (N := 25) hx hb hts inX4_name_X4 hown hK.1 hP 0 rfl rfl 3 (by decide) (hts _ lkX4_name_7) (fun _ h9 => h9) rfl dX4_name_43 ?_
            refine lv_aload_n hx hb dX4_name_46 rfl (lv_at hl 0 rfl) ?_
            refine va_get (D := D) (ci := 6) (v := .int (nI mn)) (C := RX4) (T := TX4) (N := 25) hx hb hts inX4_name_X4 hown hK.1 hP 0 rfl rfl 1 (by decide) (hts _ lkX4_name_65) (fun _ h9 => h9) rfl dX4_name_47 ?_
            refine lv_iload_n hx hb dX4_name_50 rfl (lv_at hl 1 rfl) ?_
            refine nn_ast hx hb hK hP hD hS 1 rfl (by omega) (by decide) dX4_name_51 (fun H locs hP hD hS => ?_)
            have hP : va_P D vwCl [(md, .inr (6, [.int (nI 0), .int (nI mn), .int (nI mr), .ref veA, .ref lkA, .ref baA, .ref kiA, .ref fiA, .ref atA, .ref seA, .ref stA, .ref bsA, .ref lfA, .ref giA, .ref btA, .int (nI bc), .int (nI xc), .int (nI xd), .int (nI an), .int (nI fn), .ref gaA, .ref waA, .ref cmA, .ref cgA, .ref dwA])), (veA, .inl (cA, 8, .inl (aN (va_up gve mn (toN p0))))), (lkA, .inl (cA, 8, .inl (aM glk)))] H := hP
            have hD : va_D A [(md, .inr (6, [.int (nI 0), .int (nI mn), .int (nI mr), .ref veA, .ref lkA, .ref baA, .ref kiA, .ref fiA, .ref atA, .ref seA, .ref stA, .ref bsA, .ref lfA, .ref giA, .ref btA, .int (nI bc), .int (nI xc), .int (nI xd), .int (nI an), .int (nI fn), .ref gaA, .ref waA, .ref cmA, .ref cgA, .ref dwA])), (veA, .inl (cA, 8, .inl (aN (va_up gve mn (toN p0))))), (lkA, .inl (cA, 8, .inl (aM glk)))] := hD
            refine lv_aload_n hx hb dX4_name_52 rfl (lv_at hl 0 rfl) ?_
            refine va_get (D := D) (ci := 6) (v := .ref lkA) (C := RX4) (T := TX4) (N := 25) hx hb hts inX4_name_X4 hown hK.1 hP 0 rfl rfl 4 (by decide) (hts _ lkX4_name_13) (fun _ h9 => h9) rfl dX4_name_53 ?_
            refine lv_aload_n hx hb dX4_name_56 rfl (lv_at hl 0 rfl) ?_
            refine va_get (D := D) (ci := 6) (v := .int (nI mn)) (C := RX4) (T := TX4) (N := 25) hx hb hts inX4_name_X4 hown hK.1 hP 0 rfl rfl 1 (by decide) (hts _ lkX4_name_65) (fun _ h9 => h9) rfl dX4_name_57 ?_
            refine lv_iload_n hx hb dX4_name_60 rfl (lv_at hl 2 rfl) ?_
            refine mm_ast hx hb hK hP hD hS 2 rfl (by omega) (by decide) dX4_name_61 (fun H locs hP hD hS => ?_)
            have hP : va_P D vwCl [(md, .inr (6, [.int (nI 0), .int (nI mn), .int (nI mr), .ref veA, .ref lkA, .ref baA, .ref kiA, .ref fiA, .ref atA, .ref seA, .ref stA, .ref bsA, .ref lfA, .ref giA, .ref btA, .int (nI bc), .int (nI xc), .int (nI xd), .int (nI an), .int (nI fn), .ref gaA, .ref waA, .ref cmA, .ref cgA, .ref dwA])), (veA, .inl (cA, 8, .inl (aN (va_up gve mn (toN p0))))), (lkA, .inl (cA, 8, .inl (aM (va_up glk mn (toC p1)))))] H := hP
            have hD : va_D A [(md, .inr (6, [.int (nI 0), .int (nI mn), .int (nI mr), .ref veA, .ref lkA, .ref baA, .ref kiA, .ref fiA, .ref atA, .ref seA, .ref stA, .ref bsA, .ref lfA, .ref giA, .ref btA, .int (nI bc), .int (nI xc), .int (nI xd), .int (nI an), .int (nI fn), .ref gaA, .ref waA, .ref cmA, .ref cgA, .ref dwA])), (veA, .inl (cA, 8, .inl (aN (va_up gve mn (toN p0))))), (lkA, .inl (cA, 8, .inl (aM (va_up glk mn (toC p1)))))] := hD
            refine lv_aload_n hx hb dX4_name_62 rfl (lv_at hl 0 rfl) ?_
            refine lv_dup hx hb dX4_name_63 rfl ?_
            refine va_get (D := D) (ci := 6) (v := .int (nI mn)) (C := RX4) (T := TX4) (N := 25) hx hb hts inX4_name_X4 hown hK.1 hP 0 rfl rfl 1 (by decide) (hts _ lkX4_name_65) (fun _ h9 => h9) rfl dX4_name_64 ?_
            refine lv_iconst (v := nI 1) hx hb dX4_name_67 (by decide) ?_
            refine nn_iadd hx hb dX4_name_68 ?_
            refine va_put (D := D) (ci := 6) (v := .int (nI (mn + 1))) (ty := .int) (C := RX4) (T := TX4) (N := 25) hx hb hts inX4_name_X4 tyX4 tyX4_ok nmX4 hown hK.1 hP hD hS 0 rfl rfl 1 (by decide) (hts _ lkX4_name_65) (fun _ h9 => h9) rfl (by decide +kernel) rfl rfl (Nat.le_of_ble_eq_true rfl) dX4_name_69 (fun H locs hP hD hS => ?_)
            have hP : va_P D vwCl [(md, .inr (6, [.int (nI 0), .int (nI (mn + 1)), .int (nI mr), .ref veA, .ref lkA, .ref baA, .ref kiA, .ref fiA, .ref atA, .ref seA, .ref stA, .ref bsA, .ref lfA, .ref giA, .ref btA, .int (nI bc), .int (nI xc), .int (nI xd), .int (nI an), .int (nI fn), .ref gaA, .ref waA, .ref cmA, .ref cgA, .ref dwA])), (veA, .inl (cA, 8, .inl (aN (va_up gve mn (toN p0))))), (lkA, .inl (cA, 8, .inl (aM (va_up glk mn (toC p1)))))] H := hP
            have hD : va_D A [(md, .inr (6, [.int (nI 0), .int (nI (mn + 1)), .int (nI mr), .ref veA, .ref lkA, .ref baA, .ref kiA, .ref fiA, .ref atA, .ref seA, .ref stA, .ref bsA, .ref lfA, .ref giA, .ref btA, .int (nI bc), .int (nI xc), .int (nI xd), .int (nI an), .int (nI fn), .ref gaA, .ref waA, .ref cmA, .ref cgA, .ref dwA])), (veA, .inl (cA, 8, .inl (aN (va_up gve mn (toN p0))))), (lkA, .inl (cA, 8, .inl (aM (va_up glk mn (toC p1)))))] := hD
            refine lv_aload_n hx hb dX4_name_72 rfl (lv_at hl 0 rfl) ?_
            refine va_get (D := D) (ci := 6) (v := .int (nI (mn + 1))) (C := RX4) (T := TX4) (N := 25) hx hb hts inX4_name_X4 hown hK.1 hP 0 rfl rfl 1 (by decide) (hts _ lkX4_name_65) (fun _ h9 => h9) rfl dX4_name_73 ?_
            refine lv_iconst (v := nI 1) hx hb dX4_name_76 (by decide) ?_
            refine nn_isub hx hb (by omega) dX4_name_77 ?_
            have eF : mnameF p0 p1 mn gve glk = ((nI ((mn + 1) - 1)), va_up gve mn (toN p0), va_up glk mn (toC p1), mn + 1) := by unfold mnameF; (repeat' (first | with_reducible rfl | contradiction | (exfalso; omega) | split))
            have eW : ([(md, .inr (6, [.int (nI 0), .int (nI (mn + 1)), .int (nI mr), .ref veA, .ref lkA, .ref baA, .ref kiA, .ref fiA, .ref atA, .ref seA, .ref stA, .ref bsA, .ref lfA, .ref giA, .ref btA, .int (nI bc), .int (nI xc), .int (nI xd), .int (nI an), .int (nI fn), .ref gaA, .ref waA, .ref cmA, .ref cgA, .ref dwA])), (veA, .inl (cA, 8, .inl (aN (va_up gve mn (toN p0))))), (lkA, .inl (cA, 8, .inl (aM (va_up glk mn (toC p1)))))] : va_W) = [(md, .inr (6, [.int (nI 0), .int (nI ((mnameF p0 p1 mn gve glk).2.2.2)), .int (nI mr), .ref veA, .ref lkA, .ref baA, .ref kiA, .ref fiA, .ref atA, .ref seA, .ref stA, .ref bsA, .ref lfA, .ref giA, .ref btA, .int (nI bc), .int (nI xc), .int (nI xd), .int (nI an), .int (nI fn), .ref gaA, .ref waA, .ref cmA, .ref cgA, .ref dwA])), (veA, .inl (cA, 8, .inl (aN ((mnameF p0 p1 mn gve glk).2.1)))), (lkA, .inl (cA, 8, .inl (aM ((mnameF p0 p1 mn gve glk).2.2.1))))] := by rw [eF]
            rw [eW] at hP hD
            exact W.iret (v := (nI ((mn + 1) - 1))) hx hb hr (fun t ht hW => ⟨⟨(nI ((mn + 1) - 1)), (), rfl, (by rw [eF]), by rw [ht]; exact hP, hD⟩, hS.F ht⟩) hS.2.2 dX4_name_78
          · refine lv_bipush (v := -4) hx hb dX4_name_39 (by decide) ?_
            have eF : mnameF p0 p1 mn gve glk = ((-4), gve, glk, mn) := by unfold mnameF; (repeat' (first | with_reducible rfl | contradiction | (exfalso; omega) | split))
            have eW : ([(md, .inr (6, [.int (nI 0), .int (nI mn), .int (nI mr), .ref veA, .ref lkA, .ref baA, .ref kiA, .ref fiA, .ref atA, .ref seA, .ref stA, .ref bsA, .ref lfA, .ref giA, .ref btA, .int (nI bc), .int (nI xc), .int (nI xd), .int (nI an), .int (nI fn), .ref gaA, .ref waA, .ref cmA, .ref cgA, .ref dwA])), (veA, .inl (cA, 8, .inl (aN gve))), (lkA, .inl (cA, 8, .inl (aM glk)))] : va_W) = [(md, .inr (6, [.int (nI 0), .int (nI ((mnameF p0 p1 mn gve glk).2.2.2)), .int (nI mr), .ref veA, .ref lkA, .ref baA, .ref kiA, .ref fiA, .ref atA, .ref seA, .ref stA, .ref bsA, .ref lfA, .ref giA, .ref btA, .int (nI bc), .int (nI xc), .int (nI xd), .int (nI an), .int (nI fn), .ref gaA, .ref waA, .ref cmA, .ref cgA, .ref dwA])), (veA, .inl (cA, 8, .inl (aN ((mnameF p0 p1 mn gve glk).2.1)))), (lkA, .inl (cA, 8, .inl (aM ((mnameF p0 p1 mn gve glk).2.2.1))))] := by rw [eF]
            rw [eW] at hP hD
            exact W.iret (v := (-4)) hx hb hr (fun t ht hW => ⟨⟨(-4), (), rfl, (by rw [eF]), by rw [ht]; exact hP, hD⟩, hS.F ht⟩) hS.2.2 dX4_name_41
        · have ck : ¬ okV p0 p1 := fun q => c_24 q.2.2
          refine lv_bipush (v := -2) hx hb dX4_name_27 (by decide) ?_
          have eF : mnameF p0 p1 mn gve glk = ((-2), gve, glk, mn) := by unfold mnameF; (repeat' (first | with_reducible rfl | contradiction | (exfalso; omega) | split))
          have eW : ([(md, .inr (6, [.int (nI 0), .int (nI mn), .int (nI mr), .ref veA, .ref lkA, .ref baA, .ref kiA, .ref fiA, .ref atA, .ref seA, .ref stA, .ref bsA, .ref lfA, .ref giA, .ref btA, .int (nI bc), .int (nI xc), .int (nI xd), .int (nI an), .int (nI fn), .ref gaA, .ref waA, .ref cmA, .ref cgA, .ref dwA])), (veA, .inl (cA, 8, .inl (aN gve))), (lkA, .inl (cA, 8, .inl (aM glk)))] : va_W) = [(md, .inr (6, [.int (nI 0), .int (nI ((mnameF p0 p1 mn gve glk).2.2.2)), .int (nI mr), .ref veA, .ref lkA, .ref baA, .ref kiA, .ref fiA, .ref atA, .ref seA, .ref stA, .ref bsA, .ref lfA, .ref giA, .ref btA, .int (nI bc), .int (nI xc), .int (nI xd), .int (nI an), .int (nI fn), .ref gaA, .ref waA, .ref cmA, .ref cgA, .ref dwA])), (veA, .inl (cA, 8, .inl (aN ((mnameF p0 p1 mn gve glk).2.1)))), (lkA, .inl (cA, 8, .inl (aM ((mnameF p0 p1 mn gve glk).2.2.1))))] := by rw [eF]
          rw [eW] at hP hD
          exact W.iret (v := (-2)) hx hb hr (fun t ht hW => ⟨⟨(-2), (), rfl, (by rw [eF]), by rw [ht]; exact hP, hD⟩, hS.F ht⟩) hS.2.2 dX4_name_29

theorem clX4_add_71 : Cond.constantLong RX4 71 (63) ∈ wsX4_add := by decide +kernel
theorem lkX4_add_19 : Cond.fieldLink RX4 19 "LeastChangeModel" "kind" "[I" ∈ wsX4_add := by decide +kernel
theorem lkX4_add_22 : Cond.fieldLink RX4 22 "LeastChangeModel" "first" "[I" ∈ wsX4_add := by decide +kernel
theorem lkX4_add_25 : Cond.fieldLink RX4 25 "LeastChangeModel" "at" "[I" ∈ wsX4_add := by decide +kernel
theorem lkX4_add_28 : Cond.fieldLink RX4 28 "LeastChangeModel" "second" "[I" ∈ wsX4_add := by decide +kernel
theorem lkX4_add_31 : Cond.fieldLink RX4 31 "LeastChangeModel" "set" "[I" ∈ wsX4_add := by decide +kernel
theorem lkX4_add_68 : Cond.fieldLink RX4 68 "LeastChangeModel" "rows" "I" ∈ wsX4_add := by decide +kernel
theorem inX4_add_X4 : ∀ w ∈ wsX40, w ∈ wsX4_add := by decide +kernel
set_option maxHeartbeats 4000000 in
set_option maxRecDepth 100000 in
theorem kX4_add (l : Launch) (D : va_G) (cA : ClassId) (sz : Nat) (md : Nat) (veA : Nat) (lkA : Nat) (baA : Nat) (kiA : Nat) (fiA : Nat) (atA : Nat) (seA : Nat) (stA : Nat) (bsA : Nat) (lfA : Nat) (giA : Nat) (btA : Nat) (gaA : Nat) (waA : Nat) (cmA : Nat) (cgA : Nat) (dwA : Nat) (th : Nat) (mn : Nat) (mr : Nat) (bc : Nat) (xc : Nat) (xd : Nat) (an : Nat) (fn : Nat) (gki : Nat → Nat) (gfi : Nat → Nat) (gat : Nat → Nat) (gse : Nat → Nat) (gst : Nat → Nat) (kd : Nat) (na : Nat) (vs : Nat) (ot : Nat) (dd : Int64) (hmr : mr ≤ 60) : zMi l yX4_add wsX4_add ({ frames := 0, cells := 0, slots := 0, locals := 0 }) D cA [.ref md, .int (nI kd), .int (nI na), .int (nI vs), .int (nI ot), .long dd] sz [(md, .inr (6, [.int (nI th), .int (nI mn), .int (nI mr), .ref veA, .ref lkA, .ref baA, .ref kiA, .ref fiA, .ref atA, .ref seA, .ref stA, .ref bsA, .ref lfA, .ref giA, .ref btA, .int (nI bc), .int (nI xc), .int (nI xd), .int (nI an), .int (nI fn), .ref gaA, .ref waA, .ref cmA, .ref cgA, .ref dwA])), (kiA, .inl (cA, 60, .inl (aN gki))), (fiA, .inl (cA, 60, .inl (aN gfi))), (atA, .inl (cA, 60, .inl (aN gat))), (seA, .inl (cA, 60, .inl (aN gse))), (stA, .inl (cA, 60, .inl (aN gst)))] [(md, .inr (6, [.int (nI th), .int (nI mn), .int (nI ((addF kd na vs ot dd mr gki gfi gat gse gst).2.2.2.2.2.2)), .ref veA, .ref lkA, .ref baA, .ref kiA, .ref fiA, .ref atA, .ref seA, .ref stA, .ref bsA, .ref lfA, .ref giA, .ref btA, .int (nI bc), .int (nI xc), .int (nI xd), .int (nI an), .int (nI fn), .ref gaA, .ref waA, .ref cmA, .ref cgA, .ref dwA])), (kiA, .inl (cA, 60, .inl (aN ((addF kd na vs ot dd mr gki gfi gat gse gst).2.1)))), (fiA, .inl (cA, 60, .inl (aN ((addF kd na vs ot dd mr gki gfi gat gse gst).2.2.1)))), (atA, .inl (cA, 60, .inl (aN ((addF kd na vs ot dd mr gki gfi gat gse gst).2.2.2.1)))), (seA, .inl (cA, 60, .inl (aN ((addF kd na vs ot dd mr gki gfi gat gse gst).2.2.2.2.1)))), (stA, .inl (cA, 60, .inl (aN ((addF kd na vs ot dd mr gki gfi gat gse gst).2.2.2.2.2.1))))] ((addF kd na vs ot dd mr gki gfi gat gse gst).1) := by
  refine Met.ofW (cc := cX4_add) (maxL := 7) (ret := (some .int)) (by decide) rfl ?_
  intro p e s m args below meth c s₁ B hml hv
  obtain ⟨rfl, hsz, hP, hK, hD0⟩ := hv
  have hx := B.exec
  have hb := B.bytes
  have hr := B.returns
  have hts := atoms_spec (ws := wsX4_add) B.pre
  have hown : s.vm.findClass RX4 = some m.cls := findClass_of_methodNamed B.named
  have hlocks := B.notSynchronized
  subst hsz
  have hD := hD0.self (sz := s.heap.size)
  generalize hAe : va_A [(md, .inr (6, [.int (nI th), .int (nI mn), .int (nI mr), .ref veA, .ref lkA, .ref baA, .ref kiA, .ref fiA, .ref atA, .ref seA, .ref stA, .ref bsA, .ref lfA, .ref giA, .ref btA, .int (nI bc), .int (nI xc), .int (nI xd), .int (nI an), .int (nI fn), .ref gaA, .ref waA, .ref cmA, .ref cgA, .ref dwA])), (kiA, .inl (cA, 60, .inl (aN gki))), (fiA, .inl (cA, 60, .inl (aN gfi))), (atA, .inl (cA, 60, .inl (aN gat))), (seA, .inl (cA, 60, .inl (aN gse))), (stA, .inl (cA, 60, .inl (aN gst)))] s.heap.size = A at hD ⊢
  have hA : ∀ q : Nat, s.heap.size ≤ q → A q := fun q h => by rw [← hAe]; exact Or.inr h
  have hS : va_S A s.heap s.heap [] := va_S.rf
  have hP : va_P D vwCl [(md, .inr (6, [.int (nI th), .int (nI mn), .int (nI mr), .ref veA, .ref lkA, .ref baA, .ref kiA, .ref fiA, .ref atA, .ref seA, .ref stA, .ref bsA, .ref lfA, .ref giA, .ref btA, .int (nI bc), .int (nI xc), .int (nI xd), .int (nI an), .int (nI fn), .ref gaA, .ref waA, .ref cmA, .ref cgA, .ref dwA])), (kiA, .inl (cA, 60, .inl (aN gki))), (fiA, .inl (cA, 60, .inl (aN gfi))), (atA, .inl (cA, 60, .inl (aN gat))), (seA, .inl (cA, 60, .inl (aN gse))), (stA, .inl (cA, 60, .inl (aN gst)))] s.heap := hP
  have hl := lv_entry ([.ref md, .int (nI kd), .int (nI na), .int (nI vs), .int (nI ot), .long dd]) (n := 7) (Nat.le_of_ble_eq_true rfl)
  rw [lg_entry_eq]
  generalize (lg_sl ([.ref md, .int (nI kd), .int (nI na), .int (nI vs), .int (nI ot), .long dd]) ++ List.replicate (7 - (lg_sl ([.ref md, .int (nI kd), .int (nI na), .int (nI vs), .int (nI ot), .long dd])).length) Slot.unset).toArray = ls at hl ⊢
  have hl : lv_has ls 7 [(0, .ref md), (1, .int (nI kd)), (2, .int (nI na)), (3, .int (nI vs)), (4, .int (nI ot)), (5, .long dd)] := hl
  refine lv_aload_n hx hb dX4_add_0 rfl (lv_at hl 0 rfl) ?_
  refine va_get (D := D) (ci := 6) (v := .int (nI mr)) (C := RX4) (T := TX4) (N := 25) hx hb hts inX4_add_X4 hown hK.1 hP 0 rfl rfl 2 (by decide) (hts _ lkX4_add_68) (fun _ h9 => h9) rfl dX4_add_1 ?_
  refine lv_bipush (v := nI 60) hx hb dX4_add_4 (by decide) ?_
  refine nn_icmp_ne (tgt := 12) hx hb dX4_add_6 (by decide) (by omega) (by omega) (fun c_6 => ?_) (fun c_6 => ?_)
  · refine lv_aload_n hx hb dX4_add_12 rfl (lv_at hl 0 rfl) ?_
    refine va_get (D := D) (ci := 6) (v := .ref kiA) (C := RX4) (T := TX4) (N := 25) hx hb hts inX4_add_X4 hown hK.1 hP 0 rfl rfl 6 (by decide) (hts _ lkX4_add_19) (fun _ h9 => h9) rfl dX4_add_13 ?_
    refine lv_aload_n hx hb dX4_add_16 rfl (lv_at hl 0 rfl) ?_
    refine va_get (D := D) (ci := 6) (v := .int (nI mr)) (C := RX4) (T := TX4) (N := 25) hx hb hts inX4_add_X4 hown hK.1 hP 0 rfl rfl 2 (by decide) (hts _ lkX4_add_68) (fun _ h9 => h9) rfl dX4_add_17 ?_
    refine lv_iload_n hx hb dX4_add_20 rfl (lv_at hl 1 rfl) ?_
    refine nn_ast hx hb hK hP hD hS 1 rfl (by omega) (by decide) dX4_add_21 (fun H locs hP hD hS => ?_)
    have hP : va_P D vwCl [(md, .inr (6, [.int (nI th), .int (nI mn), .int (nI mr), .ref veA, .ref lkA, .ref baA, .ref kiA, .ref fiA, .ref atA, .ref seA, .ref stA, .ref bsA, .ref lfA, .ref giA, .ref btA, .int (nI bc), .int (nI xc), .int (nI xd), .int (nI an), .int (nI fn), .ref gaA, .ref waA, .ref cmA, .ref cgA, .ref dwA])), (kiA, .inl (cA, 60, .inl (aN (va_up gki mr kd)))), (fiA, .inl (cA, 60, .inl (aN gfi))), (atA, .inl (cA, 60, .inl (aN gat))), (seA, .inl (cA, 60, .inl (aN gse))), (stA, .inl (cA, 60, .inl (aN gst)))] H := hP
    have hD : va_D A [(md, .inr (6, [.int (nI th), .int (nI mn), .int (nI mr), .ref veA, .ref lkA, .ref baA, .ref kiA, .ref fiA, .ref atA, .ref seA, .ref stA, .ref bsA, .ref lfA, .ref giA, .ref btA, .int (nI bc), .int (nI xc), .int (nI xd), .int (nI an), .int (nI fn), .ref gaA, .ref waA, .ref cmA, .ref cgA, .ref dwA])), (kiA, .inl (cA, 60, .inl (aN (va_up gki mr kd)))), (fiA, .inl (cA, 60, .inl (aN gfi))), (atA, .inl (cA, 60, .inl (aN gat))), (seA, .inl (cA, 60, .inl (aN gse))), (stA, .inl (cA, 60, .inl (aN gst)))] := hD
    refine lv_aload_n hx hb dX4_add_22 rfl (lv_at hl 0 rfl) ?_
    refine va_get (D := D) (ci := 6) (v := .ref fiA) (C := RX4) (T := TX4) (N := 25) hx hb hts inX4_add_X4 hown hK.1 hP 0 rfl rfl 7 (by decide) (hts _ lkX4_add_22) (fun _ h9 => h9) rfl dX4_add_23 ?_
    refine lv_aload_n hx hb dX4_add_26 rfl (lv_at hl 0 rfl) ?_
    refine va_get (D := D) (ci := 6) (v := .int (nI mr)) (C := RX4) (T := TX4) (N := 25) hx hb hts inX4_add_X4 hown hK.1 hP 0 rfl rfl 2 (by decide) (hts _ lkX4_add_68) (fun _ h9 => h9) rfl dX4_add_27 ?_
    refine lv_iload_n hx hb dX4_add_30 rfl (lv_at hl 2 rfl) ?_
    refine nn_ast hx hb hK hP hD hS 2 rfl (by omega) (by decide) dX4_add_31 (fun H locs hP hD hS => ?_)
    have hP : va_P D vwCl [(md, .inr (6, [.int (nI th), .int (nI mn), .int (nI mr), .ref veA, .ref lkA, .ref baA, .ref kiA, .ref fiA, .ref atA, .ref seA, .ref stA, .ref bsA, .ref lfA, .ref giA, .ref btA, .int (nI bc), .int (nI xc), .int (nI xd), .int (nI an), .int (nI fn), .ref gaA, .ref waA, .ref cmA, .ref cgA, .ref dwA])), (kiA, .inl (cA, 60, .inl (aN (va_up gki mr kd)))), (fiA, .inl (cA, 60, .inl (aN (va_up gfi mr na)))), (atA, .inl (cA, 60, .inl (aN gat))), (seA, .inl (cA, 60, .inl (aN gse))), (stA, .inl (cA, 60, .inl (aN gst)))] H := hP
    have hD : va_D A [(md, .inr (6, [.int (nI th), .int (nI mn), .int (nI mr), .ref veA, .ref lkA, .ref baA, .ref kiA, .ref fiA, .ref atA, .ref seA, .ref stA, .ref bsA, .ref lfA, .ref giA, .ref btA, .int (nI bc), .int (nI xc), .int (nI xd), .int (nI an), .int (nI fn), .ref gaA, .ref waA, .ref cmA, .ref cgA, .ref dwA])), (kiA, .inl (cA, 60, .inl (aN (va_up gki mr kd)))), (fiA, .inl (cA, 60, .inl (aN (va_up gfi mr na)))), (atA, .inl (cA, 60, .inl (aN gat))), (seA, .inl (cA, 60, .inl (aN gse))), (stA, .inl (cA, 60, .inl (aN gst)))] := hD
    refine lv_aload_n hx hb dX4_add_32 rfl (lv_at hl 0 rfl) ?_
    refine va_get (D := D) (ci := 6) (v := .ref atA) (C := RX4) (T := TX4) (N := 25) hx hb hts inX4_add_X4 hown hK.1 hP 0 rfl rfl 8 (by decide) (hts _ lkX4_add_25) (fun _ h9 => h9) rfl dX4_add_33 ?_
    refine lv_aload_n hx hb dX4_add_36 rfl (lv_at hl 0 rfl) ?_
    refine va_get (D := D) (ci := 6) (v := .int (nI mr)) (C := RX4) (T := TX4) (N := 25) hx hb hts inX4_add_X4 hown hK.1 hP 0 rfl rfl 2 (by decide) (hts _ lkX4_add_68) (fun _ h9 => h9) rfl dX4_add_37 ?_
    refine lv_iload_n hx hb dX4_add_40 rfl (lv_at hl 3 rfl) ?_
    refine nn_ast hx hb hK hP hD hS 3 rfl (by omega) (by decide) dX4_add_41 (fun H locs hP hD hS => ?_)
    have hP : va_P D vwCl [(md, .inr (6, [.int (nI th), .int (nI mn), .int (nI mr), .ref veA, .ref lkA, .ref baA, .ref kiA, .ref fiA, .ref atA, .ref seA, .ref stA, .ref bsA, .ref lfA, .ref giA, .ref btA, .int (nI bc), .int (nI xc), .int (nI xd), .int (nI an), .int (nI fn), .ref gaA, .ref waA, .ref cmA, .ref cgA, .ref dwA])), (kiA, .inl (cA, 60, .inl (aN (va_up gki mr kd)))), (fiA, .inl (cA, 60, .inl (aN (va_up gfi mr na)))), (atA, .inl (cA, 60, .inl (aN (va_up gat mr vs)))), (seA, .inl (cA, 60, .inl (aN gse))), (stA, .inl (cA, 60, .inl (aN gst)))] H := hP
    have hD : va_D A [(md, .inr (6, [.int (nI th), .int (nI mn), .int (nI mr), .ref veA, .ref lkA, .ref baA, .ref kiA, .ref fiA, .ref atA, .ref seA, .ref stA, .ref bsA, .ref lfA, .ref giA, .ref btA, .int (nI bc), .int (nI xc), .int (nI xd), .int (nI an), .int (nI fn), .ref gaA, .ref waA, .ref cmA, .ref cgA, .ref dwA])), (kiA, .inl (cA, 60, .inl (aN (va_up gki mr kd)))), (fiA, .inl (cA, 60, .inl (aN (va_up gfi mr na)))), (atA, .inl (cA, 60, .inl (aN (va_up gat mr vs)))), (seA, .inl (cA, 60, .inl (aN gse))), (stA, .inl (cA, 60, .inl (aN gst)))] := hD
    refine lv_aload_n hx hb dX4_add_42 rfl (lv_at hl 0 rfl) ?_
    refine va_get (D := D) (ci := 6) (v := .ref seA) (C := RX4) (T := TX4) (N := 25) hx hb hts inX4_add_X4 hown hK.1 hP 0 rfl rfl 9 (by decide) (hts _ lkX4_add_28) (fun _ h9 => h9) rfl dX4_add_43 ?_
    refine lv_aload_n hx hb dX4_add_46 rfl (lv_at hl 0 rfl) ?_
    refine va_get (D := D) (ci := 6) (v := .int (nI mr)) (C := RX4) (T := TX4) (N := 25) hx hb hts inX4_add_X4 hown hK.1 hP 0 rfl rfl 2 (by decide) (hts _ lkX4_add_68) (fun _ h9 => h9) rfl dX4_add_47 ?_
    refine lv_iload hx hb dX4_add_50 (lv_at hl 4 rfl) ?_
    refine nn_ast hx hb hK hP hD hS 4 rfl (by omega) (by decide) dX4_add_52 (fun H locs hP hD hS => ?_)
    have hP : va_P D vwCl [(md, .inr (6, [.int (nI th), .int (nI mn), .int (nI mr), .ref veA, .ref lkA, .ref baA, .ref kiA, .ref fiA, .ref atA, .ref seA, .ref stA, .ref bsA, .ref lfA, .ref giA, .ref btA, .int (nI bc), .int (nI xc), .int (nI xd), .int (nI an), .int (nI fn), .ref gaA, .ref waA, .ref cmA, .ref cgA, .ref dwA])), (kiA, .inl (cA, 60, .inl (aN (va_up gki mr kd)))), (fiA, .inl (cA, 60, .inl (aN (va_up gfi mr na)))), (atA, .inl (cA, 60, .inl (aN (va_up gat mr vs)))), (seA, .inl (cA, 60, .inl (aN (va_up gse mr ot)))), (stA, .inl (cA, 60, .inl (aN gst)))] H := hP
    have hD : va_D A [(md, .inr (6, [.int (nI th), .int (nI mn), .int (nI mr), .ref veA, .ref lkA, .ref baA, .ref kiA, .ref fiA, .ref atA, .ref seA, .ref stA, .ref bsA, .ref lfA, .ref giA, .ref btA, .int (nI bc), .int (nI xc), .int (nI xd), .int (nI an), .int (nI fn), .ref gaA, .ref waA, .ref cmA, .ref cgA, .ref dwA])), (kiA, .inl (cA, 60, .inl (aN (va_up gki mr kd)))), (fiA, .inl (cA, 60, .inl (aN (va_up gfi mr na)))), (atA, .inl (cA, 60, .inl (aN (va_up gat mr vs)))), (seA, .inl (cA, 60, .inl (aN (va_up gse mr ot)))), (stA, .inl (cA, 60, .inl (aN gst)))] := hD
    refine lv_aload_n hx hb dX4_add_53 rfl (lv_at hl 0 rfl) ?_
    refine va_get (D := D) (ci := 6) (v := .ref stA) (C := RX4) (T := TX4) (N := 25) hx hb hts inX4_add_X4 hown hK.1 hP 0 rfl rfl 10 (by decide) (hts _ lkX4_add_31) (fun _ h9 => h9) rfl dX4_add_54 ?_
    refine lv_aload_n hx hb dX4_add_57 rfl (lv_at hl 0 rfl) ?_
    refine va_get (D := D) (ci := 6) (v := .int (nI mr)) (C := RX4) (T := TX4) (N := 25) hx hb hts inX4_add_X4 hown hK.1 hP 0 rfl rfl 2 (by decide) (hts _ lkX4_add_68) (fun _ h9 => h9) rfl dX4_add_58 ?_
    refine lv_lload hx hb dX4_add_61 (lv_at hl 5 rfl) ?_
    refine lv_ldc2 (v := 63) hx hb hown (hts _ clX4_add_71) dX4_add_63 ?_
    refine lv_land hx hb dX4_add_66 ?_
    refine lv_l2i hx hb dX4_add_67 rfl ?_
    refine zz_top (y := (nI (lo6 dd))) (and63 dd) ?_
    refine nn_ast hx hb hK hP hD hS 5 rfl (by omega) (by decide) dX4_add_68 (fun H locs hP hD hS => ?_)
    have hP : va_P D vwCl [(md, .inr (6, [.int (nI th), .int (nI mn), .int (nI mr), .ref veA, .ref lkA, .ref baA, .ref kiA, .ref fiA, .ref atA, .ref seA, .ref stA, .ref bsA, .ref lfA, .ref giA, .ref btA, .int (nI bc), .int (nI xc), .int (nI xd), .int (nI an), .int (nI fn), .ref gaA, .ref waA, .ref cmA, .ref cgA, .ref dwA])), (kiA, .inl (cA, 60, .inl (aN (va_up gki mr kd)))), (fiA, .inl (cA, 60, .inl (aN (va_up gfi mr na)))), (atA, .inl (cA, 60, .inl (aN (va_up gat mr vs)))), (seA, .inl (cA, 60, .inl (aN (va_up gse mr ot)))), (stA, .inl (cA, 60, .inl (aN (va_up gst mr (lo6 dd)))))] H := hP
    have hD : va_D A [(md, .inr (6, [.int (nI th), .int (nI mn), .int (nI mr), .ref veA, .ref lkA, .ref baA, .ref kiA, .ref fiA, .ref atA, .ref seA, .ref stA, .ref bsA, .ref lfA, .ref giA, .ref btA, .int (nI bc), .int (nI xc), .int (nI xd), .int (nI an), .int (nI fn), .ref gaA, .ref waA, .ref cmA, .ref cgA, .ref dwA])), (kiA, .inl (cA, 60, .inl (aN (va_up gki mr kd)))), (fiA, .inl (cA, 60, .inl (aN (va_up gfi mr na)))), (atA, .inl (cA, 60, .inl (aN (va_up gat mr vs)))), (seA, .inl (cA, 60, .inl (aN (va_up gse mr ot)))), (stA, .inl (cA, 60, .inl (aN (va_up gst mr (lo6 dd)))))] := hD
    refine lv_aload_n hx hb dX4_add_69 rfl (lv_at hl 0 rfl) ?_
    refine lv_dup hx hb dX4_add_70 rfl ?_
    refine va_get (D := D) (ci := 6) (v := .int (nI mr)) (C := RX4) (T := TX4) (N := 25) hx hb hts inX4_add_X4 hown hK.1 hP 0 rfl rfl 2 (by decide) (hts _ lkX4_add_68) (fun _ h9 => h9) rfl dX4_add_71 ?_
    refine lv_iconst (v := nI 1) hx hb dX4_add_74 (by decide) ?_
    refine nn_iadd hx hb dX4_add_75 ?_
    refine va_put (D := D) (ci := 6) (v := .int (nI (mr + 1))) (ty := .int) (C := RX4) (T := TX4) (N := 25) hx hb hts inX4_add_X4 tyX4 tyX4_ok nmX4 hown hK.1 hP hD hS 0 rfl rfl 2 (by decide) (hts _ lkX4_add_68) (fun _ h9 => h9) rfl (by decide +kernel) rfl rfl (Nat.le_of_ble_eq_true rfl) dX4_add_76 (fun H locs hP hD hS => ?_)
    have hP : va_P D vwCl [(md, .inr (6, [.int (nI th), .int (nI mn), .int (nI (mr + 1)), .ref veA, .ref lkA, .ref baA, .ref kiA, .ref fiA, .ref atA, .ref seA, .ref stA, .ref bsA, .ref lfA, .ref giA, .ref btA, .int (nI bc), .int (nI xc), .int (nI xd), .int (nI an), .int (nI fn), .ref gaA, .ref waA, .ref cmA, .ref cgA, .ref dwA])), (kiA, .inl (cA, 60, .inl (aN (va_up gki mr kd)))), (fiA, .inl (cA, 60, .inl (aN (va_up gfi mr na)))), (atA, .inl (cA, 60, .inl (aN (va_up gat mr vs)))), (seA, .inl (cA, 60, .inl (aN (va_up gse mr ot)))), (stA, .inl (cA, 60, .inl (aN (va_up gst mr (lo6 dd)))))] H := hP
    have hD : va_D A [(md, .inr (6, [.int (nI th), .int (nI mn), .int (nI (mr + 1)), .ref veA, .ref lkA, .ref baA, .ref kiA, .ref fiA, .ref atA, .ref seA, .ref stA, .ref bsA, .ref lfA, .ref giA, .ref btA, .int (nI bc), .int (nI xc), .int (nI xd), .int (nI an), .int (nI fn), .ref gaA, .ref waA, .ref cmA, .ref cgA, .ref dwA])), (kiA, .inl (cA, 60, .inl (aN (va_up gki mr kd)))), (fiA, .inl (cA, 60, .inl (aN (va_up gfi mr na)))), (atA, .inl (cA, 60, .inl (aN (va_up gat mr vs)))), (seA, .inl (cA, 60, .inl (aN (va_up gse mr ot)))), (stA, .inl (cA, 60, .inl (aN (va_up gst mr (lo6 dd)))))] := hD
    refine lv_aload_n hx hb dX4_add_79 rfl (lv_at hl 0 rfl) ?_
    refine va_get (D := D) (ci := 6) (v := .int (nI (mr + 1))) (C := RX4) (T := TX4) (N := 25) hx hb hts inX4_add_X4 hown hK.1 hP 0 rfl rfl 2 (by decide) (hts _ lkX4_add_68) (fun _ h9 => h9) rfl dX4_add_80 ?_
    refine lv_iconst (v := nI 1) hx hb dX4_add_83 (by decide) ?_
    refine nn_isub hx hb (by omega) dX4_add_84 ?_
    have eF : addF kd na vs ot dd mr gki gfi gat gse gst = ((nI ((mr + 1) - 1)), va_up gki mr kd, va_up gfi mr na, va_up gat mr vs, va_up gse mr ot, va_up gst mr (lo6 dd), mr + 1) := by unfold addF; (repeat' (first | with_reducible rfl | contradiction | (exfalso; omega) | split))
    have eW : ([(md, .inr (6, [.int (nI th), .int (nI mn), .int (nI (mr + 1)), .ref veA, .ref lkA, .ref baA, .ref kiA, .ref fiA, .ref atA, .ref seA, .ref stA, .ref bsA, .ref lfA, .ref giA, .ref btA, .int (nI bc), .int (nI xc), .int (nI xd), .int (nI an), .int (nI fn), .ref gaA, .ref waA, .ref cmA, .ref cgA, .ref dwA])), (kiA, .inl (cA, 60, .inl (aN (va_up gki mr kd)))), (fiA, .inl (cA, 60, .inl (aN (va_up gfi mr na)))), (atA, .inl (cA, 60, .inl (aN (va_up gat mr vs)))), (seA, .inl (cA, 60, .inl (aN (va_up gse mr ot)))), (stA, .inl (cA, 60, .inl (aN (va_up gst mr (lo6 dd)))))] : va_W) = [(md, .inr (6, [.int (nI th), .int (nI mn), .int (nI ((addF kd na vs ot dd mr gki gfi gat gse gst).2.2.2.2.2.2)), .ref veA, .ref lkA, .ref baA, .ref kiA, .ref fiA, .ref atA, .ref seA, .ref stA, .ref bsA, .ref lfA, .ref giA, .ref btA, .int (nI bc), .int (nI xc), .int (nI xd), .int (nI an), .int (nI fn), .ref gaA, .ref waA, .ref cmA, .ref cgA, .ref dwA])), (kiA, .inl (cA, 60, .inl (aN ((addF kd na vs ot dd mr gki gfi gat gse gst).2.1)))), (fiA, .inl (cA, 60, .inl (aN ((addF kd na vs ot dd mr gki gfi gat gse gst).2.2.1)))), (atA, .inl (cA, 60, .inl (aN ((addF kd na vs ot dd mr gki gfi gat gse gst).2.2.2.1)))), (seA, .inl (cA, 60, .inl (aN ((addF kd na vs ot dd mr gki gfi gat gse gst).2.2.2.2.1)))), (stA, .inl (cA, 60, .inl (aN ((addF kd na vs ot dd mr gki gfi gat gse gst).2.2.2.2.2.1))))] := by rw [eF]
    rw [eW] at hP hD
    exact W.iret (v := (nI ((mr + 1) - 1))) hx hb hr (fun t ht hW => ⟨⟨(nI ((mr + 1) - 1)), (), rfl, (by rw [eF]), by rw [ht]; exact hP, hD⟩, hS.F ht⟩) hS.2.2 dX4_add_85
  · refine lv_bipush (v := -4) hx hb dX4_add_9 (by decide) ?_
    have eF : addF kd na vs ot dd mr gki gfi gat gse gst = ((-4), gki, gfi, gat, gse, gst, mr) := by unfold addF; (repeat' (first | with_reducible rfl | contradiction | (exfalso; omega) | split))
    have eW : ([(md, .inr (6, [.int (nI th), .int (nI mn), .int (nI mr), .ref veA, .ref lkA, .ref baA, .ref kiA, .ref fiA, .ref atA, .ref seA, .ref stA, .ref bsA, .ref lfA, .ref giA, .ref btA, .int (nI bc), .int (nI xc), .int (nI xd), .int (nI an), .int (nI fn), .ref gaA, .ref waA, .ref cmA, .ref cgA, .ref dwA])), (kiA, .inl (cA, 60, .inl (aN gki))), (fiA, .inl (cA, 60, .inl (aN gfi))), (atA, .inl (cA, 60, .inl (aN gat))), (seA, .inl (cA, 60, .inl (aN gse))), (stA, .inl (cA, 60, .inl (aN gst)))] : va_W) = [(md, .inr (6, [.int (nI th), .int (nI mn), .int (nI ((addF kd na vs ot dd mr gki gfi gat gse gst).2.2.2.2.2.2)), .ref veA, .ref lkA, .ref baA, .ref kiA, .ref fiA, .ref atA, .ref seA, .ref stA, .ref bsA, .ref lfA, .ref giA, .ref btA, .int (nI bc), .int (nI xc), .int (nI xd), .int (nI an), .int (nI fn), .ref gaA, .ref waA, .ref cmA, .ref cgA, .ref dwA])), (kiA, .inl (cA, 60, .inl (aN ((addF kd na vs ot dd mr gki gfi gat gse gst).2.1)))), (fiA, .inl (cA, 60, .inl (aN ((addF kd na vs ot dd mr gki gfi gat gse gst).2.2.1)))), (atA, .inl (cA, 60, .inl (aN ((addF kd na vs ot dd mr gki gfi gat gse gst).2.2.2.1)))), (seA, .inl (cA, 60, .inl (aN ((addF kd na vs ot dd mr gki gfi gat gse gst).2.2.2.2.1)))), (stA, .inl (cA, 60, .inl (aN ((addF kd na vs ot dd mr gki gfi gat gse gst).2.2.2.2.2.1))))] := by rw [eF]
    rw [eW] at hP hD
    exact W.iret (v := (-4)) hx hb hr (fun t ht hW => ⟨⟨(-4), (), rfl, (by rw [eF]), by rw [ht]; exact hP, hD⟩, hS.F ht⟩) hS.2.2 dX4_add_11


def mneedF (p0 p1 p2 : Int32) (dd : Int64) (mn mr : Nat) (gve gki gfi gat gse gst : Nat → Nat) : Int32 × (Nat → Nat) × (Nat → Nat) × (Nat → Nat) × (Nat → Nat) × (Nat → Nat) × Nat :=
  if isN p0 mn then (if isN p2 mn then (if isN p1 (gve (toN p0)) then addF 0 (toN p0) (toN p1) (toN p2) dd mr gki gfi gat gse gst else (-2, gki, gfi, gat, gse, gst, mr)) else (-1, gki, gfi, gat, gse, gst, mr)) else (-1, gki, gfi, gat, gse, gst, mr)
def msetF (xx : Int32) (kd : Nat) (dd : Int64) (mn mr : Nat) (gki gfi gat gse gst : Nat → Nat) : Int32 × (Nat → Nat) × (Nat → Nat) × (Nat → Nat) × (Nat → Nat) × (Nat → Nat) × Nat :=
  if isN xx mn then addF kd (toN xx) 0 0 dd mr gki gfi gat gse gst else (-1, gki, gfi, gat, gse, gst, mr)
def mgrpF (p0 p1 : Int32) (mn mr : Nat) (gki gfi gat gse gst : Nat → Nat) : Int32 × (Nat → Nat) × (Nat → Nat) × (Nat → Nat) × (Nat → Nat) × (Nat → Nat) × Nat :=
  if isN p0 mn then (if isN p1 mn then (if toN p0 = toN p1 then (-2, gki, gfi, gat, gse, gst, mr) else addF 3 (toN p0) 0 (toN p1) 0 mr gki gfi gat gse gst) else (-1, gki, gfi, gat, gse, gst, mr)) else (-1, gki, gfi, gat, gse, gst, mr)

theorem lkX4_needs_61 : Cond.fieldLink RX4 61 "LeastChangeModel" "thrown" "I" ∈ wsX4_needs := by decide +kernel
theorem lkX4_needs_7 : Cond.fieldLink RX4 7 "LeastChangeModel" "versions" "[I" ∈ wsX4_needs := by decide +kernel
theorem inX4_needs_X4 : ∀ w ∈ wsX40, w ∈ wsX4_needs := by decide +kernel
set_option maxHeartbeats 4000000 in
set_option maxRecDepth 100000 in
theorem kX4_needs (l : Launch) (D : va_G) (cA : ClassId) (sz : Nat) (md : Nat) (veA : Nat) (lkA : Nat) (baA : Nat) (kiA : Nat) (fiA : Nat) (atA : Nat) (seA : Nat) (stA : Nat) (bsA : Nat) (lfA : Nat) (giA : Nat) (btA : Nat) (gaA : Nat) (waA : Nat) (cmA : Nat) (cgA : Nat) (dwA : Nat) (th : Nat) (mn : Nat) (mr : Nat) (bc : Nat) (xc : Nat) (xd : Nat) (an : Nat) (fn : Nat) (gve : Nat → Nat) (gki : Nat → Nat) (gfi : Nat → Nat) (gat : Nat → Nat) (gse : Nat → Nat) (gst : Nat → Nat) (p0 : Int32) (p1 : Int32) (p2 : Int32) (dd : Int64) (hmn : mn ≤ 8) (hmr : mr ≤ 60) (hve : ∀ j, gve j ≤ 6) : zMi l yX4_needs wsX4_needs ({ frames := 1, cells := 0, slots := 0, locals := 26 }) D cA [.ref md, .int p0, .int p1, .int p2, .long dd] sz [(md, .inr (6, [.int (nI th), .int (nI mn), .int (nI mr), .ref veA, .ref lkA, .ref baA, .ref kiA, .ref fiA, .ref atA, .ref seA, .ref stA, .ref bsA, .ref lfA, .ref giA, .ref btA, .int (nI bc), .int (nI xc), .int (nI xd), .int (nI an), .int (nI fn), .ref gaA, .ref waA, .ref cmA, .ref cgA, .ref dwA])), (veA, .inl (cA, 8, .inl (aN gve))), (kiA, .inl (cA, 60, .inl (aN gki))), (fiA, .inl (cA, 60, .inl (aN gfi))), (atA, .inl (cA, 60, .inl (aN gat))), (seA, .inl (cA, 60, .inl (aN gse))), (stA, .inl (cA, 60, .inl (aN gst)))] [(md, .inr (6, [.int (nI 0), .int (nI mn), .int (nI ((mneedF p0 p1 p2 dd mn mr gve gki gfi gat gse gst).2.2.2.2.2.2)), .ref veA, .ref lkA, .ref baA, .ref kiA, .ref fiA, .ref atA, .ref seA, .ref stA, .ref bsA, .ref lfA, .ref giA, .ref btA, .int (nI bc), .int (nI xc), .int (nI xd), .int (nI an), .int (nI fn), .ref gaA, .ref waA, .ref cmA, .ref cgA, .ref dwA])), (veA, .inl (cA, 8, .inl (aN gve))), (kiA, .inl (cA, 60, .inl (aN ((mneedF p0 p1 p2 dd mn mr gve gki gfi gat gse gst).2.1)))), (fiA, .inl (cA, 60, .inl (aN ((mneedF p0 p1 p2 dd mn mr gve gki gfi gat gse gst).2.2.1)))), (atA, .inl (cA, 60, .inl (aN ((mneedF p0 p1 p2 dd mn mr gve gki gfi gat gse gst).2.2.2.1)))), (seA, .inl (cA, 60, .inl (aN ((mneedF p0 p1 p2 dd mn mr gve gki gfi gat gse gst).2.2.2.2.1)))), (stA, .inl (cA, 60, .inl (aN ((mneedF p0 p1 p2 dd mn mr gve gki gfi gat gse gst).2.2.2.2.2.1))))] ((mneedF p0 p1 p2 dd mn mr gve gki gfi gat gse gst).1) := by
  refine Met.ofW (cc := cX4_needs) (maxL := 6) (ret := (some .int)) (by decide) rfl ?_
  intro p e s m args below meth c s₁ B hml hv
  obtain ⟨rfl, hsz, hP, hK, hD0⟩ := hv
  have hx := B.exec
  have hb := B.bytes
  have hr := B.returns
  have hts := atoms_spec (ws := wsX4_needs) B.pre
  have hown : s.vm.findClass RX4 = some m.cls := findClass_of_methodNamed B.named
  have hlocks := B.notSynchronized
  subst hsz
  have hD := hD0.self (sz := s.heap.size)
  generalize hAe : va_A [(md, .inr (6, [.int (nI th), .int (nI mn), .int (nI mr), .ref veA, .ref lkA, .ref baA, .ref kiA, .ref fiA, .ref atA, .ref seA, .ref stA, .ref bsA, .ref lfA, .ref giA, .ref btA, .int (nI bc), .int (nI xc), .int (nI xd), .int (nI an), .int (nI fn), .ref gaA, .ref waA, .ref cmA, .ref cgA, .ref dwA])), (veA, .inl (cA, 8, .inl (aN gve))), (kiA, .inl (cA, 60, .inl (aN gki))), (fiA, .inl (cA, 60, .inl (aN gfi))), (atA, .inl (cA, 60, .inl (aN gat))), (seA, .inl (cA, 60, .inl (aN gse))), (stA, .inl (cA, 60, .inl (aN gst)))] s.heap.size = A at hD ⊢
  have hA : ∀ q : Nat, s.heap.size ≤ q → A q := fun q h => by rw [← hAe]; exact Or.inr h
  have hS : va_S A s.heap s.heap [] := va_S.rf
  have hP : va_P D vwCl [(md, .inr (6, [.int (nI th), .int (nI mn), .int (nI mr), .ref veA, .ref lkA, .ref baA, .ref kiA, .ref fiA, .ref atA, .ref seA, .ref stA, .ref bsA, .ref lfA, .ref giA, .ref btA, .int (nI bc), .int (nI xc), .int (nI xd), .int (nI an), .int (nI fn), .ref gaA, .ref waA, .ref cmA, .ref cgA, .ref dwA])), (veA, .inl (cA, 8, .inl (aN gve))), (kiA, .inl (cA, 60, .inl (aN gki))), (fiA, .inl (cA, 60, .inl (aN gfi))), (atA, .inl (cA, 60, .inl (aN gat))), (seA, .inl (cA, 60, .inl (aN gse))), (stA, .inl (cA, 60, .inl (aN gst)))] s.heap := hP
  have hl := lv_entry ([.ref md, .int p0, .int p1, .int p2, .long dd]) (n := 6) (Nat.le_of_ble_eq_true rfl)
  rw [lg_entry_eq]
  generalize (lg_sl ([.ref md, .int p0, .int p1, .int p2, .long dd]) ++ List.replicate (6 - (lg_sl ([.ref md, .int p0, .int p1, .int p2, .long dd])).length) Slot.unset).toArray = ls at hl ⊢
  have hl : lv_has ls 6 [(0, .ref md), (1, .int p0), (2, .int p1), (3, .int p2), (4, .long dd)] := hl
  refine lv_aload_n hx hb dX4_needs_0 rfl (lv_at hl 0 rfl) ?_
  refine lv_iconst (v := nI 0) hx hb dX4_needs_1 (by decide) ?_
  refine va_put (D := D) (ci := 6) (v := .int (nI 0)) (ty := .int) (C := RX4) (T := TX4) (N := 25) hx hb hts inX4_needs_X4 tyX4 tyX4_ok nmX4 hown hK.1 hP hD hS 0 rfl rfl 0 (by decide) (hts _ lkX4_needs_61) (fun _ h9 => h9) rfl (by decide +kernel) rfl rfl (Nat.le_of_ble_eq_true rfl) dX4_needs_2 (fun H locs hP hD hS => ?_)
  have hP : va_P D vwCl [(md, .inr (6, [.int (nI 0), .int (nI mn), .int (nI mr), .ref veA, .ref lkA, .ref baA, .ref kiA, .ref fiA, .ref atA, .ref seA, .ref stA, .ref bsA, .ref lfA, .ref giA, .ref btA, .int (nI bc), .int (nI xc), .int (nI xd), .int (nI an), .int (nI fn), .ref gaA, .ref waA, .ref cmA, .ref cgA, .ref dwA])), (veA, .inl (cA, 8, .inl (aN gve))), (kiA, .inl (cA, 60, .inl (aN gki))), (fiA, .inl (cA, 60, .inl (aN gfi))), (atA, .inl (cA, 60, .inl (aN gat))), (seA, .inl (cA, 60, .inl (aN gse))), (stA, .inl (cA, 60, .inl (aN gst)))] H := hP
  have hD : va_D A [(md, .inr (6, [.int (nI 0), .int (nI mn), .int (nI mr), .ref veA, .ref lkA, .ref baA, .ref kiA, .ref fiA, .ref atA, .ref seA, .ref stA, .ref bsA, .ref lfA, .ref giA, .ref btA, .int (nI bc), .int (nI xc), .int (nI xd), .int (nI an), .int (nI fn), .ref gaA, .ref waA, .ref cmA, .ref cgA, .ref dwA])), (veA, .inl (cA, 8, .inl (aN gve))), (kiA, .inl (cA, 60, .inl (aN gki))), (fiA, .inl (cA, 60, .inl (aN gfi))), (atA, .inl (cA, 60, .inl (aN gat))), (seA, .inl (cA, 60, .inl (aN gse))), (stA, .inl (cA, 60, .inl (aN gst)))] := hD
  refine lv_aload_n hx hb dX4_needs_5 rfl (lv_at hl 0 rfl) ?_
  refine lv_iload_n hx hb dX4_needs_6 rfl (lv_at hl 1 rfl) ?_
  refine zz_callI (av := []) (wc := [(md, .inr (6, [.int (nI 0), .int (nI mn), .int (nI mr), .ref veA, .ref lkA, .ref baA, .ref kiA, .ref fiA, .ref atA, .ref seA, .ref stA, .ref bsA, .ref lfA, .ref giA, .ref btA, .int (nI bc), .int (nI xc), .int (nI xd), .int (nI an), .int (nI fn), .ref gaA, .ref waA, .ref cmA, .ref cgA, .ref dwA]))]) (wr := [(veA, .inl (cA, 8, .inl (aN gve))), (kiA, .inl (cA, 60, .inl (aN gki))), (fiA, .inl (cA, 60, .inl (aN gfi))), (atA, .inl (cA, 60, .inl (aN gat))), (seA, .inl (cA, 60, .inl (aN gse))), (stA, .inl (cA, 60, .inl (aN gst)))]) hS hA hP hD [0] [1, 2, 3, 4, 5, 6] rfl rfl (by decide) (by decide) (va_runV (As := [.int p0]) (rest := []) ⟨hx, hb, hml, hown, hts⟩ (kX4_isName l D cA H.size md veA lkA baA kiA fiA atA seA stA bsA lfA giA btA gaA waA cmA cgA dwA 0 mn mr bc xc xd an fn p0 (by omega)) (cwV 1 hts gX4_needs_X4_isName rfl rfl rfl (by decide +kernel) ⟨Nat.le_of_ble_eq_true rfl, Nat.le_of_ble_eq_true rfl⟩) ⟨(zPreS (av := [.ref md, .int p0]) (wc := [(md, .inr (6, [.int (nI 0), .int (nI mn), .int (nI mr), .ref veA, .ref lkA, .ref baA, .ref kiA, .ref fiA, .ref atA, .ref seA, .ref stA, .ref bsA, .ref lfA, .ref giA, .ref btA, .int (nI bc), .int (nI xc), .int (nI xd), .int (nI an), .int (nI fn), .ref gaA, .ref waA, .ref cmA, .ref cgA, .ref dwA]))]) hK hP hD [0] rfl (by decide) rfl).1, (va_recv hK.1 hP (ci := 6) (q0 := 0) rfl rfl), (zPreS (av := [.ref md, .int p0]) (wc := [(md, .inr (6, [.int (nI 0), .int (nI mn), .int (nI mr), .ref veA, .ref lkA, .ref baA, .ref kiA, .ref fiA, .ref atA, .ref seA, .ref stA, .ref bsA, .ref lfA, .ref giA, .ref btA, .int (nI bc), .int (nI xc), .int (nI xd), .int (nI an), .int (nI fn), .ref gaA, .ref waA, .ref cmA, .ref cgA, .ref dwA]))]) hK hP hD [0] rfl (by decide) rfl).2⟩ rfl rfl hl.1 rfl (lv_room (Nat.le_of_ble_eq_true rfl)) dX4_needs_7 ⟨Nat.zero_le _, Nat.zero_le _⟩) (fun H locs hP hD hS => ?_)
  have hP : va_P D vwCl [(veA, .inl (cA, 8, .inl (aN gve))), (kiA, .inl (cA, 60, .inl (aN gki))), (fiA, .inl (cA, 60, .inl (aN gfi))), (atA, .inl (cA, 60, .inl (aN gat))), (seA, .inl (cA, 60, .inl (aN gse))), (stA, .inl (cA, 60, .inl (aN gst))), (md, .inr (6, [.int (nI 0), .int (nI mn), .int (nI mr), .ref veA, .ref lkA, .ref baA, .ref kiA, .ref fiA, .ref atA, .ref seA, .ref stA, .ref bsA, .ref lfA, .ref giA, .ref btA, .int (nI bc), .int (nI xc), .int (nI xd), .int (nI an), .int (nI fn), .ref gaA, .ref waA, .ref cmA, .ref cgA, .ref dwA]))] H := hP
  have hD : va_D A [(veA, .inl (cA, 8, .inl (aN gve))), (kiA, .inl (cA, 60, .inl (aN gki))), (fiA, .inl (cA, 60, .inl (aN gfi))), (atA, .inl (cA, 60, .inl (aN gat))), (seA, .inl (cA, 60, .inl (aN gse))), (stA, .inl (cA, 60, .inl (aN gst))), (md, .inr (6, [.int (nI 0), .int (nI mn), .int (nI mr), .ref veA, .ref lkA, .ref baA, .ref kiA, .ref fiA, .ref atA, .ref seA, .ref stA, .ref bsA, .ref lfA, .ref giA, .ref btA, .int (nI bc), .int (nI xc), .int (nI xd), .int (nI an), .int (nI fn), .ref gaA, .ref waA, .ref cmA, .ref cgA, .ref dwA]))] := hD
  have hP : va_P D vwCl [(md, .inr (6, [.int (nI 0), .int (nI mn), .int (nI mr), .ref veA, .ref lkA, .ref baA, .ref kiA, .ref fiA, .ref atA, .ref seA, .ref stA, .ref bsA, .ref lfA, .ref giA, .ref btA, .int (nI bc), .int (nI xc), .int (nI xd), .int (nI an), .int (nI fn), .ref gaA, .ref waA, .ref cmA, .ref cgA, .ref dwA])), (veA, .inl (cA, 8, .inl (aN gve))), (kiA, .inl (cA, 60, .inl (aN gki))), (fiA, .inl (cA, 60, .inl (aN gfi))), (atA, .inl (cA, 60, .inl (aN gat))), (seA, .inl (cA, 60, .inl (aN gse))), (stA, .inl (cA, 60, .inl (aN gst)))] H := hP.sub [6, 0, 1, 2, 3, 4, 5] rfl
  have hD : va_D A [(md, .inr (6, [.int (nI 0), .int (nI mn), .int (nI mr), .ref veA, .ref lkA, .ref baA, .ref kiA, .ref fiA, .ref atA, .ref seA, .ref stA, .ref bsA, .ref lfA, .ref giA, .ref btA, .int (nI bc), .int (nI xc), .int (nI xd), .int (nI an), .int (nI fn), .ref gaA, .ref waA, .ref cmA, .ref cgA, .ref dwA])), (veA, .inl (cA, 8, .inl (aN gve))), (kiA, .inl (cA, 60, .inl (aN gki))), (fiA, .inl (cA, 60, .inl (aN gfi))), (atA, .inl (cA, 60, .inl (aN gat))), (seA, .inl (cA, 60, .inl (aN gse))), (stA, .inl (cA, 60, .inl (aN gst)))] := hD.sub [6, 0, 1, 2, 3, 4, 5] (by decide) rfl
  refine nn_if_eq (tgt := 21) hx hb dX4_needs_10 (by decide) if01_lt (fun c_10 => ?_) (fun c_10 => ?_)
  · have c_10 := if01_eq c_10
    refine lv_iconst (v := -1) hx hb dX4_needs_21 (by decide) ?_
    have eF : mneedF p0 p1 p2 dd mn mr gve gki gfi gat gse gst = ((-1), gki, gfi, gat, gse, gst, mr) := by unfold mneedF; (repeat' (first | with_reducible rfl | contradiction | (exfalso; omega) | split))
    have eW : ([(md, .inr (6, [.int (nI 0), .int (nI mn), .int (nI mr), .ref veA, .ref lkA, .ref baA, .ref kiA, .ref fiA, .ref atA, .ref seA, .ref stA, .ref bsA, .ref lfA, .ref giA, .ref btA, .int (nI bc), .int (nI xc), .int (nI xd), .int (nI an), .int (nI fn), .ref gaA, .ref waA, .ref cmA, .ref cgA, .ref dwA])), (veA, .inl (cA, 8, .inl (aN gve))), (kiA, .inl (cA, 60, .inl (aN gki))), (fiA, .inl (cA, 60, .inl (aN gfi))), (atA, .inl (cA, 60, .inl (aN gat))), (seA, .inl (cA, 60, .inl (aN gse))), (stA, .inl (cA, 60, .inl (aN gst)))] : va_W) = [(md, .inr (6, [.int (nI 0), .int (nI mn), .int (nI ((mneedF p0 p1 p2 dd mn mr gve gki gfi gat gse gst).2.2.2.2.2.2)), .ref veA, .ref lkA, .ref baA, .ref kiA, .ref fiA, .ref atA, .ref seA, .ref stA, .ref bsA, .ref lfA, .ref giA, .ref btA, .int (nI bc), .int (nI xc), .int (nI xd), .int (nI an), .int (nI fn), .ref gaA, .ref waA, .ref cmA, .ref cgA, .ref dwA])), (veA, .inl (cA, 8, .inl (aN gve))), (kiA, .inl (cA, 60, .inl (aN ((mneedF p0 p1 p2 dd mn mr gve gki gfi gat gse gst).2.1)))), (fiA, .inl (cA, 60, .inl (aN ((mneedF p0 p1 p2 dd mn mr gve gki gfi gat gse gst).2.2.1)))), (atA, .inl (cA, 60, .inl (aN ((mneedF p0 p1 p2 dd mn mr gve gki gfi gat gse gst).2.2.2.1)))), (seA, .inl (cA, 60, .inl (aN ((mneedF p0 p1 p2 dd mn mr gve gki gfi gat gse gst).2.2.2.2.1)))), (stA, .inl (cA, 60, .inl (aN ((mneedF p0 p1 p2 dd mn mr gve gki gfi gat gse gst).2.2.2.2.2.1))))] := by rw [eF]
    rw [eW] at hP hD
    exact W.iret (v := (-1)) hx hb hr (fun t ht hW => ⟨⟨(-1), (), rfl, (by rw [eF]), by rw [ht]; exact hP, hD⟩, hS.F ht⟩) hS.2.2 dX4_needs_22
  · have c_10 := if01_ne c_10
    refine lv_aload_n hx hb dX4_needs_13 rfl (lv_at hl 0 rfl) ?_
    refine lv_iload_n hx hb dX4_needs_14 rfl (lv_at hl 3 rfl) ?_
    refine zz_callI (av := []) (wc := [(md, .inr (6, [.int (nI 0), .int (nI mn), .int (nI mr), .ref veA, .ref lkA, .ref baA, .ref kiA, .ref fiA, .ref atA, .ref seA, .ref stA, .ref bsA, .ref lfA, .ref giA, .ref btA, .int (nI bc), .int (nI xc), .int (nI xd), .int (nI an), .int (nI fn), .ref gaA, .ref waA, .ref cmA, .ref cgA, .ref dwA]))]) (wr := [(veA, .inl (cA, 8, .inl (aN gve))), (kiA, .inl (cA, 60, .inl (aN gki))), (fiA, .inl (cA, 60, .inl (aN gfi))), (atA, .inl (cA, 60, .inl (aN gat))), (seA, .inl (cA, 60, .inl (aN gse))), (stA, .inl (cA, 60, .inl (aN gst)))]) hS hA hP hD [0] [1, 2, 3, 4, 5, 6] rfl rfl (by decide) (by decide) (va_runV (As := [.int p2]) (rest := []) ⟨hx, hb, hml, hown, hts⟩ (kX4_isName l D cA H.size md veA lkA baA kiA fiA atA seA stA bsA lfA giA btA gaA waA cmA cgA dwA 0 mn mr bc xc xd an fn p2 (by omega)) (cwV 1 hts gX4_needs_X4_isName rfl rfl rfl (by decide +kernel) ⟨Nat.le_of_ble_eq_true rfl, Nat.le_of_ble_eq_true rfl⟩) ⟨(zPreS (av := [.ref md, .int p2]) (wc := [(md, .inr (6, [.int (nI 0), .int (nI mn), .int (nI mr), .ref veA, .ref lkA, .ref baA, .ref kiA, .ref fiA, .ref atA, .ref seA, .ref stA, .ref bsA, .ref lfA, .ref giA, .ref btA, .int (nI bc), .int (nI xc), .int (nI xd), .int (nI an), .int (nI fn), .ref gaA, .ref waA, .ref cmA, .ref cgA, .ref dwA]))]) hK hP hD [0] rfl (by decide) rfl).1, (va_recv hK.1 hP (ci := 6) (q0 := 0) rfl rfl), (zPreS (av := [.ref md, .int p2]) (wc := [(md, .inr (6, [.int (nI 0), .int (nI mn), .int (nI mr), .ref veA, .ref lkA, .ref baA, .ref kiA, .ref fiA, .ref atA, .ref seA, .ref stA, .ref bsA, .ref lfA, .ref giA, .ref btA, .int (nI bc), .int (nI xc), .int (nI xd), .int (nI an), .int (nI fn), .ref gaA, .ref waA, .ref cmA, .ref cgA, .ref dwA]))]) hK hP hD [0] rfl (by decide) rfl).2⟩ rfl rfl hl.1 rfl (lv_room (Nat.le_of_ble_eq_true rfl)) dX4_needs_15 ⟨Nat.zero_le _, Nat.zero_le _⟩) (fun H locs hP hD hS => ?_)
    have hP : va_P D vwCl [(veA, .inl (cA, 8, .inl (aN gve))), (kiA, .inl (cA, 60, .inl (aN gki))), (fiA, .inl (cA, 60, .inl (aN gfi))), (atA, .inl (cA, 60, .inl (aN gat))), (seA, .inl (cA, 60, .inl (aN gse))), (stA, .inl (cA, 60, .inl (aN gst))), (md, .inr (6, [.int (nI 0), .int (nI mn), .int (nI mr), .ref veA, .ref lkA, .ref baA, .ref kiA, .ref fiA, .ref atA, .ref seA, .ref stA, .ref bsA, .ref lfA, .ref giA, .ref btA, .int (nI bc), .int (nI xc), .int (nI xd), .int (nI an), .int (nI fn), .ref gaA, .ref waA, .ref cmA, .ref cgA, .ref dwA]))] H := hP
    have hD : va_D A [(veA, .inl (cA, 8, .inl (aN gve))), (kiA, .inl (cA, 60, .inl (aN gki))), (fiA, .inl (cA, 60, .inl (aN gfi))), (atA, .inl (cA, 60, .inl (aN gat))), (seA, .inl (cA, 60, .inl (aN gse))), (stA, .inl (cA, 60, .inl (aN gst))), (md, .inr (6, [.int (nI 0), .int (nI mn), .int (nI mr), .ref veA, .ref lkA, .ref baA, .ref kiA, .ref fiA, .ref atA, .ref seA, .ref stA, .ref bsA, .ref lfA, .ref giA, .ref btA, .int (nI bc), .int (nI xc), .int (nI xd), .int (nI an), .int (nI fn), .ref gaA, .ref waA, .ref cmA, .ref cgA, .ref dwA]))] := hD
    have hP : va_P D vwCl [(md, .inr (6, [.int (nI 0), .int (nI mn), .int (nI mr), .ref veA, .ref lkA, .ref baA, .ref kiA, .ref fiA, .ref atA, .ref seA, .ref stA, .ref bsA, .ref lfA, .ref giA, .ref btA, .int (nI bc), .int (nI xc), .int (nI xd), .int (nI an), .int (nI fn), .ref gaA, .ref waA, .ref cmA, .ref cgA, .ref dwA])), (veA, .inl (cA, 8, .inl (aN gve))), (kiA, .inl (cA, 60, .inl (aN gki))), (fiA, .inl (cA, 60, .inl (aN gfi))), (atA, .inl (cA, 60, .inl (aN gat))), (seA, .inl (cA, 60, .inl (aN gse))), (stA, .inl (cA, 60, .inl (aN gst)))] H := hP.sub [6, 0, 1, 2, 3, 4, 5] rfl
    have hD : va_D A [(md, .inr (6, [.int (nI 0), .int (nI mn), .int (nI mr), .ref veA, .ref lkA, .ref baA, .ref kiA, .ref fiA, .ref atA, .ref seA, .ref stA, .ref bsA, .ref lfA, .ref giA, .ref btA, .int (nI bc), .int (nI xc), .int (nI xd), .int (nI an), .int (nI fn), .ref gaA, .ref waA, .ref cmA, .ref cgA, .ref dwA])), (veA, .inl (cA, 8, .inl (aN gve))), (kiA, .inl (cA, 60, .inl (aN gki))), (fiA, .inl (cA, 60, .inl (aN gfi))), (atA, .inl (cA, 60, .inl (aN gat))), (seA, .inl (cA, 60, .inl (aN gse))), (stA, .inl (cA, 60, .inl (aN gst)))] := hD.sub [6, 0, 1, 2, 3, 4, 5] (by decide) rfl
    refine nn_if_ne (tgt := 23) hx hb dX4_needs_18 (by decide) if01_lt (fun c_18 => ?_) (fun c_18 => ?_)
    · have c_18 := if01_ne c_18
      have e1 := toN_eq (c_10).1
      have b1 : toN p0 < mn := isN_lt (by omega) c_10
      have hl : lv_has ls 6 [(0, .ref md), (1, .int (nI (toN p0))), (2, .int p1), (3, .int p2), (4, .long dd)] := by rw [← e1]; exact hl
      have e3 := toN_eq (c_18).1
      have b3 : toN p2 < mn := isN_lt (by omega) c_18
      have hl : lv_has ls 6 [(0, .ref md), (1, .int (nI (toN p0))), (2, .int p1), (3, .int (nI (toN p2))), (4, .long dd)] := by rw [← e3]; exact hl
      refine lv_iload_n hx hb dX4_needs_23 rfl (lv_at hl 2 rfl) ?_
      refine lv_if_lt (tgt := 37) hx hb dX4_needs_24 (by decide) (fun c_24 => ?_) (fun c_24 => ?_)
      · have cv : ¬ isN p1 (gve (toN p0)) := fun q => q.1 c_24
        refine lv_bipush (v := -2) hx hb dX4_needs_37 (by decide) ?_
        refine lv_goto (tgt := 52) hx hb dX4_needs_39 (by decide) ?_
        have eF : mneedF p0 p1 p2 dd mn mr gve gki gfi gat gse gst = ((-2), gki, gfi, gat, gse, gst, mr) := by unfold mneedF; (repeat' (first | with_reducible rfl | contradiction | (exfalso; omega) | split))
        have eW : ([(md, .inr (6, [.int (nI 0), .int (nI mn), .int (nI mr), .ref veA, .ref lkA, .ref baA, .ref kiA, .ref fiA, .ref atA, .ref seA, .ref stA, .ref bsA, .ref lfA, .ref giA, .ref btA, .int (nI bc), .int (nI xc), .int (nI xd), .int (nI an), .int (nI fn), .ref gaA, .ref waA, .ref cmA, .ref cgA, .ref dwA])), (veA, .inl (cA, 8, .inl (aN gve))), (kiA, .inl (cA, 60, .inl (aN gki))), (fiA, .inl (cA, 60, .inl (aN gfi))), (atA, .inl (cA, 60, .inl (aN gat))), (seA, .inl (cA, 60, .inl (aN gse))), (stA, .inl (cA, 60, .inl (aN gst)))] : va_W) = [(md, .inr (6, [.int (nI 0), .int (nI mn), .int (nI ((mneedF p0 p1 p2 dd mn mr gve gki gfi gat gse gst).2.2.2.2.2.2)), .ref veA, .ref lkA, .ref baA, .ref kiA, .ref fiA, .ref atA, .ref seA, .ref stA, .ref bsA, .ref lfA, .ref giA, .ref btA, .int (nI bc), .int (nI xc), .int (nI xd), .int (nI an), .int (nI fn), .ref gaA, .ref waA, .ref cmA, .ref cgA, .ref dwA])), (veA, .inl (cA, 8, .inl (aN gve))), (kiA, .inl (cA, 60, .inl (aN ((mneedF p0 p1 p2 dd mn mr gve gki gfi gat gse gst).2.1)))), (fiA, .inl (cA, 60, .inl (aN ((mneedF p0 p1 p2 dd mn mr gve gki gfi gat gse gst).2.2.1)))), (atA, .inl (cA, 60, .inl (aN ((mneedF p0 p1 p2 dd mn mr gve gki gfi gat gse gst).2.2.2.1)))), (seA, .inl (cA, 60, .inl (aN ((mneedF p0 p1 p2 dd mn mr gve gki gfi gat gse gst).2.2.2.2.1)))), (stA, .inl (cA, 60, .inl (aN ((mneedF p0 p1 p2 dd mn mr gve gki gfi gat gse gst).2.2.2.2.2.1))))] := by rw [eF]
        rw [eW] at hP hD
        exact W.iret (v := (-2)) hx hb hr (fun t ht hW => ⟨⟨(-2), (), rfl, (by rw [eF]), by rw [ht]; exact hP, hD⟩, hS.F ht⟩) hS.2.2 dX4_needs_52
      · refine lv_iload_n hx hb dX4_needs_27 rfl (lv_at hl 2 rfl) ?_
        refine lv_aload_n hx hb dX4_needs_28 rfl (lv_at hl 0 rfl) ?_
        refine va_get (D := D) (ci := 6) (v := .ref veA) (C := RX4) (T := TX4) (N := 25) hx hb hts inX4_needs_X4 hown hK.1 hP 0 rfl rfl 3 (by decide) (hts _ lkX4_needs_7) (fun _ h9 => h9) rfl dX4_needs_29 ?_
        refine lv_iload_n hx hb dX4_needs_32 rfl (lv_at hl 1 rfl) ?_
        refine nn_ald hx hb hK hP 1 rfl (by omega) (by decide) dX4_needs_33 ?_
        refine lv_icmp_lt (tgt := 42) hx hb dX4_needs_34 (by decide) (fun c_34 => ?_) (fun c_34 => ?_)
        · have cv : isN p1 (gve (toN p0)) := ⟨c_24, c_34⟩
          have hv6 := hve (toN p0)
          have e2 := toN_eq (cv).1
          have b2 : toN p1 < gve (toN p0) := isN_lt (by omega) cv
          have hl : lv_has ls 6 [(0, .ref md), (1, .int (nI (toN p0))), (2, .int (nI (toN p1))), (3, .int (nI (toN p2))), (4, .long dd)] := by rw [← e2]; exact hl
          refine lv_aload_n hx hb dX4_needs_42 rfl (lv_at hl 0 rfl) ?_
          refine lv_iconst (v := nI 0) hx hb dX4_needs_43 (by decide) ?_
          refine lv_iload_n hx hb dX4_needs_44 rfl (lv_at hl 1 rfl) ?_
          refine lv_iload_n hx hb dX4_needs_45 rfl (lv_at hl 2 rfl) ?_
          refine lv_iload_n hx hb dX4_needs_46 rfl (lv_at hl 3 rfl) ?_
          refine lv_lload hx hb dX4_needs_47 (lv_at hl 4 rfl) ?_
          refine zz_callI (av := []) (wc := [(md, .inr (6, [.int (nI 0), .int (nI mn), .int (nI mr), .ref veA, .ref lkA, .ref baA, .ref kiA, .ref fiA, .ref atA, .ref seA, .ref stA, .ref bsA, .ref lfA, .ref giA, .ref btA, .int (nI bc), .int (nI xc), .int (nI xd), .int (nI an), .int (nI fn), .ref gaA, .ref waA, .ref cmA, .ref cgA, .ref dwA])), (kiA, .inl (cA, 60, .inl (aN gki))), (fiA, .inl (cA, 60, .inl (aN gfi))), (atA, .inl (cA, 60, .inl (aN gat))), (seA, .inl (cA, 60, .inl (aN gse))), (stA, .inl (cA, 60, .inl (aN gst)))]) (wr := [(veA, .inl (cA, 8, .inl (aN gve)))]) hS hA hP hD [0, 2, 3, 4, 5, 6] [1] rfl rfl (by decide) (by decide) (va_runV (As := [.int (nI 0), .int (nI (toN p0)), .int (nI (toN p1)), .int (nI (toN p2)), .long dd]) (rest := []) ⟨hx, hb, hml, hown, hts⟩ (kX4_add l D cA H.size md veA lkA baA kiA fiA atA seA stA bsA lfA giA btA gaA waA cmA cgA dwA 0 mn mr bc xc xd an fn gki gfi gat gse gst 0 (toN p0) (toN p1) (toN p2) dd (by omega)) (cwV 5 hts gX4_needs_X4_add rfl rfl rfl (by decide +kernel) ⟨Nat.le_of_ble_eq_true rfl, Nat.le_of_ble_eq_true rfl⟩) ⟨(zPreS (av := [.ref md, .int (nI 0), .int (nI (toN p0)), .int (nI (toN p1)), .int (nI (toN p2)), .long dd]) (wc := [(md, .inr (6, [.int (nI 0), .int (nI mn), .int (nI mr), .ref veA, .ref lkA, .ref baA, .ref kiA, .ref fiA, .ref atA, .ref seA, .ref stA, .ref bsA, .ref lfA, .ref giA, .ref btA, .int (nI bc), .int (nI xc), .int (nI xd), .int (nI an), .int (nI fn), .ref gaA, .ref waA, .ref cmA, .ref cgA, .ref dwA])), (kiA, .inl (cA, 60, .inl (aN gki))), (fiA, .inl (cA, 60, .inl (aN gfi))), (atA, .inl (cA, 60, .inl (aN gat))), (seA, .inl (cA, 60, .inl (aN gse))), (stA, .inl (cA, 60, .inl (aN gst)))]) hK hP hD [0, 2, 3, 4, 5, 6] rfl (by decide) rfl).1, (va_recv hK.1 hP (ci := 6) (q0 := 0) rfl rfl), (zPreS (av := [.ref md, .int (nI 0), .int (nI (toN p0)), .int (nI (toN p1)), .int (nI (toN p2)), .long dd]) (wc := [(md, .inr (6, [.int (nI 0), .int (nI mn), .int (nI mr), .ref veA, .ref lkA, .ref baA, .ref kiA, .ref fiA, .ref atA, .ref seA, .ref stA, .ref bsA, .ref lfA, .ref giA, .ref btA, .int (nI bc), .int (nI xc), .int (nI xd), .int (nI an), .int (nI fn), .ref gaA, .ref waA, .ref cmA, .ref cgA, .ref dwA])), (kiA, .inl (cA, 60, .inl (aN gki))), (fiA, .inl (cA, 60, .inl (aN gfi))), (atA, .inl (cA, 60, .inl (aN gat))), (seA, .inl (cA, 60, .inl (aN gse))), (stA, .inl (cA, 60, .inl (aN gst)))]) hK hP hD [0, 2, 3, 4, 5, 6] rfl (by decide) rfl).2⟩ rfl rfl hl.1 rfl (lv_room (Nat.le_of_ble_eq_true rfl)) dX4_needs_49 ⟨Nat.zero_le _, Nat.zero_le _⟩) (fun H locs hP hD hS => ?_)
          have hP : va_P D vwCl [(veA, .inl (cA, 8, .inl (aN gve))), (md, .inr (6, [.int (nI 0), .int (nI mn), .int (nI ((addF 0 (toN p0) (toN p1) (toN p2) dd mr gki gfi gat gse gst).2.2.2.2.2.2)), .ref veA, .ref lkA, .ref baA, .ref kiA, .ref fiA, .ref atA, .ref seA, .ref stA, .ref bsA, .ref lfA, .ref giA, .ref btA, .int (nI bc), .int (nI xc), .int (nI xd), .int (nI an), .int (nI fn), .ref gaA, .ref waA, .ref cmA, .ref cgA, .ref dwA])), (kiA, .inl (cA, 60, .inl (aN ((addF 0 (toN p0) (toN p1) (toN p2) dd mr gki gfi gat gse gst).2.1)))), (fiA, .inl (cA, 60, .inl (aN ((addF 0 (toN p0) (toN p1) (toN p2) dd mr gki gfi gat gse gst).2.2.1)))), (atA, .inl (cA, 60, .inl (aN ((addF 0 (toN p0) (toN p1) (toN p2) dd mr gki gfi gat gse gst).2.2.2.1)))), (seA, .inl (cA, 60, .inl (aN ((addF 0 (toN p0) (toN p1) (toN p2) dd mr gki gfi gat gse gst).2.2.2.2.1)))), (stA, .inl (cA, 60, .inl (aN ((addF 0 (toN p0) (toN p1) (toN p2) dd mr gki gfi gat gse gst).2.2.2.2.2.1))))] H := hP
          have hD : va_D A [(veA, .inl (cA, 8, .inl (aN gve))), (md, .inr (6, [.int (nI 0), .int (nI mn), .int (nI ((addF 0 (toN p0) (toN p1) (toN p2) dd mr gki gfi gat gse gst).2.2.2.2.2.2)), .ref veA, .ref lkA, .ref baA, .ref kiA, .ref fiA, .ref atA, .ref seA, .ref stA, .ref bsA, .ref lfA, .ref giA, .ref btA, .int (nI bc), .int (nI xc), .int (nI xd), .int (nI an), .int (nI fn), .ref gaA, .ref waA, .ref cmA, .ref cgA, .ref dwA])), (kiA, .inl (cA, 60, .inl (aN ((addF 0 (toN p0) (toN p1) (toN p2) dd mr gki gfi gat gse gst).2.1)))), (fiA, .inl (cA, 60, .inl (aN ((addF 0 (toN p0) (toN p1) (toN p2) dd mr gki gfi gat gse gst).2.2.1)))), (atA, .inl (cA, 60, .inl (aN ((addF 0 (toN p0) (toN p1) (toN p2) dd mr gki gfi gat gse gst).2.2.2.1)))), (seA, .inl (cA, 60, .inl (aN ((addF 0 (toN p0) (toN p1) (toN p2) dd mr gki gfi gat gse gst).2.2.2.2.1)))), (stA, .inl (cA, 60, .inl (aN ((addF 0 (toN p0) (toN p1) (toN p2) dd mr gki gfi gat gse gst).2.2.2.2.2.1))))] := hD
          have hP : va_P D vwCl [(md, .inr (6, [.int (nI 0), .int (nI mn), .int (nI ((addF 0 (toN p0) (toN p1) (toN p2) dd mr gki gfi gat gse gst).2.2.2.2.2.2)), .ref veA, .ref lkA, .ref baA, .ref kiA, .ref fiA, .ref atA, .ref seA, .ref stA, .ref bsA, .ref lfA, .ref giA, .ref btA, .int (nI bc), .int (nI xc), .int (nI xd), .int (nI an), .int (nI fn), .ref gaA, .ref waA, .ref cmA, .ref cgA, .ref dwA])), (veA, .inl (cA, 8, .inl (aN gve))), (kiA, .inl (cA, 60, .inl (aN ((addF 0 (toN p0) (toN p1) (toN p2) dd mr gki gfi gat gse gst).2.1)))), (fiA, .inl (cA, 60, .inl (aN ((addF 0 (toN p0) (toN p1) (toN p2) dd mr gki gfi gat gse gst).2.2.1)))), (atA, .inl (cA, 60, .inl (aN ((addF 0 (toN p0) (toN p1) (toN p2) dd mr gki gfi gat gse gst).2.2.2.1)))), (seA, .inl (cA, 60, .inl (aN ((addF 0 (toN p0) (toN p1) (toN p2) dd mr gki gfi gat gse gst).2.2.2.2.1)))), (stA, .inl (cA, 60, .inl (aN ((addF 0 (toN p0) (toN p1) (toN p2) dd mr gki gfi gat gse gst).2.2.2.2.2.1))))] H := hP.sub [1, 0, 2, 3, 4, 5, 6] rfl
          have hD : va_D A [(md, .inr (6, [.int (nI 0), .int (nI mn), .int (nI ((addF 0 (toN p0) (toN p1) (toN p2) dd mr gki gfi gat gse gst).2.2.2.2.2.2)), .ref veA, .ref lkA, .ref baA, .ref kiA, .ref fiA, .ref atA, .ref seA, .ref stA, .ref bsA, .ref lfA, .ref giA, .ref btA, .int (nI bc), .int (nI xc), .int (nI xd), .int (nI an), .int (nI fn), .ref gaA, .ref waA, .ref cmA, .ref cgA, .ref dwA])), (veA, .inl (cA, 8, .inl (aN gve))), (kiA, .inl (cA, 60, .inl (aN ((addF 0 (toN p0) (toN p1) (toN p2) dd mr gki gfi gat gse gst).2.1)))), (fiA, .inl (cA, 60, .inl (aN ((addF 0 (toN p0) (toN p1) (toN p2) dd mr gki gfi gat gse gst).2.2.1)))), (atA, .inl (cA, 60, .inl (aN ((addF 0 (toN p0) (toN p1) (toN p2) dd mr gki gfi gat gse gst).2.2.2.1)))), (seA, .inl (cA, 60, .inl (aN ((addF 0 (toN p0) (toN p1) (toN p2) dd mr gki gfi gat gse gst).2.2.2.2.1)))), (stA, .inl (cA, 60, .inl (aN ((addF 0 (toN p0) (toN p1) (toN p2) dd mr gki gfi gat gse gst).2.2.2.2.2.1))))] := hD.sub [1, 0, 2, 3, 4, 5, 6] (by decide) rfl
          have eF : mneedF p0 p1 p2 dd mn mr gve gki gfi gat gse gst = (((addF 0 (toN p0) (toN p1) (toN p2) dd mr gki gfi gat gse gst).1), (addF 0 (toN p0) (toN p1) (toN p2) dd mr gki gfi gat gse gst).2.1, (addF 0 (toN p0) (toN p1) (toN p2) dd mr gki gfi gat gse gst).2.2.1, (addF 0 (toN p0) (toN p1) (toN p2) dd mr gki gfi gat gse gst).2.2.2.1, (addF 0 (toN p0) (toN p1) (toN p2) dd mr gki gfi gat gse gst).2.2.2.2.1, (addF 0 (toN p0) (toN p1) (toN p2) dd mr gki gfi gat gse gst).2.2.2.2.2.1, (addF 0 (toN p0) (toN p1) (toN p2) dd mr gki gfi gat gse gst).2.2.2.2.2.2) := by unfold mneedF; (repeat' (first | with_reducible rfl | contradiction | (exfalso; omega) | split))
          have eW : ([(md, .inr (6, [.int (nI 0), .int (nI mn), .int (nI ((addF 0 (toN p0) (toN p1) (toN p2) dd mr gki gfi gat gse gst).2.2.2.2.2.2)), .ref veA, .ref lkA, .ref baA, .ref kiA, .ref fiA, .ref atA, .ref seA, .ref stA, .ref bsA, .ref lfA, .ref giA, .ref btA, .int (nI bc), .int (nI xc), .int (nI xd), .int (nI an), .int (nI fn), .ref gaA, .ref waA, .ref cmA, .ref cgA, .ref dwA])), (veA, .inl (cA, 8, .inl (aN gve))), (kiA, .inl (cA, 60, .inl (aN ((addF 0 (toN p0) (toN p1) (toN p2) dd mr gki gfi gat gse gst).2.1)))), (fiA, .inl (cA, 60, .inl (aN ((addF 0 (toN p0) (toN p1) (toN p2) dd mr gki gfi gat gse gst).2.2.1)))), (atA, .inl (cA, 60, .inl (aN ((addF 0 (toN p0) (toN p1) (toN p2) dd mr gki gfi gat gse gst).2.2.2.1)))), (seA, .inl (cA, 60, .inl (aN ((addF 0 (toN p0) (toN p1) (toN p2) dd mr gki gfi gat gse gst).2.2.2.2.1)))), (stA, .inl (cA, 60, .inl (aN ((addF 0 (toN p0) (toN p1) (toN p2) dd mr gki gfi gat gse gst).2.2.2.2.2.1))))] : va_W) = [(md, .inr (6, [.int (nI 0), .int (nI mn), .int (nI ((mneedF p0 p1 p2 dd mn mr gve gki gfi gat gse gst).2.2.2.2.2.2)), .ref veA, .ref lkA, .ref baA, .ref kiA, .ref fiA, .ref atA, .ref seA, .ref stA, .ref bsA, .ref lfA, .ref giA, .ref btA, .int (nI bc), .int (nI xc), .int (nI xd), .int (nI an), .int (nI fn), .ref gaA, .ref waA, .ref cmA, .ref cgA, .ref dwA])), (veA, .inl (cA, 8, .inl (aN gve))), (kiA, .inl (cA, 60, .inl (aN ((mneedF p0 p1 p2 dd mn mr gve gki gfi gat gse gst).2.1)))), (fiA, .inl (cA, 60, .inl (aN ((mneedF p0 p1 p2 dd mn mr gve gki gfi gat gse gst).2.2.1)))), (atA, .inl (cA, 60, .inl (aN ((mneedF p0 p1 p2 dd mn mr gve gki gfi gat gse gst).2.2.2.1)))), (seA, .inl (cA, 60, .inl (aN ((mneedF p0 p1 p2 dd mn mr gve gki gfi gat gse gst).2.2.2.2.1)))), (stA, .inl (cA, 60, .inl (aN ((mneedF p0 p1 p2 dd mn mr gve gki gfi gat gse gst).2.2.2.2.2.1))))] := by rw [eF]
          rw [eW] at hP hD
          exact W.iret (v := ((addF 0 (toN p0) (toN p1) (toN p2) dd mr gki gfi gat gse gst).1)) hx hb hr (fun t ht hW => ⟨⟨((addF 0 (toN p0) (toN p1) (toN p2) dd mr gki gfi gat gse gst).1), (), rfl, (by rw [eF]), by rw [ht]; exact hP, hD⟩, hS.F ht⟩) hS.2.2 dX4_needs_52
        · have cv : ¬ isN p1 (gve (toN p0)) := fun q => c_34 q.2
          refine lv_bipush (v := -2) hx hb dX4_needs_37 (by decide) ?_
          refine lv_goto (tgt := 52) hx hb dX4_needs_39 (by decide) ?_
          have eF : mneedF p0 p1 p2 dd mn mr gve gki gfi gat gse gst = ((-2), gki, gfi, gat, gse, gst, mr) := by unfold mneedF; (repeat' (first | with_reducible rfl | contradiction | (exfalso; omega) | split))
          have eW : ([(md, .inr (6, [.int (nI 0), .int (nI mn), .int (nI mr), .ref veA, .ref lkA, .ref baA, .ref kiA, .ref fiA, .ref atA, .ref seA, .ref stA, .ref bsA, .ref lfA, .ref giA, .ref btA, .int (nI bc), .int (nI xc), .int (nI xd), .int (nI an), .int (nI fn), .ref gaA, .ref waA, .ref cmA, .ref cgA, .ref dwA])), (veA, .inl (cA, 8, .inl (aN gve))), (kiA, .inl (cA, 60, .inl (aN gki))), (fiA, .inl (cA, 60, .inl (aN gfi))), (atA, .inl (cA, 60, .inl (aN gat))), (seA, .inl (cA, 60, .inl (aN gse))), (stA, .inl (cA, 60, .inl (aN gst)))] : va_W) = [(md, .inr (6, [.int (nI 0), .int (nI mn), .int (nI ((mneedF p0 p1 p2 dd mn mr gve gki gfi gat gse gst).2.2.2.2.2.2)), .ref veA, .ref lkA, .ref baA, .ref kiA, .ref fiA, .ref atA, .ref seA, .ref stA, .ref bsA, .ref lfA, .ref giA, .ref btA, .int (nI bc), .int (nI xc), .int (nI xd), .int (nI an), .int (nI fn), .ref gaA, .ref waA, .ref cmA, .ref cgA, .ref dwA])), (veA, .inl (cA, 8, .inl (aN gve))), (kiA, .inl (cA, 60, .inl (aN ((mneedF p0 p1 p2 dd mn mr gve gki gfi gat gse gst).2.1)))), (fiA, .inl (cA, 60, .inl (aN ((mneedF p0 p1 p2 dd mn mr gve gki gfi gat gse gst).2.2.1)))), (atA, .inl (cA, 60, .inl (aN ((mneedF p0 p1 p2 dd mn mr gve gki gfi gat gse gst).2.2.2.1)))), (seA, .inl (cA, 60, .inl (aN ((mneedF p0 p1 p2 dd mn mr gve gki gfi gat gse gst).2.2.2.2.1)))), (stA, .inl (cA, 60, .inl (aN ((mneedF p0 p1 p2 dd mn mr gve gki gfi gat gse gst).2.2.2.2.2.1))))] := by rw [eF]
          rw [eW] at hP hD
          exact W.iret (v := (-2)) hx hb hr (fun t ht hW => ⟨⟨(-2), (), rfl, (by rw [eF]), by rw [ht]; exact hP, hD⟩, hS.F ht⟩) hS.2.2 dX4_needs_52
    · have c_18 := if01_eq c_18
      refine lv_iconst (v := -1) hx hb dX4_needs_21 (by decide) ?_
      have eF : mneedF p0 p1 p2 dd mn mr gve gki gfi gat gse gst = ((-1), gki, gfi, gat, gse, gst, mr) := by unfold mneedF; (repeat' (first | with_reducible rfl | contradiction | (exfalso; omega) | split))
      have eW : ([(md, .inr (6, [.int (nI 0), .int (nI mn), .int (nI mr), .ref veA, .ref lkA, .ref baA, .ref kiA, .ref fiA, .ref atA, .ref seA, .ref stA, .ref bsA, .ref lfA, .ref giA, .ref btA, .int (nI bc), .int (nI xc), .int (nI xd), .int (nI an), .int (nI fn), .ref gaA, .ref waA, .ref cmA, .ref cgA, .ref dwA])), (veA, .inl (cA, 8, .inl (aN gve))), (kiA, .inl (cA, 60, .inl (aN gki))), (fiA, .inl (cA, 60, .inl (aN gfi))), (atA, .inl (cA, 60, .inl (aN gat))), (seA, .inl (cA, 60, .inl (aN gse))), (stA, .inl (cA, 60, .inl (aN gst)))] : va_W) = [(md, .inr (6, [.int (nI 0), .int (nI mn), .int (nI ((mneedF p0 p1 p2 dd mn mr gve gki gfi gat gse gst).2.2.2.2.2.2)), .ref veA, .ref lkA, .ref baA, .ref kiA, .ref fiA, .ref atA, .ref seA, .ref stA, .ref bsA, .ref lfA, .ref giA, .ref btA, .int (nI bc), .int (nI xc), .int (nI xd), .int (nI an), .int (nI fn), .ref gaA, .ref waA, .ref cmA, .ref cgA, .ref dwA])), (veA, .inl (cA, 8, .inl (aN gve))), (kiA, .inl (cA, 60, .inl (aN ((mneedF p0 p1 p2 dd mn mr gve gki gfi gat gse gst).2.1)))), (fiA, .inl (cA, 60, .inl (aN ((mneedF p0 p1 p2 dd mn mr gve gki gfi gat gse gst).2.2.1)))), (atA, .inl (cA, 60, .inl (aN ((mneedF p0 p1 p2 dd mn mr gve gki gfi gat gse gst).2.2.2.1)))), (seA, .inl (cA, 60, .inl (aN ((mneedF p0 p1 p2 dd mn mr gve gki gfi gat gse gst).2.2.2.2.1)))), (stA, .inl (cA, 60, .inl (aN ((mneedF p0 p1 p2 dd mn mr gve gki gfi gat gse gst).2.2.2.2.2.1))))] := by rw [eF]
      rw [eW] at hP hD
      exact W.iret (v := (-1)) hx hb hr (fun t ht hW => ⟨⟨(-1), (), rfl, (by rw [eF]), by rw [ht]; exact hP, hD⟩, hS.F ht⟩) hS.2.2 dX4_needs_22

theorem lkX4_want_61 : Cond.fieldLink RX4 61 "LeastChangeModel" "thrown" "I" ∈ wsX4_want := by decide +kernel
theorem inX4_want_X4 : ∀ w ∈ wsX40, w ∈ wsX4_want := by decide +kernel
set_option maxHeartbeats 4000000 in
set_option maxRecDepth 100000 in
theorem kX4_want (l : Launch) (D : va_G) (cA : ClassId) (sz : Nat) (md : Nat) (veA : Nat) (lkA : Nat) (baA : Nat) (kiA : Nat) (fiA : Nat) (atA : Nat) (seA : Nat) (stA : Nat) (bsA : Nat) (lfA : Nat) (giA : Nat) (btA : Nat) (gaA : Nat) (waA : Nat) (cmA : Nat) (cgA : Nat) (dwA : Nat) (th : Nat) (mn : Nat) (mr : Nat) (bc : Nat) (xc : Nat) (xd : Nat) (an : Nat) (fn : Nat) (gki : Nat → Nat) (gfi : Nat → Nat) (gat : Nat → Nat) (gse : Nat → Nat) (gst : Nat → Nat) (xx : Int32) (dd : Int64) (hmn : mn ≤ 8) (hmr : mr ≤ 60) : zMi l yX4_want wsX4_want ({ frames := 1, cells := 0, slots := 0, locals := 26 }) D cA [.ref md, .int xx, .long dd] sz [(md, .inr (6, [.int (nI th), .int (nI mn), .int (nI mr), .ref veA, .ref lkA, .ref baA, .ref kiA, .ref fiA, .ref atA, .ref seA, .ref stA, .ref bsA, .ref lfA, .ref giA, .ref btA, .int (nI bc), .int (nI xc), .int (nI xd), .int (nI an), .int (nI fn), .ref gaA, .ref waA, .ref cmA, .ref cgA, .ref dwA])), (kiA, .inl (cA, 60, .inl (aN gki))), (fiA, .inl (cA, 60, .inl (aN gfi))), (atA, .inl (cA, 60, .inl (aN gat))), (seA, .inl (cA, 60, .inl (aN gse))), (stA, .inl (cA, 60, .inl (aN gst)))] [(md, .inr (6, [.int (nI 0), .int (nI mn), .int (nI ((msetF xx 1 dd mn mr gki gfi gat gse gst).2.2.2.2.2.2)), .ref veA, .ref lkA, .ref baA, .ref kiA, .ref fiA, .ref atA, .ref seA, .ref stA, .ref bsA, .ref lfA, .ref giA, .ref btA, .int (nI bc), .int (nI xc), .int (nI xd), .int (nI an), .int (nI fn), .ref gaA, .ref waA, .ref cmA, .ref cgA, .ref dwA])), (kiA, .inl (cA, 60, .inl (aN ((msetF xx 1 dd mn mr gki gfi gat gse gst).2.1)))), (fiA, .inl (cA, 60, .inl (aN ((msetF xx 1 dd mn mr gki gfi gat gse gst).2.2.1)))), (atA, .inl (cA, 60, .inl (aN ((msetF xx 1 dd mn mr gki gfi gat gse gst).2.2.2.1)))), (seA, .inl (cA, 60, .inl (aN ((msetF xx 1 dd mn mr gki gfi gat gse gst).2.2.2.2.1)))), (stA, .inl (cA, 60, .inl (aN ((msetF xx 1 dd mn mr gki gfi gat gse gst).2.2.2.2.2.1))))] ((msetF xx 1 dd mn mr gki gfi gat gse gst).1) := by
  refine Met.ofW (cc := cX4_want) (maxL := 4) (ret := (some .int)) (by decide) rfl ?_
  intro p e s m args below meth c s₁ B hml hv
  obtain ⟨rfl, hsz, hP, hK, hD0⟩ := hv
  have hx := B.exec
  have hb := B.bytes
  have hr := B.returns
  have hts := atoms_spec (ws := wsX4_want) B.pre
  have hown : s.vm.findClass RX4 = some m.cls := findClass_of_methodNamed B.named
  have hlocks := B.notSynchronized
  subst hsz
  have hD := hD0.self (sz := s.heap.size)
  generalize hAe : va_A [(md, .inr (6, [.int (nI th), .int (nI mn), .int (nI mr), .ref veA, .ref lkA, .ref baA, .ref kiA, .ref fiA, .ref atA, .ref seA, .ref stA, .ref bsA, .ref lfA, .ref giA, .ref btA, .int (nI bc), .int (nI xc), .int (nI xd), .int (nI an), .int (nI fn), .ref gaA, .ref waA, .ref cmA, .ref cgA, .ref dwA])), (kiA, .inl (cA, 60, .inl (aN gki))), (fiA, .inl (cA, 60, .inl (aN gfi))), (atA, .inl (cA, 60, .inl (aN gat))), (seA, .inl (cA, 60, .inl (aN gse))), (stA, .inl (cA, 60, .inl (aN gst)))] s.heap.size = A at hD ⊢
  have hA : ∀ q : Nat, s.heap.size ≤ q → A q := fun q h => by rw [← hAe]; exact Or.inr h
  have hS : va_S A s.heap s.heap [] := va_S.rf
  have hP : va_P D vwCl [(md, .inr (6, [.int (nI th), .int (nI mn), .int (nI mr), .ref veA, .ref lkA, .ref baA, .ref kiA, .ref fiA, .ref atA, .ref seA, .ref stA, .ref bsA, .ref lfA, .ref giA, .ref btA, .int (nI bc), .int (nI xc), .int (nI xd), .int (nI an), .int (nI fn), .ref gaA, .ref waA, .ref cmA, .ref cgA, .ref dwA])), (kiA, .inl (cA, 60, .inl (aN gki))), (fiA, .inl (cA, 60, .inl (aN gfi))), (atA, .inl (cA, 60, .inl (aN gat))), (seA, .inl (cA, 60, .inl (aN gse))), (stA, .inl (cA, 60, .inl (aN gst)))] s.heap := hP
  have hl := lv_entry ([.ref md, .int xx, .long dd]) (n := 4) (Nat.le_of_ble_eq_true rfl)
  rw [lg_entry_eq]
  generalize (lg_sl ([.ref md, .int xx, .long dd]) ++ List.replicate (4 - (lg_sl ([.ref md, .int xx, .long dd])).length) Slot.unset).toArray = ls at hl ⊢
  have hl : lv_has ls 4 [(0, .ref md), (1, .int xx), (2, .long dd)] := hl
  refine lv_aload_n hx hb dX4_want_0 rfl (lv_at hl 0 rfl) ?_
  refine lv_iconst (v := nI 0) hx hb dX4_want_1 (by decide) ?_
  refine va_put (D := D) (ci := 6) (v := .int (nI 0)) (ty := .int) (C := RX4) (T := TX4) (N := 25) hx hb hts inX4_want_X4 tyX4 tyX4_ok nmX4 hown hK.1 hP hD hS 0 rfl rfl 0 (by decide) (hts _ lkX4_want_61) (fun _ h9 => h9) rfl (by decide +kernel) rfl rfl (Nat.le_of_ble_eq_true rfl) dX4_want_2 (fun H locs hP hD hS => ?_)
  have hP : va_P D vwCl [(md, .inr (6, [.int (nI 0), .int (nI mn), .int (nI mr), .ref veA, .ref lkA, .ref baA, .ref kiA, .ref fiA, .ref atA, .ref seA, .ref stA, .ref bsA, .ref lfA, .ref giA, .ref btA, .int (nI bc), .int (nI xc), .int (nI xd), .int (nI an), .int (nI fn), .ref gaA, .ref waA, .ref cmA, .ref cgA, .ref dwA])), (kiA, .inl (cA, 60, .inl (aN gki))), (fiA, .inl (cA, 60, .inl (aN gfi))), (atA, .inl (cA, 60, .inl (aN gat))), (seA, .inl (cA, 60, .inl (aN gse))), (stA, .inl (cA, 60, .inl (aN gst)))] H := hP
  have hD : va_D A [(md, .inr (6, [.int (nI 0), .int (nI mn), .int (nI mr), .ref veA, .ref lkA, .ref baA, .ref kiA, .ref fiA, .ref atA, .ref seA, .ref stA, .ref bsA, .ref lfA, .ref giA, .ref btA, .int (nI bc), .int (nI xc), .int (nI xd), .int (nI an), .int (nI fn), .ref gaA, .ref waA, .ref cmA, .ref cgA, .ref dwA])), (kiA, .inl (cA, 60, .inl (aN gki))), (fiA, .inl (cA, 60, .inl (aN gfi))), (atA, .inl (cA, 60, .inl (aN gat))), (seA, .inl (cA, 60, .inl (aN gse))), (stA, .inl (cA, 60, .inl (aN gst)))] := hD
  refine lv_aload_n hx hb dX4_want_5 rfl (lv_at hl 0 rfl) ?_
  refine lv_iload_n hx hb dX4_want_6 rfl (lv_at hl 1 rfl) ?_
  refine zz_callI (av := []) (wc := [(md, .inr (6, [.int (nI 0), .int (nI mn), .int (nI mr), .ref veA, .ref lkA, .ref baA, .ref kiA, .ref fiA, .ref atA, .ref seA, .ref stA, .ref bsA, .ref lfA, .ref giA, .ref btA, .int (nI bc), .int (nI xc), .int (nI xd), .int (nI an), .int (nI fn), .ref gaA, .ref waA, .ref cmA, .ref cgA, .ref dwA]))]) (wr := [(kiA, .inl (cA, 60, .inl (aN gki))), (fiA, .inl (cA, 60, .inl (aN gfi))), (atA, .inl (cA, 60, .inl (aN gat))), (seA, .inl (cA, 60, .inl (aN gse))), (stA, .inl (cA, 60, .inl (aN gst)))]) hS hA hP hD [0] [1, 2, 3, 4, 5] rfl rfl (by decide) (by decide) (va_runV (As := [.int xx]) (rest := []) ⟨hx, hb, hml, hown, hts⟩ (kX4_isName l D cA H.size md veA lkA baA kiA fiA atA seA stA bsA lfA giA btA gaA waA cmA cgA dwA 0 mn mr bc xc xd an fn xx (by omega)) (cwV 1 hts gX4_want_X4_isName rfl rfl rfl (by decide +kernel) ⟨Nat.le_of_ble_eq_true rfl, Nat.le_of_ble_eq_true rfl⟩) ⟨(zPreS (av := [.ref md, .int xx]) (wc := [(md, .inr (6, [.int (nI 0), .int (nI mn), .int (nI mr), .ref veA, .ref lkA, .ref baA, .ref kiA, .ref fiA, .ref atA, .ref seA, .ref stA, .ref bsA, .ref lfA, .ref giA, .ref btA, .int (nI bc), .int (nI xc), .int (nI xd), .int (nI an), .int (nI fn), .ref gaA, .ref waA, .ref cmA, .ref cgA, .ref dwA]))]) hK hP hD [0] rfl (by decide) rfl).1, (va_recv hK.1 hP (ci := 6) (q0 := 0) rfl rfl), (zPreS (av := [.ref md, .int xx]) (wc := [(md, .inr (6, [.int (nI 0), .int (nI mn), .int (nI mr), .ref veA, .ref lkA, .ref baA, .ref kiA, .ref fiA, .ref atA, .ref seA, .ref stA, .ref bsA, .ref lfA, .ref giA, .ref btA, .int (nI bc), .int (nI xc), .int (nI xd), .int (nI an), .int (nI fn), .ref gaA, .ref waA, .ref cmA, .ref cgA, .ref dwA]))]) hK hP hD [0] rfl (by decide) rfl).2⟩ rfl rfl hl.1 rfl (lv_room (Nat.le_of_ble_eq_true rfl)) dX4_want_7 ⟨Nat.zero_le _, Nat.zero_le _⟩) (fun H locs hP hD hS => ?_)
  have hP : va_P D vwCl [(kiA, .inl (cA, 60, .inl (aN gki))), (fiA, .inl (cA, 60, .inl (aN gfi))), (atA, .inl (cA, 60, .inl (aN gat))), (seA, .inl (cA, 60, .inl (aN gse))), (stA, .inl (cA, 60, .inl (aN gst))), (md, .inr (6, [.int (nI 0), .int (nI mn), .int (nI mr), .ref veA, .ref lkA, .ref baA, .ref kiA, .ref fiA, .ref atA, .ref seA, .ref stA, .ref bsA, .ref lfA, .ref giA, .ref btA, .int (nI bc), .int (nI xc), .int (nI xd), .int (nI an), .int (nI fn), .ref gaA, .ref waA, .ref cmA, .ref cgA, .ref dwA]))] H := hP
  have hD : va_D A [(kiA, .inl (cA, 60, .inl (aN gki))), (fiA, .inl (cA, 60, .inl (aN gfi))), (atA, .inl (cA, 60, .inl (aN gat))), (seA, .inl (cA, 60, .inl (aN gse))), (stA, .inl (cA, 60, .inl (aN gst))), (md, .inr (6, [.int (nI 0), .int (nI mn), .int (nI mr), .ref veA, .ref lkA, .ref baA, .ref kiA, .ref fiA, .ref atA, .ref seA, .ref stA, .ref bsA, .ref lfA, .ref giA, .ref btA, .int (nI bc), .int (nI xc), .int (nI xd), .int (nI an), .int (nI fn), .ref gaA, .ref waA, .ref cmA, .ref cgA, .ref dwA]))] := hD
  have hP : va_P D vwCl [(md, .inr (6, [.int (nI 0), .int (nI mn), .int (nI mr), .ref veA, .ref lkA, .ref baA, .ref kiA, .ref fiA, .ref atA, .ref seA, .ref stA, .ref bsA, .ref lfA, .ref giA, .ref btA, .int (nI bc), .int (nI xc), .int (nI xd), .int (nI an), .int (nI fn), .ref gaA, .ref waA, .ref cmA, .ref cgA, .ref dwA])), (kiA, .inl (cA, 60, .inl (aN gki))), (fiA, .inl (cA, 60, .inl (aN gfi))), (atA, .inl (cA, 60, .inl (aN gat))), (seA, .inl (cA, 60, .inl (aN gse))), (stA, .inl (cA, 60, .inl (aN gst)))] H := hP.sub [5, 0, 1, 2, 3, 4] rfl
  have hD : va_D A [(md, .inr (6, [.int (nI 0), .int (nI mn), .int (nI mr), .ref veA, .ref lkA, .ref baA, .ref kiA, .ref fiA, .ref atA, .ref seA, .ref stA, .ref bsA, .ref lfA, .ref giA, .ref btA, .int (nI bc), .int (nI xc), .int (nI xd), .int (nI an), .int (nI fn), .ref gaA, .ref waA, .ref cmA, .ref cgA, .ref dwA])), (kiA, .inl (cA, 60, .inl (aN gki))), (fiA, .inl (cA, 60, .inl (aN gfi))), (atA, .inl (cA, 60, .inl (aN gat))), (seA, .inl (cA, 60, .inl (aN gse))), (stA, .inl (cA, 60, .inl (aN gst)))] := hD.sub [5, 0, 1, 2, 3, 4] (by decide) rfl
  refine nn_if_eq (tgt := 25) hx hb dX4_want_10 (by decide) if01_lt (fun c_10 => ?_) (fun c_10 => ?_)
  · have c_10 := if01_eq c_10
    refine lv_iconst (v := -1) hx hb dX4_want_25 (by decide) ?_
    have eF : msetF xx 1 dd mn mr gki gfi gat gse gst = ((-1), gki, gfi, gat, gse, gst, mr) := by unfold msetF; (repeat' (first | with_reducible rfl | contradiction | (exfalso; omega) | split))
    have eW : ([(md, .inr (6, [.int (nI 0), .int (nI mn), .int (nI mr), .ref veA, .ref lkA, .ref baA, .ref kiA, .ref fiA, .ref atA, .ref seA, .ref stA, .ref bsA, .ref lfA, .ref giA, .ref btA, .int (nI bc), .int (nI xc), .int (nI xd), .int (nI an), .int (nI fn), .ref gaA, .ref waA, .ref cmA, .ref cgA, .ref dwA])), (kiA, .inl (cA, 60, .inl (aN gki))), (fiA, .inl (cA, 60, .inl (aN gfi))), (atA, .inl (cA, 60, .inl (aN gat))), (seA, .inl (cA, 60, .inl (aN gse))), (stA, .inl (cA, 60, .inl (aN gst)))] : va_W) = [(md, .inr (6, [.int (nI 0), .int (nI mn), .int (nI ((msetF xx 1 dd mn mr gki gfi gat gse gst).2.2.2.2.2.2)), .ref veA, .ref lkA, .ref baA, .ref kiA, .ref fiA, .ref atA, .ref seA, .ref stA, .ref bsA, .ref lfA, .ref giA, .ref btA, .int (nI bc), .int (nI xc), .int (nI xd), .int (nI an), .int (nI fn), .ref gaA, .ref waA, .ref cmA, .ref cgA, .ref dwA])), (kiA, .inl (cA, 60, .inl (aN ((msetF xx 1 dd mn mr gki gfi gat gse gst).2.1)))), (fiA, .inl (cA, 60, .inl (aN ((msetF xx 1 dd mn mr gki gfi gat gse gst).2.2.1)))), (atA, .inl (cA, 60, .inl (aN ((msetF xx 1 dd mn mr gki gfi gat gse gst).2.2.2.1)))), (seA, .inl (cA, 60, .inl (aN ((msetF xx 1 dd mn mr gki gfi gat gse gst).2.2.2.2.1)))), (stA, .inl (cA, 60, .inl (aN ((msetF xx 1 dd mn mr gki gfi gat gse gst).2.2.2.2.2.1))))] := by rw [eF]
    rw [eW] at hP hD
    exact W.iret (v := (-1)) hx hb hr (fun t ht hW => ⟨⟨(-1), (), rfl, (by rw [eF]), by rw [ht]; exact hP, hD⟩, hS.F ht⟩) hS.2.2 dX4_want_26
  · have c_10 := if01_ne c_10
    have e1 := toN_eq (c_10).1
    have b1 : toN xx < mn := isN_lt (by omega) c_10
    have hl : lv_has ls 4 [(0, .ref md), (1, .int (nI (toN xx))), (2, .long dd)] := by rw [← e1]; exact hl
    refine lv_aload_n hx hb dX4_want_13 rfl (lv_at hl 0 rfl) ?_
    refine lv_iconst (v := nI 1) hx hb dX4_want_14 (by decide) ?_
    refine lv_iload_n hx hb dX4_want_15 rfl (lv_at hl 1 rfl) ?_
    refine lv_iconst (v := nI 0) hx hb dX4_want_16 (by decide) ?_
    refine lv_iconst (v := nI 0) hx hb dX4_want_17 (by decide) ?_
    refine lv_lload_n hx hb dX4_want_18 rfl (lv_at hl 2 rfl) ?_
    refine zz_callI (av := []) (wc := [(md, .inr (6, [.int (nI 0), .int (nI mn), .int (nI mr), .ref veA, .ref lkA, .ref baA, .ref kiA, .ref fiA, .ref atA, .ref seA, .ref stA, .ref bsA, .ref lfA, .ref giA, .ref btA, .int (nI bc), .int (nI xc), .int (nI xd), .int (nI an), .int (nI fn), .ref gaA, .ref waA, .ref cmA, .ref cgA, .ref dwA])), (kiA, .inl (cA, 60, .inl (aN gki))), (fiA, .inl (cA, 60, .inl (aN gfi))), (atA, .inl (cA, 60, .inl (aN gat))), (seA, .inl (cA, 60, .inl (aN gse))), (stA, .inl (cA, 60, .inl (aN gst)))]) (wr := []) hS hA hP hD [0, 1, 2, 3, 4, 5] [] rfl rfl (by decide) (by decide) (va_runV (As := [.int (nI 1), .int (nI (toN xx)), .int (nI 0), .int (nI 0), .long dd]) (rest := []) ⟨hx, hb, hml, hown, hts⟩ (kX4_add l D cA H.size md veA lkA baA kiA fiA atA seA stA bsA lfA giA btA gaA waA cmA cgA dwA 0 mn mr bc xc xd an fn gki gfi gat gse gst 1 (toN xx) 0 0 dd (by omega)) (cwV 5 hts gX4_want_X4_add rfl rfl rfl (by decide +kernel) ⟨Nat.le_of_ble_eq_true rfl, Nat.le_of_ble_eq_true rfl⟩) ⟨(zPreS (av := [.ref md, .int (nI 1), .int (nI (toN xx)), .int (nI 0), .int (nI 0), .long dd]) (wc := [(md, .inr (6, [.int (nI 0), .int (nI mn), .int (nI mr), .ref veA, .ref lkA, .ref baA, .ref kiA, .ref fiA, .ref atA, .ref seA, .ref stA, .ref bsA, .ref lfA, .ref giA, .ref btA, .int (nI bc), .int (nI xc), .int (nI xd), .int (nI an), .int (nI fn), .ref gaA, .ref waA, .ref cmA, .ref cgA, .ref dwA])), (kiA, .inl (cA, 60, .inl (aN gki))), (fiA, .inl (cA, 60, .inl (aN gfi))), (atA, .inl (cA, 60, .inl (aN gat))), (seA, .inl (cA, 60, .inl (aN gse))), (stA, .inl (cA, 60, .inl (aN gst)))]) hK hP hD [0, 1, 2, 3, 4, 5] rfl (by decide) rfl).1, (va_recv hK.1 hP (ci := 6) (q0 := 0) rfl rfl), (zPreS (av := [.ref md, .int (nI 1), .int (nI (toN xx)), .int (nI 0), .int (nI 0), .long dd]) (wc := [(md, .inr (6, [.int (nI 0), .int (nI mn), .int (nI mr), .ref veA, .ref lkA, .ref baA, .ref kiA, .ref fiA, .ref atA, .ref seA, .ref stA, .ref bsA, .ref lfA, .ref giA, .ref btA, .int (nI bc), .int (nI xc), .int (nI xd), .int (nI an), .int (nI fn), .ref gaA, .ref waA, .ref cmA, .ref cgA, .ref dwA])), (kiA, .inl (cA, 60, .inl (aN gki))), (fiA, .inl (cA, 60, .inl (aN gfi))), (atA, .inl (cA, 60, .inl (aN gat))), (seA, .inl (cA, 60, .inl (aN gse))), (stA, .inl (cA, 60, .inl (aN gst)))]) hK hP hD [0, 1, 2, 3, 4, 5] rfl (by decide) rfl).2⟩ rfl rfl hl.1 rfl (lv_room (Nat.le_of_ble_eq_true rfl)) dX4_want_19 ⟨Nat.zero_le _, Nat.zero_le _⟩) (fun H locs hP hD hS => ?_)
    have hP : va_P D vwCl [(md, .inr (6, [.int (nI 0), .int (nI mn), .int (nI ((addF 1 (toN xx) 0 0 dd mr gki gfi gat gse gst).2.2.2.2.2.2)), .ref veA, .ref lkA, .ref baA, .ref kiA, .ref fiA, .ref atA, .ref seA, .ref stA, .ref bsA, .ref lfA, .ref giA, .ref btA, .int (nI bc), .int (nI xc), .int (nI xd), .int (nI an), .int (nI fn), .ref gaA, .ref waA, .ref cmA, .ref cgA, .ref dwA])), (kiA, .inl (cA, 60, .inl (aN ((addF 1 (toN xx) 0 0 dd mr gki gfi gat gse gst).2.1)))), (fiA, .inl (cA, 60, .inl (aN ((addF 1 (toN xx) 0 0 dd mr gki gfi gat gse gst).2.2.1)))), (atA, .inl (cA, 60, .inl (aN ((addF 1 (toN xx) 0 0 dd mr gki gfi gat gse gst).2.2.2.1)))), (seA, .inl (cA, 60, .inl (aN ((addF 1 (toN xx) 0 0 dd mr gki gfi gat gse gst).2.2.2.2.1)))), (stA, .inl (cA, 60, .inl (aN ((addF 1 (toN xx) 0 0 dd mr gki gfi gat gse gst).2.2.2.2.2.1))))] H := hP
    have hD : va_D A [(md, .inr (6, [.int (nI 0), .int (nI mn), .int (nI ((addF 1 (toN xx) 0 0 dd mr gki gfi gat gse gst).2.2.2.2.2.2)), .ref veA, .ref lkA, .ref baA, .ref kiA, .ref fiA, .ref atA, .ref seA, .ref stA, .ref bsA, .ref lfA, .ref giA, .ref btA, .int (nI bc), .int (nI xc), .int (nI xd), .int (nI an), .int (nI fn), .ref gaA, .ref waA, .ref cmA, .ref cgA, .ref dwA])), (kiA, .inl (cA, 60, .inl (aN ((addF 1 (toN xx) 0 0 dd mr gki gfi gat gse gst).2.1)))), (fiA, .inl (cA, 60, .inl (aN ((addF 1 (toN xx) 0 0 dd mr gki gfi gat gse gst).2.2.1)))), (atA, .inl (cA, 60, .inl (aN ((addF 1 (toN xx) 0 0 dd mr gki gfi gat gse gst).2.2.2.1)))), (seA, .inl (cA, 60, .inl (aN ((addF 1 (toN xx) 0 0 dd mr gki gfi gat gse gst).2.2.2.2.1)))), (stA, .inl (cA, 60, .inl (aN ((addF 1 (toN xx) 0 0 dd mr gki gfi gat gse gst).2.2.2.2.2.1))))] := hD
    refine lv_goto (tgt := 26) hx hb dX4_want_22 (by decide) ?_
    have eF : msetF xx 1 dd mn mr gki gfi gat gse gst = (((addF 1 (toN xx) 0 0 dd mr gki gfi gat gse gst).1), (addF 1 (toN xx) 0 0 dd mr gki gfi gat gse gst).2.1, (addF 1 (toN xx) 0 0 dd mr gki gfi gat gse gst).2.2.1, (addF 1 (toN xx) 0 0 dd mr gki gfi gat gse gst).2.2.2.1, (addF 1 (toN xx) 0 0 dd mr gki gfi gat gse gst).2.2.2.2.1, (addF 1 (toN xx) 0 0 dd mr gki gfi gat gse gst).2.2.2.2.2.1, (addF 1 (toN xx) 0 0 dd mr gki gfi gat gse gst).2.2.2.2.2.2) := by unfold msetF; (repeat' (first | with_reducible rfl | contradiction | (exfalso; omega) | split))
    have eW : ([(md, .inr (6, [.int (nI 0), .int (nI mn), .int (nI ((addF 1 (toN xx) 0 0 dd mr gki gfi gat gse gst).2.2.2.2.2.2)), .ref veA, .ref lkA, .ref baA, .ref kiA, .ref fiA, .ref atA, .ref seA, .ref stA, .ref bsA, .ref lfA, .ref giA, .ref btA, .int (nI bc), .int (nI xc), .int (nI xd), .int (nI an), .int (nI fn), .ref gaA, .ref waA, .ref cmA, .ref cgA, .ref dwA])), (kiA, .inl (cA, 60, .inl (aN ((addF 1 (toN xx) 0 0 dd mr gki gfi gat gse gst).2.1)))), (fiA, .inl (cA, 60, .inl (aN ((addF 1 (toN xx) 0 0 dd mr gki gfi gat gse gst).2.2.1)))), (atA, .inl (cA, 60, .inl (aN ((addF 1 (toN xx) 0 0 dd mr gki gfi gat gse gst).2.2.2.1)))), (seA, .inl (cA, 60, .inl (aN ((addF 1 (toN xx) 0 0 dd mr gki gfi gat gse gst).2.2.2.2.1)))), (stA, .inl (cA, 60, .inl (aN ((addF 1 (toN xx) 0 0 dd mr gki gfi gat gse gst).2.2.2.2.2.1))))] : va_W) = [(md, .inr (6, [.int (nI 0), .int (nI mn), .int (nI ((msetF xx 1 dd mn mr gki gfi gat gse gst).2.2.2.2.2.2)), .ref veA, .ref lkA, .ref baA, .ref kiA, .ref fiA, .ref atA, .ref seA, .ref stA, .ref bsA, .ref lfA, .ref giA, .ref btA, .int (nI bc), .int (nI xc), .int (nI xd), .int (nI an), .int (nI fn), .ref gaA, .ref waA, .ref cmA, .ref cgA, .ref dwA])), (kiA, .inl (cA, 60, .inl (aN ((msetF xx 1 dd mn mr gki gfi gat gse gst).2.1)))), (fiA, .inl (cA, 60, .inl (aN ((msetF xx 1 dd mn mr gki gfi gat gse gst).2.2.1)))), (atA, .inl (cA, 60, .inl (aN ((msetF xx 1 dd mn mr gki gfi gat gse gst).2.2.2.1)))), (seA, .inl (cA, 60, .inl (aN ((msetF xx 1 dd mn mr gki gfi gat gse gst).2.2.2.2.1)))), (stA, .inl (cA, 60, .inl (aN ((msetF xx 1 dd mn mr gki gfi gat gse gst).2.2.2.2.2.1))))] := by rw [eF]
    rw [eW] at hP hD
    exact W.iret (v := ((addF 1 (toN xx) 0 0 dd mr gki gfi gat gse gst).1)) hx hb hr (fun t ht hW => ⟨⟨((addF 1 (toN xx) 0 0 dd mr gki gfi gat gse gst).1), (), rfl, (by rw [eF]), by rw [ht]; exact hP, hD⟩, hS.F ht⟩) hS.2.2 dX4_want_26

theorem lkX4_force_61 : Cond.fieldLink RX4 61 "LeastChangeModel" "thrown" "I" ∈ wsX4_force := by decide +kernel
theorem inX4_force_X4 : ∀ w ∈ wsX40, w ∈ wsX4_force := by decide +kernel
set_option maxHeartbeats 4000000 in
set_option maxRecDepth 100000 in
theorem kX4_force (l : Launch) (D : va_G) (cA : ClassId) (sz : Nat) (md : Nat) (veA : Nat) (lkA : Nat) (baA : Nat) (kiA : Nat) (fiA : Nat) (atA : Nat) (seA : Nat) (stA : Nat) (bsA : Nat) (lfA : Nat) (giA : Nat) (btA : Nat) (gaA : Nat) (waA : Nat) (cmA : Nat) (cgA : Nat) (dwA : Nat) (th : Nat) (mn : Nat) (mr : Nat) (bc : Nat) (xc : Nat) (xd : Nat) (an : Nat) (fn : Nat) (gki : Nat → Nat) (gfi : Nat → Nat) (gat : Nat → Nat) (gse : Nat → Nat) (gst : Nat → Nat) (xx : Int32) (dd : Int64) (hmn : mn ≤ 8) (hmr : mr ≤ 60) : zMi l yX4_force wsX4_force ({ frames := 1, cells := 0, slots := 0, locals := 26 }) D cA [.ref md, .int xx, .long dd] sz [(md, .inr (6, [.int (nI th), .int (nI mn), .int (nI mr), .ref veA, .ref lkA, .ref baA, .ref kiA, .ref fiA, .ref atA, .ref seA, .ref stA, .ref bsA, .ref lfA, .ref giA, .ref btA, .int (nI bc), .int (nI xc), .int (nI xd), .int (nI an), .int (nI fn), .ref gaA, .ref waA, .ref cmA, .ref cgA, .ref dwA])), (kiA, .inl (cA, 60, .inl (aN gki))), (fiA, .inl (cA, 60, .inl (aN gfi))), (atA, .inl (cA, 60, .inl (aN gat))), (seA, .inl (cA, 60, .inl (aN gse))), (stA, .inl (cA, 60, .inl (aN gst)))] [(md, .inr (6, [.int (nI 0), .int (nI mn), .int (nI ((msetF xx 2 dd mn mr gki gfi gat gse gst).2.2.2.2.2.2)), .ref veA, .ref lkA, .ref baA, .ref kiA, .ref fiA, .ref atA, .ref seA, .ref stA, .ref bsA, .ref lfA, .ref giA, .ref btA, .int (nI bc), .int (nI xc), .int (nI xd), .int (nI an), .int (nI fn), .ref gaA, .ref waA, .ref cmA, .ref cgA, .ref dwA])), (kiA, .inl (cA, 60, .inl (aN ((msetF xx 2 dd mn mr gki gfi gat gse gst).2.1)))), (fiA, .inl (cA, 60, .inl (aN ((msetF xx 2 dd mn mr gki gfi gat gse gst).2.2.1)))), (atA, .inl (cA, 60, .inl (aN ((msetF xx 2 dd mn mr gki gfi gat gse gst).2.2.2.1)))), (seA, .inl (cA, 60, .inl (aN ((msetF xx 2 dd mn mr gki gfi gat gse gst).2.2.2.2.1)))), (stA, .inl (cA, 60, .inl (aN ((msetF xx 2 dd mn mr gki gfi gat gse gst).2.2.2.2.2.1))))] ((msetF xx 2 dd mn mr gki gfi gat gse gst).1) := by
  refine Met.ofW (cc := cX4_force) (maxL := 4) (ret := (some .int)) (by decide) rfl ?_
  intro p e s m args below meth c s₁ B hml hv
  obtain ⟨rfl, hsz, hP, hK, hD0⟩ := hv
  have hx := B.exec
  have hb := B.bytes
  have hr := B.returns
  have hts := atoms_spec (ws := wsX4_force) B.pre
  have hown : s.vm.findClass RX4 = some m.cls := findClass_of_methodNamed B.named
  have hlocks := B.notSynchronized
  subst hsz
  have hD := hD0.self (sz := s.heap.size)
  generalize hAe : va_A [(md, .inr (6, [.int (nI th), .int (nI mn), .int (nI mr), .ref veA, .ref lkA, .ref baA, .ref kiA, .ref fiA, .ref atA, .ref seA, .ref stA, .ref bsA, .ref lfA, .ref giA, .ref btA, .int (nI bc), .int (nI xc), .int (nI xd), .int (nI an), .int (nI fn), .ref gaA, .ref waA, .ref cmA, .ref cgA, .ref dwA])), (kiA, .inl (cA, 60, .inl (aN gki))), (fiA, .inl (cA, 60, .inl (aN gfi))), (atA, .inl (cA, 60, .inl (aN gat))), (seA, .inl (cA, 60, .inl (aN gse))), (stA, .inl (cA, 60, .inl (aN gst)))] s.heap.size = A at hD ⊢
  have hA : ∀ q : Nat, s.heap.size ≤ q → A q := fun q h => by rw [← hAe]; exact Or.inr h
  have hS : va_S A s.heap s.heap [] := va_S.rf
  have hP : va_P D vwCl [(md, .inr (6, [.int (nI th), .int (nI mn), .int (nI mr), .ref veA, .ref lkA, .ref baA, .ref kiA, .ref fiA, .ref atA, .ref seA, .ref stA, .ref bsA, .ref lfA, .ref giA, .ref btA, .int (nI bc), .int (nI xc), .int (nI xd), .int (nI an), .int (nI fn), .ref gaA, .ref waA, .ref cmA, .ref cgA, .ref dwA])), (kiA, .inl (cA, 60, .inl (aN gki))), (fiA, .inl (cA, 60, .inl (aN gfi))), (atA, .inl (cA, 60, .inl (aN gat))), (seA, .inl (cA, 60, .inl (aN gse))), (stA, .inl (cA, 60, .inl (aN gst)))] s.heap := hP
  have hl := lv_entry ([.ref md, .int xx, .long dd]) (n := 4) (Nat.le_of_ble_eq_true rfl)
  rw [lg_entry_eq]
  generalize (lg_sl ([.ref md, .int xx, .long dd]) ++ List.replicate (4 - (lg_sl ([.ref md, .int xx, .long dd])).length) Slot.unset).toArray = ls at hl ⊢
  have hl : lv_has ls 4 [(0, .ref md), (1, .int xx), (2, .long dd)] := hl
  refine lv_aload_n hx hb dX4_force_0 rfl (lv_at hl 0 rfl) ?_
  refine lv_iconst (v := nI 0) hx hb dX4_force_1 (by decide) ?_
  refine va_put (D := D) (ci := 6) (v := .int (nI 0)) (ty := .int) (C := RX4) (T := TX4) (N := 25) hx hb hts inX4_force_X4 tyX4 tyX4_ok nmX4 hown hK.1 hP hD hS 0 rfl rfl 0 (by decide) (hts _ lkX4_force_61) (fun _ h9 => h9) rfl (by decide +kernel) rfl rfl (Nat.le_of_ble_eq_true rfl) dX4_force_2 (fun H locs hP hD hS => ?_)
  have hP : va_P D vwCl [(md, .inr (6, [.int (nI 0), .int (nI mn), .int (nI mr), .ref veA, .ref lkA, .ref baA, .ref kiA, .ref fiA, .ref atA, .ref seA, .ref stA, .ref bsA, .ref lfA, .ref giA, .ref btA, .int (nI bc), .int (nI xc), .int (nI xd), .int (nI an), .int (nI fn), .ref gaA, .ref waA, .ref cmA, .ref cgA, .ref dwA])), (kiA, .inl (cA, 60, .inl (aN gki))), (fiA, .inl (cA, 60, .inl (aN gfi))), (atA, .inl (cA, 60, .inl (aN gat))), (seA, .inl (cA, 60, .inl (aN gse))), (stA, .inl (cA, 60, .inl (aN gst)))] H := hP
  have hD : va_D A [(md, .inr (6, [.int (nI 0), .int (nI mn), .int (nI mr), .ref veA, .ref lkA, .ref baA, .ref kiA, .ref fiA, .ref atA, .ref seA, .ref stA, .ref bsA, .ref lfA, .ref giA, .ref btA, .int (nI bc), .int (nI xc), .int (nI xd), .int (nI an), .int (nI fn), .ref gaA, .ref waA, .ref cmA, .ref cgA, .ref dwA])), (kiA, .inl (cA, 60, .inl (aN gki))), (fiA, .inl (cA, 60, .inl (aN gfi))), (atA, .inl (cA, 60, .inl (aN gat))), (seA, .inl (cA, 60, .inl (aN gse))), (stA, .inl (cA, 60, .inl (aN gst)))] := hD
  refine lv_aload_n hx hb dX4_force_5 rfl (lv_at hl 0 rfl) ?_
  refine lv_iload_n hx hb dX4_force_6 rfl (lv_at hl 1 rfl) ?_
  refine zz_callI (av := []) (wc := [(md, .inr (6, [.int (nI 0), .int (nI mn), .int (nI mr), .ref veA, .ref lkA, .ref baA, .ref kiA, .ref fiA, .ref atA, .ref seA, .ref stA, .ref bsA, .ref lfA, .ref giA, .ref btA, .int (nI bc), .int (nI xc), .int (nI xd), .int (nI an), .int (nI fn), .ref gaA, .ref waA, .ref cmA, .ref cgA, .ref dwA]))]) (wr := [(kiA, .inl (cA, 60, .inl (aN gki))), (fiA, .inl (cA, 60, .inl (aN gfi))), (atA, .inl (cA, 60, .inl (aN gat))), (seA, .inl (cA, 60, .inl (aN gse))), (stA, .inl (cA, 60, .inl (aN gst)))]) hS hA hP hD [0] [1, 2, 3, 4, 5] rfl rfl (by decide) (by decide) (va_runV (As := [.int xx]) (rest := []) ⟨hx, hb, hml, hown, hts⟩ (kX4_isName l D cA H.size md veA lkA baA kiA fiA atA seA stA bsA lfA giA btA gaA waA cmA cgA dwA 0 mn mr bc xc xd an fn xx (by omega)) (cwV 1 hts gX4_force_X4_isName rfl rfl rfl (by decide +kernel) ⟨Nat.le_of_ble_eq_true rfl, Nat.le_of_ble_eq_true rfl⟩) ⟨(zPreS (av := [.ref md, .int xx]) (wc := [(md, .inr (6, [.int (nI 0), .int (nI mn), .int (nI mr), .ref veA, .ref lkA, .ref baA, .ref kiA, .ref fiA, .ref atA, .ref seA, .ref stA, .ref bsA, .ref lfA, .ref giA, .ref btA, .int (nI bc), .int (nI xc), .int (nI xd), .int (nI an), .int (nI fn), .ref gaA, .ref waA, .ref cmA, .ref cgA, .ref dwA]))]) hK hP hD [0] rfl (by decide) rfl).1, (va_recv hK.1 hP (ci := 6) (q0 := 0) rfl rfl), (zPreS (av := [.ref md, .int xx]) (wc := [(md, .inr (6, [.int (nI 0), .int (nI mn), .int (nI mr), .ref veA, .ref lkA, .ref baA, .ref kiA, .ref fiA, .ref atA, .ref seA, .ref stA, .ref bsA, .ref lfA, .ref giA, .ref btA, .int (nI bc), .int (nI xc), .int (nI xd), .int (nI an), .int (nI fn), .ref gaA, .ref waA, .ref cmA, .ref cgA, .ref dwA]))]) hK hP hD [0] rfl (by decide) rfl).2⟩ rfl rfl hl.1 rfl (lv_room (Nat.le_of_ble_eq_true rfl)) dX4_force_7 ⟨Nat.zero_le _, Nat.zero_le _⟩) (fun H locs hP hD hS => ?_)
  have hP : va_P D vwCl [(kiA, .inl (cA, 60, .inl (aN gki))), (fiA, .inl (cA, 60, .inl (aN gfi))), (atA, .inl (cA, 60, .inl (aN gat))), (seA, .inl (cA, 60, .inl (aN gse))), (stA, .inl (cA, 60, .inl (aN gst))), (md, .inr (6, [.int (nI 0), .int (nI mn), .int (nI mr), .ref veA, .ref lkA, .ref baA, .ref kiA, .ref fiA, .ref atA, .ref seA, .ref stA, .ref bsA, .ref lfA, .ref giA, .ref btA, .int (nI bc), .int (nI xc), .int (nI xd), .int (nI an), .int (nI fn), .ref gaA, .ref waA, .ref cmA, .ref cgA, .ref dwA]))] H := hP
  have hD : va_D A [(kiA, .inl (cA, 60, .inl (aN gki))), (fiA, .inl (cA, 60, .inl (aN gfi))), (atA, .inl (cA, 60, .inl (aN gat))), (seA, .inl (cA, 60, .inl (aN gse))), (stA, .inl (cA, 60, .inl (aN gst))), (md, .inr (6, [.int (nI 0), .int (nI mn), .int (nI mr), .ref veA, .ref lkA, .ref baA, .ref kiA, .ref fiA, .ref atA, .ref seA, .ref stA, .ref bsA, .ref lfA, .ref giA, .ref btA, .int (nI bc), .int (nI xc), .int (nI xd), .int (nI an), .int (nI fn), .ref gaA, .ref waA, .ref cmA, .ref cgA, .ref dwA]))] := hD
  have hP : va_P D vwCl [(md, .inr (6, [.int (nI 0), .int (nI mn), .int (nI mr), .ref veA, .ref lkA, .ref baA, .ref kiA, .ref fiA, .ref atA, .ref seA, .ref stA, .ref bsA, .ref lfA, .ref giA, .ref btA, .int (nI bc), .int (nI xc), .int (nI xd), .int (nI an), .int (nI fn), .ref gaA, .ref waA, .ref cmA, .ref cgA, .ref dwA])), (kiA, .inl (cA, 60, .inl (aN gki))), (fiA, .inl (cA, 60, .inl (aN gfi))), (atA, .inl (cA, 60, .inl (aN gat))), (seA, .inl (cA, 60, .inl (aN gse))), (stA, .inl (cA, 60, .inl (aN gst)))] H := hP.sub [5, 0, 1, 2, 3, 4] rfl
  have hD : va_D A [(md, .inr (6, [.int (nI 0), .int (nI mn), .int (nI mr), .ref veA, .ref lkA, .ref baA, .ref kiA, .ref fiA, .ref atA, .ref seA, .ref stA, .ref bsA, .ref lfA, .ref giA, .ref btA, .int (nI bc), .int (nI xc), .int (nI xd), .int (nI an), .int (nI fn), .ref gaA, .ref waA, .ref cmA, .ref cgA, .ref dwA])), (kiA, .inl (cA, 60, .inl (aN gki))), (fiA, .inl (cA, 60, .inl (aN gfi))), (atA, .inl (cA, 60, .inl (aN gat))), (seA, .inl (cA, 60, .inl (aN gse))), (stA, .inl (cA, 60, .inl (aN gst)))] := hD.sub [5, 0, 1, 2, 3, 4] (by decide) rfl
  refine nn_if_eq (tgt := 25) hx hb dX4_force_10 (by decide) if01_lt (fun c_10 => ?_) (fun c_10 => ?_)
  · have c_10 := if01_eq c_10
    refine lv_iconst (v := -1) hx hb dX4_force_25 (by decide) ?_
    have eF : msetF xx 2 dd mn mr gki gfi gat gse gst = ((-1), gki, gfi, gat, gse, gst, mr) := by unfold msetF; (repeat' (first | with_reducible rfl | contradiction | (exfalso; omega) | split))
    have eW : ([(md, .inr (6, [.int (nI 0), .int (nI mn), .int (nI mr), .ref veA, .ref lkA, .ref baA, .ref kiA, .ref fiA, .ref atA, .ref seA, .ref stA, .ref bsA, .ref lfA, .ref giA, .ref btA, .int (nI bc), .int (nI xc), .int (nI xd), .int (nI an), .int (nI fn), .ref gaA, .ref waA, .ref cmA, .ref cgA, .ref dwA])), (kiA, .inl (cA, 60, .inl (aN gki))), (fiA, .inl (cA, 60, .inl (aN gfi))), (atA, .inl (cA, 60, .inl (aN gat))), (seA, .inl (cA, 60, .inl (aN gse))), (stA, .inl (cA, 60, .inl (aN gst)))] : va_W) = [(md, .inr (6, [.int (nI 0), .int (nI mn), .int (nI ((msetF xx 2 dd mn mr gki gfi gat gse gst).2.2.2.2.2.2)), .ref veA, .ref lkA, .ref baA, .ref kiA, .ref fiA, .ref atA, .ref seA, .ref stA, .ref bsA, .ref lfA, .ref giA, .ref btA, .int (nI bc), .int (nI xc), .int (nI xd), .int (nI an), .int (nI fn), .ref gaA, .ref waA, .ref cmA, .ref cgA, .ref dwA])), (kiA, .inl (cA, 60, .inl (aN ((msetF xx 2 dd mn mr gki gfi gat gse gst).2.1)))), (fiA, .inl (cA, 60, .inl (aN ((msetF xx 2 dd mn mr gki gfi gat gse gst).2.2.1)))), (atA, .inl (cA, 60, .inl (aN ((msetF xx 2 dd mn mr gki gfi gat gse gst).2.2.2.1)))), (seA, .inl (cA, 60, .inl (aN ((msetF xx 2 dd mn mr gki gfi gat gse gst).2.2.2.2.1)))), (stA, .inl (cA, 60, .inl (aN ((msetF xx 2 dd mn mr gki gfi gat gse gst).2.2.2.2.2.1))))] := by rw [eF]
    rw [eW] at hP hD
    exact W.iret (v := (-1)) hx hb hr (fun t ht hW => ⟨⟨(-1), (), rfl, (by rw [eF]), by rw [ht]; exact hP, hD⟩, hS.F ht⟩) hS.2.2 dX4_force_26
  · have c_10 := if01_ne c_10
    have e1 := toN_eq (c_10).1
    have b1 : toN xx < mn := isN_lt (by omega) c_10
    have hl : lv_has ls 4 [(0, .ref md), (1, .int (nI (toN xx))), (2, .long dd)] := by rw [← e1]; exact hl
    refine lv_aload_n hx hb dX4_force_13 rfl (lv_at hl 0 rfl) ?_
    refine lv_iconst (v := nI 2) hx hb dX4_force_14 (by decide) ?_
    refine lv_iload_n hx hb dX4_force_15 rfl (lv_at hl 1 rfl) ?_
    refine lv_iconst (v := nI 0) hx hb dX4_force_16 (by decide) ?_
    refine lv_iconst (v := nI 0) hx hb dX4_force_17 (by decide) ?_
    refine lv_lload_n hx hb dX4_force_18 rfl (lv_at hl 2 rfl) ?_
    refine zz_callI (av := []) (wc := [(md, .inr (6, [.int (nI 0), .int (nI mn), .int (nI mr), .ref veA, .ref lkA, .ref baA, .ref kiA, .ref fiA, .ref atA, .ref seA, .ref stA, .ref bsA, .ref lfA, .ref giA, .ref btA, .int (nI bc), .int (nI xc), .int (nI xd), .int (nI an), .int (nI fn), .ref gaA, .ref waA, .ref cmA, .ref cgA, .ref dwA])), (kiA, .inl (cA, 60, .inl (aN gki))), (fiA, .inl (cA, 60, .inl (aN gfi))), (atA, .inl (cA, 60, .inl (aN gat))), (seA, .inl (cA, 60, .inl (aN gse))), (stA, .inl (cA, 60, .inl (aN gst)))]) (wr := []) hS hA hP hD [0, 1, 2, 3, 4, 5] [] rfl rfl (by decide) (by decide) (va_runV (As := [.int (nI 2), .int (nI (toN xx)), .int (nI 0), .int (nI 0), .long dd]) (rest := []) ⟨hx, hb, hml, hown, hts⟩ (kX4_add l D cA H.size md veA lkA baA kiA fiA atA seA stA bsA lfA giA btA gaA waA cmA cgA dwA 0 mn mr bc xc xd an fn gki gfi gat gse gst 2 (toN xx) 0 0 dd (by omega)) (cwV 5 hts gX4_force_X4_add rfl rfl rfl (by decide +kernel) ⟨Nat.le_of_ble_eq_true rfl, Nat.le_of_ble_eq_true rfl⟩) ⟨(zPreS (av := [.ref md, .int (nI 2), .int (nI (toN xx)), .int (nI 0), .int (nI 0), .long dd]) (wc := [(md, .inr (6, [.int (nI 0), .int (nI mn), .int (nI mr), .ref veA, .ref lkA, .ref baA, .ref kiA, .ref fiA, .ref atA, .ref seA, .ref stA, .ref bsA, .ref lfA, .ref giA, .ref btA, .int (nI bc), .int (nI xc), .int (nI xd), .int (nI an), .int (nI fn), .ref gaA, .ref waA, .ref cmA, .ref cgA, .ref dwA])), (kiA, .inl (cA, 60, .inl (aN gki))), (fiA, .inl (cA, 60, .inl (aN gfi))), (atA, .inl (cA, 60, .inl (aN gat))), (seA, .inl (cA, 60, .inl (aN gse))), (stA, .inl (cA, 60, .inl (aN gst)))]) hK hP hD [0, 1, 2, 3, 4, 5] rfl (by decide) rfl).1, (va_recv hK.1 hP (ci := 6) (q0 := 0) rfl rfl), (zPreS (av := [.ref md, .int (nI 2), .int (nI (toN xx)), .int (nI 0), .int (nI 0), .long dd]) (wc := [(md, .inr (6, [.int (nI 0), .int (nI mn), .int (nI mr), .ref veA, .ref lkA, .ref baA, .ref kiA, .ref fiA, .ref atA, .ref seA, .ref stA, .ref bsA, .ref lfA, .ref giA, .ref btA, .int (nI bc), .int (nI xc), .int (nI xd), .int (nI an), .int (nI fn), .ref gaA, .ref waA, .ref cmA, .ref cgA, .ref dwA])), (kiA, .inl (cA, 60, .inl (aN gki))), (fiA, .inl (cA, 60, .inl (aN gfi))), (atA, .inl (cA, 60, .inl (aN gat))), (seA, .inl (cA, 60, .inl (aN gse))), (stA, .inl (cA, 60, .inl (aN gst)))]) hK hP hD [0, 1, 2, 3, 4, 5] rfl (by decide) rfl).2⟩ rfl rfl hl.1 rfl (lv_room (Nat.le_of_ble_eq_true rfl)) dX4_force_19 ⟨Nat.zero_le _, Nat.zero_le _⟩) (fun H locs hP hD hS => ?_)
    have hP : va_P D vwCl [(md, .inr (6, [.int (nI 0), .int (nI mn), .int (nI ((addF 2 (toN xx) 0 0 dd mr gki gfi gat gse gst).2.2.2.2.2.2)), .ref veA, .ref lkA, .ref baA, .ref kiA, .ref fiA, .ref atA, .ref seA, .ref stA, .ref bsA, .ref lfA, .ref giA, .ref btA, .int (nI bc), .int (nI xc), .int (nI xd), .int (nI an), .int (nI fn), .ref gaA, .ref waA, .ref cmA, .ref cgA, .ref dwA])), (kiA, .inl (cA, 60, .inl (aN ((addF 2 (toN xx) 0 0 dd mr gki gfi gat gse gst).2.1)))), (fiA, .inl (cA, 60, .inl (aN ((addF 2 (toN xx) 0 0 dd mr gki gfi gat gse gst).2.2.1)))), (atA, .inl (cA, 60, .inl (aN ((addF 2 (toN xx) 0 0 dd mr gki gfi gat gse gst).2.2.2.1)))), (seA, .inl (cA, 60, .inl (aN ((addF 2 (toN xx) 0 0 dd mr gki gfi gat gse gst).2.2.2.2.1)))), (stA, .inl (cA, 60, .inl (aN ((addF 2 (toN xx) 0 0 dd mr gki gfi gat gse gst).2.2.2.2.2.1))))] H := hP
    have hD : va_D A [(md, .inr (6, [.int (nI 0), .int (nI mn), .int (nI ((addF 2 (toN xx) 0 0 dd mr gki gfi gat gse gst).2.2.2.2.2.2)), .ref veA, .ref lkA, .ref baA, .ref kiA, .ref fiA, .ref atA, .ref seA, .ref stA, .ref bsA, .ref lfA, .ref giA, .ref btA, .int (nI bc), .int (nI xc), .int (nI xd), .int (nI an), .int (nI fn), .ref gaA, .ref waA, .ref cmA, .ref cgA, .ref dwA])), (kiA, .inl (cA, 60, .inl (aN ((addF 2 (toN xx) 0 0 dd mr gki gfi gat gse gst).2.1)))), (fiA, .inl (cA, 60, .inl (aN ((addF 2 (toN xx) 0 0 dd mr gki gfi gat gse gst).2.2.1)))), (atA, .inl (cA, 60, .inl (aN ((addF 2 (toN xx) 0 0 dd mr gki gfi gat gse gst).2.2.2.1)))), (seA, .inl (cA, 60, .inl (aN ((addF 2 (toN xx) 0 0 dd mr gki gfi gat gse gst).2.2.2.2.1)))), (stA, .inl (cA, 60, .inl (aN ((addF 2 (toN xx) 0 0 dd mr gki gfi gat gse gst).2.2.2.2.2.1))))] := hD
    refine lv_goto (tgt := 26) hx hb dX4_force_22 (by decide) ?_
    have eF : msetF xx 2 dd mn mr gki gfi gat gse gst = (((addF 2 (toN xx) 0 0 dd mr gki gfi gat gse gst).1), (addF 2 (toN xx) 0 0 dd mr gki gfi gat gse gst).2.1, (addF 2 (toN xx) 0 0 dd mr gki gfi gat gse gst).2.2.1, (addF 2 (toN xx) 0 0 dd mr gki gfi gat gse gst).2.2.2.1, (addF 2 (toN xx) 0 0 dd mr gki gfi gat gse gst).2.2.2.2.1, (addF 2 (toN xx) 0 0 dd mr gki gfi gat gse gst).2.2.2.2.2.1, (addF 2 (toN xx) 0 0 dd mr gki gfi gat gse gst).2.2.2.2.2.2) := by unfold msetF; (repeat' (first | with_reducible rfl | contradiction | (exfalso; omega) | split))
    have eW : ([(md, .inr (6, [.int (nI 0), .int (nI mn), .int (nI ((addF 2 (toN xx) 0 0 dd mr gki gfi gat gse gst).2.2.2.2.2.2)), .ref veA, .ref lkA, .ref baA, .ref kiA, .ref fiA, .ref atA, .ref seA, .ref stA, .ref bsA, .ref lfA, .ref giA, .ref btA, .int (nI bc), .int (nI xc), .int (nI xd), .int (nI an), .int (nI fn), .ref gaA, .ref waA, .ref cmA, .ref cgA, .ref dwA])), (kiA, .inl (cA, 60, .inl (aN ((addF 2 (toN xx) 0 0 dd mr gki gfi gat gse gst).2.1)))), (fiA, .inl (cA, 60, .inl (aN ((addF 2 (toN xx) 0 0 dd mr gki gfi gat gse gst).2.2.1)))), (atA, .inl (cA, 60, .inl (aN ((addF 2 (toN xx) 0 0 dd mr gki gfi gat gse gst).2.2.2.1)))), (seA, .inl (cA, 60, .inl (aN ((addF 2 (toN xx) 0 0 dd mr gki gfi gat gse gst).2.2.2.2.1)))), (stA, .inl (cA, 60, .inl (aN ((addF 2 (toN xx) 0 0 dd mr gki gfi gat gse gst).2.2.2.2.2.1))))] : va_W) = [(md, .inr (6, [.int (nI 0), .int (nI mn), .int (nI ((msetF xx 2 dd mn mr gki gfi gat gse gst).2.2.2.2.2.2)), .ref veA, .ref lkA, .ref baA, .ref kiA, .ref fiA, .ref atA, .ref seA, .ref stA, .ref bsA, .ref lfA, .ref giA, .ref btA, .int (nI bc), .int (nI xc), .int (nI xd), .int (nI an), .int (nI fn), .ref gaA, .ref waA, .ref cmA, .ref cgA, .ref dwA])), (kiA, .inl (cA, 60, .inl (aN ((msetF xx 2 dd mn mr gki gfi gat gse gst).2.1)))), (fiA, .inl (cA, 60, .inl (aN ((msetF xx 2 dd mn mr gki gfi gat gse gst).2.2.1)))), (atA, .inl (cA, 60, .inl (aN ((msetF xx 2 dd mn mr gki gfi gat gse gst).2.2.2.1)))), (seA, .inl (cA, 60, .inl (aN ((msetF xx 2 dd mn mr gki gfi gat gse gst).2.2.2.2.1)))), (stA, .inl (cA, 60, .inl (aN ((msetF xx 2 dd mn mr gki gfi gat gse gst).2.2.2.2.2.1))))] := by rw [eF]
    rw [eW] at hP hD
    exact W.iret (v := ((addF 2 (toN xx) 0 0 dd mr gki gfi gat gse gst).1)) hx hb hr (fun t ht hW => ⟨⟨((addF 2 (toN xx) 0 0 dd mr gki gfi gat gse gst).1), (), rfl, (by rw [eF]), by rw [ht]; exact hP, hD⟩, hS.F ht⟩) hS.2.2 dX4_force_26

theorem lkX4_group_61 : Cond.fieldLink RX4 61 "LeastChangeModel" "thrown" "I" ∈ wsX4_group := by decide +kernel
theorem inX4_group_X4 : ∀ w ∈ wsX40, w ∈ wsX4_group := by decide +kernel
set_option maxHeartbeats 4000000 in
set_option maxRecDepth 100000 in
theorem kX4_group (l : Launch) (D : va_G) (cA : ClassId) (sz : Nat) (md : Nat) (veA : Nat) (lkA : Nat) (baA : Nat) (kiA : Nat) (fiA : Nat) (atA : Nat) (seA : Nat) (stA : Nat) (bsA : Nat) (lfA : Nat) (giA : Nat) (btA : Nat) (gaA : Nat) (waA : Nat) (cmA : Nat) (cgA : Nat) (dwA : Nat) (th : Nat) (mn : Nat) (mr : Nat) (bc : Nat) (xc : Nat) (xd : Nat) (an : Nat) (fn : Nat) (gki : Nat → Nat) (gfi : Nat → Nat) (gat : Nat → Nat) (gse : Nat → Nat) (gst : Nat → Nat) (p0 : Int32) (p1 : Int32) (hmn : mn ≤ 8) (hmr : mr ≤ 60) : zMi l yX4_group wsX4_group ({ frames := 1, cells := 0, slots := 0, locals := 26 }) D cA [.ref md, .int p0, .int p1] sz [(md, .inr (6, [.int (nI th), .int (nI mn), .int (nI mr), .ref veA, .ref lkA, .ref baA, .ref kiA, .ref fiA, .ref atA, .ref seA, .ref stA, .ref bsA, .ref lfA, .ref giA, .ref btA, .int (nI bc), .int (nI xc), .int (nI xd), .int (nI an), .int (nI fn), .ref gaA, .ref waA, .ref cmA, .ref cgA, .ref dwA])), (kiA, .inl (cA, 60, .inl (aN gki))), (fiA, .inl (cA, 60, .inl (aN gfi))), (atA, .inl (cA, 60, .inl (aN gat))), (seA, .inl (cA, 60, .inl (aN gse))), (stA, .inl (cA, 60, .inl (aN gst)))] [(md, .inr (6, [.int (nI 0), .int (nI mn), .int (nI ((mgrpF p0 p1 mn mr gki gfi gat gse gst).2.2.2.2.2.2)), .ref veA, .ref lkA, .ref baA, .ref kiA, .ref fiA, .ref atA, .ref seA, .ref stA, .ref bsA, .ref lfA, .ref giA, .ref btA, .int (nI bc), .int (nI xc), .int (nI xd), .int (nI an), .int (nI fn), .ref gaA, .ref waA, .ref cmA, .ref cgA, .ref dwA])), (kiA, .inl (cA, 60, .inl (aN ((mgrpF p0 p1 mn mr gki gfi gat gse gst).2.1)))), (fiA, .inl (cA, 60, .inl (aN ((mgrpF p0 p1 mn mr gki gfi gat gse gst).2.2.1)))), (atA, .inl (cA, 60, .inl (aN ((mgrpF p0 p1 mn mr gki gfi gat gse gst).2.2.2.1)))), (seA, .inl (cA, 60, .inl (aN ((mgrpF p0 p1 mn mr gki gfi gat gse gst).2.2.2.2.1)))), (stA, .inl (cA, 60, .inl (aN ((mgrpF p0 p1 mn mr gki gfi gat gse gst).2.2.2.2.2.1))))] ((mgrpF p0 p1 mn mr gki gfi gat gse gst).1) := by
  refine Met.ofW (cc := cX4_group) (maxL := 3) (ret := (some .int)) (by decide) rfl ?_
  intro p e s m args below meth c s₁ B hml hv
  obtain ⟨rfl, hsz, hP, hK, hD0⟩ := hv
  have hx := B.exec
  have hb := B.bytes
  have hr := B.returns
  have hts := atoms_spec (ws := wsX4_group) B.pre
  have hown : s.vm.findClass RX4 = some m.cls := findClass_of_methodNamed B.named
  have hlocks := B.notSynchronized
  subst hsz
  have hD := hD0.self (sz := s.heap.size)
  generalize hAe : va_A [(md, .inr (6, [.int (nI th), .int (nI mn), .int (nI mr), .ref veA, .ref lkA, .ref baA, .ref kiA, .ref fiA, .ref atA, .ref seA, .ref stA, .ref bsA, .ref lfA, .ref giA, .ref btA, .int (nI bc), .int (nI xc), .int (nI xd), .int (nI an), .int (nI fn), .ref gaA, .ref waA, .ref cmA, .ref cgA, .ref dwA])), (kiA, .inl (cA, 60, .inl (aN gki))), (fiA, .inl (cA, 60, .inl (aN gfi))), (atA, .inl (cA, 60, .inl (aN gat))), (seA, .inl (cA, 60, .inl (aN gse))), (stA, .inl (cA, 60, .inl (aN gst)))] s.heap.size = A at hD ⊢
  have hA : ∀ q : Nat, s.heap.size ≤ q → A q := fun q h => by rw [← hAe]; exact Or.inr h
  have hS : va_S A s.heap s.heap [] := va_S.rf
  have hP : va_P D vwCl [(md, .inr (6, [.int (nI th), .int (nI mn), .int (nI mr), .ref veA, .ref lkA, .ref baA, .ref kiA, .ref fiA, .ref atA, .ref seA, .ref stA, .ref bsA, .ref lfA, .ref giA, .ref btA, .int (nI bc), .int (nI xc), .int (nI xd), .int (nI an), .int (nI fn), .ref gaA, .ref waA, .ref cmA, .ref cgA, .ref dwA])), (kiA, .inl (cA, 60, .inl (aN gki))), (fiA, .inl (cA, 60, .inl (aN gfi))), (atA, .inl (cA, 60, .inl (aN gat))), (seA, .inl (cA, 60, .inl (aN gse))), (stA, .inl (cA, 60, .inl (aN gst)))] s.heap := hP
  have hl := lv_entry ([.ref md, .int p0, .int p1]) (n := 3) (Nat.le_of_ble_eq_true rfl)
  rw [lg_entry_eq]
  generalize (lg_sl ([.ref md, .int p0, .int p1]) ++ List.replicate (3 - (lg_sl ([.ref md, .int p0, .int p1])).length) Slot.unset).toArray = ls at hl ⊢
  have hl : lv_has ls 3 [(0, .ref md), (1, .int p0), (2, .int p1)] := hl
  refine lv_aload_n hx hb dX4_group_0 rfl (lv_at hl 0 rfl) ?_
  refine lv_iconst (v := nI 0) hx hb dX4_group_1 (by decide) ?_
  refine va_put (D := D) (ci := 6) (v := .int (nI 0)) (ty := .int) (C := RX4) (T := TX4) (N := 25) hx hb hts inX4_group_X4 tyX4 tyX4_ok nmX4 hown hK.1 hP hD hS 0 rfl rfl 0 (by decide) (hts _ lkX4_group_61) (fun _ h9 => h9) rfl (by decide +kernel) rfl rfl (Nat.le_of_ble_eq_true rfl) dX4_group_2 (fun H locs hP hD hS => ?_)
  have hP : va_P D vwCl [(md, .inr (6, [.int (nI 0), .int (nI mn), .int (nI mr), .ref veA, .ref lkA, .ref baA, .ref kiA, .ref fiA, .ref atA, .ref seA, .ref stA, .ref bsA, .ref lfA, .ref giA, .ref btA, .int (nI bc), .int (nI xc), .int (nI xd), .int (nI an), .int (nI fn), .ref gaA, .ref waA, .ref cmA, .ref cgA, .ref dwA])), (kiA, .inl (cA, 60, .inl (aN gki))), (fiA, .inl (cA, 60, .inl (aN gfi))), (atA, .inl (cA, 60, .inl (aN gat))), (seA, .inl (cA, 60, .inl (aN gse))), (stA, .inl (cA, 60, .inl (aN gst)))] H := hP
  have hD : va_D A [(md, .inr (6, [.int (nI 0), .int (nI mn), .int (nI mr), .ref veA, .ref lkA, .ref baA, .ref kiA, .ref fiA, .ref atA, .ref seA, .ref stA, .ref bsA, .ref lfA, .ref giA, .ref btA, .int (nI bc), .int (nI xc), .int (nI xd), .int (nI an), .int (nI fn), .ref gaA, .ref waA, .ref cmA, .ref cgA, .ref dwA])), (kiA, .inl (cA, 60, .inl (aN gki))), (fiA, .inl (cA, 60, .inl (aN gfi))), (atA, .inl (cA, 60, .inl (aN gat))), (seA, .inl (cA, 60, .inl (aN gse))), (stA, .inl (cA, 60, .inl (aN gst)))] := hD
  refine lv_aload_n hx hb dX4_group_5 rfl (lv_at hl 0 rfl) ?_
  refine lv_iload_n hx hb dX4_group_6 rfl (lv_at hl 1 rfl) ?_
  refine zz_callI (av := []) (wc := [(md, .inr (6, [.int (nI 0), .int (nI mn), .int (nI mr), .ref veA, .ref lkA, .ref baA, .ref kiA, .ref fiA, .ref atA, .ref seA, .ref stA, .ref bsA, .ref lfA, .ref giA, .ref btA, .int (nI bc), .int (nI xc), .int (nI xd), .int (nI an), .int (nI fn), .ref gaA, .ref waA, .ref cmA, .ref cgA, .ref dwA]))]) (wr := [(kiA, .inl (cA, 60, .inl (aN gki))), (fiA, .inl (cA, 60, .inl (aN gfi))), (atA, .inl (cA, 60, .inl (aN gat))), (seA, .inl (cA, 60, .inl (aN gse))), (stA, .inl (cA, 60, .inl (aN gst)))]) hS hA hP hD [0] [1, 2, 3, 4, 5] rfl rfl (by decide) (by decide) (va_runV (As := [.int p0]) (rest := []) ⟨hx, hb, hml, hown, hts⟩ (kX4_isName l D cA H.size md veA lkA baA kiA fiA atA seA stA bsA lfA giA btA gaA waA cmA cgA dwA 0 mn mr bc xc xd an fn p0 (by omega)) (cwV 1 hts gX4_group_X4_isName rfl rfl rfl (by decide +kernel) ⟨Nat.le_of_ble_eq_true rfl, Nat.le_of_ble_eq_true rfl⟩) ⟨(zPreS (av := [.ref md, .int p0]) (wc := [(md, .inr (6, [.int (nI 0), .int (nI mn), .int (nI mr), .ref veA, .ref lkA, .ref baA, .ref kiA, .ref fiA, .ref atA, .ref seA, .ref stA, .ref bsA, .ref lfA, .ref giA, .ref btA, .int (nI bc), .int (nI xc), .int (nI xd), .int (nI an), .int (nI fn), .ref gaA, .ref waA, .ref cmA, .ref cgA, .ref dwA]))]) hK hP hD [0] rfl (by decide) rfl).1, (va_recv hK.1 hP (ci := 6) (q0 := 0) rfl rfl), (zPreS (av := [.ref md, .int p0]) (wc := [(md, .inr (6, [.int (nI 0), .int (nI mn), .int (nI mr), .ref veA, .ref lkA, .ref baA, .ref kiA, .ref fiA, .ref atA, .ref seA, .ref stA, .ref bsA, .ref lfA, .ref giA, .ref btA, .int (nI bc), .int (nI xc), .int (nI xd), .int (nI an), .int (nI fn), .ref gaA, .ref waA, .ref cmA, .ref cgA, .ref dwA]))]) hK hP hD [0] rfl (by decide) rfl).2⟩ rfl rfl hl.1 rfl (lv_room (Nat.le_of_ble_eq_true rfl)) dX4_group_7 ⟨Nat.zero_le _, Nat.zero_le _⟩) (fun H locs hP hD hS => ?_)
  have hP : va_P D vwCl [(kiA, .inl (cA, 60, .inl (aN gki))), (fiA, .inl (cA, 60, .inl (aN gfi))), (atA, .inl (cA, 60, .inl (aN gat))), (seA, .inl (cA, 60, .inl (aN gse))), (stA, .inl (cA, 60, .inl (aN gst))), (md, .inr (6, [.int (nI 0), .int (nI mn), .int (nI mr), .ref veA, .ref lkA, .ref baA, .ref kiA, .ref fiA, .ref atA, .ref seA, .ref stA, .ref bsA, .ref lfA, .ref giA, .ref btA, .int (nI bc), .int (nI xc), .int (nI xd), .int (nI an), .int (nI fn), .ref gaA, .ref waA, .ref cmA, .ref cgA, .ref dwA]))] H := hP
  have hD : va_D A [(kiA, .inl (cA, 60, .inl (aN gki))), (fiA, .inl (cA, 60, .inl (aN gfi))), (atA, .inl (cA, 60, .inl (aN gat))), (seA, .inl (cA, 60, .inl (aN gse))), (stA, .inl (cA, 60, .inl (aN gst))), (md, .inr (6, [.int (nI 0), .int (nI mn), .int (nI mr), .ref veA, .ref lkA, .ref baA, .ref kiA, .ref fiA, .ref atA, .ref seA, .ref stA, .ref bsA, .ref lfA, .ref giA, .ref btA, .int (nI bc), .int (nI xc), .int (nI xd), .int (nI an), .int (nI fn), .ref gaA, .ref waA, .ref cmA, .ref cgA, .ref dwA]))] := hD
  have hP : va_P D vwCl [(md, .inr (6, [.int (nI 0), .int (nI mn), .int (nI mr), .ref veA, .ref lkA, .ref baA, .ref kiA, .ref fiA, .ref atA, .ref seA, .ref stA, .ref bsA, .ref lfA, .ref giA, .ref btA, .int (nI bc), .int (nI xc), .int (nI xd), .int (nI an), .int (nI fn), .ref gaA, .ref waA, .ref cmA, .ref cgA, .ref dwA])), (kiA, .inl (cA, 60, .inl (aN gki))), (fiA, .inl (cA, 60, .inl (aN gfi))), (atA, .inl (cA, 60, .inl (aN gat))), (seA, .inl (cA, 60, .inl (aN gse))), (stA, .inl (cA, 60, .inl (aN gst)))] H := hP.sub [5, 0, 1, 2, 3, 4] rfl
  have hD : va_D A [(md, .inr (6, [.int (nI 0), .int (nI mn), .int (nI mr), .ref veA, .ref lkA, .ref baA, .ref kiA, .ref fiA, .ref atA, .ref seA, .ref stA, .ref bsA, .ref lfA, .ref giA, .ref btA, .int (nI bc), .int (nI xc), .int (nI xd), .int (nI an), .int (nI fn), .ref gaA, .ref waA, .ref cmA, .ref cgA, .ref dwA])), (kiA, .inl (cA, 60, .inl (aN gki))), (fiA, .inl (cA, 60, .inl (aN gfi))), (atA, .inl (cA, 60, .inl (aN gat))), (seA, .inl (cA, 60, .inl (aN gse))), (stA, .inl (cA, 60, .inl (aN gst)))] := hD.sub [5, 0, 1, 2, 3, 4] (by decide) rfl
  refine nn_if_eq (tgt := 21) hx hb dX4_group_10 (by decide) if01_lt (fun c_10 => ?_) (fun c_10 => ?_)
  · have c_10 := if01_eq c_10
    refine lv_iconst (v := -1) hx hb dX4_group_21 (by decide) ?_
    have eF : mgrpF p0 p1 mn mr gki gfi gat gse gst = ((-1), gki, gfi, gat, gse, gst, mr) := by unfold mgrpF; (repeat' (first | with_reducible rfl | contradiction | (exfalso; omega) | split))
    have eW : ([(md, .inr (6, [.int (nI 0), .int (nI mn), .int (nI mr), .ref veA, .ref lkA, .ref baA, .ref kiA, .ref fiA, .ref atA, .ref seA, .ref stA, .ref bsA, .ref lfA, .ref giA, .ref btA, .int (nI bc), .int (nI xc), .int (nI xd), .int (nI an), .int (nI fn), .ref gaA, .ref waA, .ref cmA, .ref cgA, .ref dwA])), (kiA, .inl (cA, 60, .inl (aN gki))), (fiA, .inl (cA, 60, .inl (aN gfi))), (atA, .inl (cA, 60, .inl (aN gat))), (seA, .inl (cA, 60, .inl (aN gse))), (stA, .inl (cA, 60, .inl (aN gst)))] : va_W) = [(md, .inr (6, [.int (nI 0), .int (nI mn), .int (nI ((mgrpF p0 p1 mn mr gki gfi gat gse gst).2.2.2.2.2.2)), .ref veA, .ref lkA, .ref baA, .ref kiA, .ref fiA, .ref atA, .ref seA, .ref stA, .ref bsA, .ref lfA, .ref giA, .ref btA, .int (nI bc), .int (nI xc), .int (nI xd), .int (nI an), .int (nI fn), .ref gaA, .ref waA, .ref cmA, .ref cgA, .ref dwA])), (kiA, .inl (cA, 60, .inl (aN ((mgrpF p0 p1 mn mr gki gfi gat gse gst).2.1)))), (fiA, .inl (cA, 60, .inl (aN ((mgrpF p0 p1 mn mr gki gfi gat gse gst).2.2.1)))), (atA, .inl (cA, 60, .inl (aN ((mgrpF p0 p1 mn mr gki gfi gat gse gst).2.2.2.1)))), (seA, .inl (cA, 60, .inl (aN ((mgrpF p0 p1 mn mr gki gfi gat gse gst).2.2.2.2.1)))), (stA, .inl (cA, 60, .inl (aN ((mgrpF p0 p1 mn mr gki gfi gat gse gst).2.2.2.2.2.1))))] := by rw [eF]
    rw [eW] at hP hD
    exact W.iret (v := (-1)) hx hb hr (fun t ht hW => ⟨⟨(-1), (), rfl, (by rw [eF]), by rw [ht]; exact hP, hD⟩, hS.F ht⟩) hS.2.2 dX4_group_22
  · have c_10 := if01_ne c_10
    refine lv_aload_n hx hb dX4_group_13 rfl (lv_at hl 0 rfl) ?_
    refine lv_iload_n hx hb dX4_group_14 rfl (lv_at hl 2 rfl) ?_
    refine zz_callI (av := []) (wc := [(md, .inr (6, [.int (nI 0), .int (nI mn), .int (nI mr), .ref veA, .ref lkA, .ref baA, .ref kiA, .ref fiA, .ref atA, .ref seA, .ref stA, .ref bsA, .ref lfA, .ref giA, .ref btA, .int (nI bc), .int (nI xc), .int (nI xd), .int (nI an), .int (nI fn), .ref gaA, .ref waA, .ref cmA, .ref cgA, .ref dwA]))]) (wr := [(kiA, .inl (cA, 60, .inl (aN gki))), (fiA, .inl (cA, 60, .inl (aN gfi))), (atA, .inl (cA, 60, .inl (aN gat))), (seA, .inl (cA, 60, .inl (aN gse))), (stA, .inl (cA, 60, .inl (aN gst)))]) hS hA hP hD [0] [1, 2, 3, 4, 5] rfl rfl (by decide) (by decide) (va_runV (As := [.int p1]) (rest := []) ⟨hx, hb, hml, hown, hts⟩ (kX4_isName l D cA H.size md veA lkA baA kiA fiA atA seA stA bsA lfA giA btA gaA waA cmA cgA dwA 0 mn mr bc xc xd an fn p1 (by omega)) (cwV 1 hts gX4_group_X4_isName rfl rfl rfl (by decide +kernel) ⟨Nat.le_of_ble_eq_true rfl, Nat.le_of_ble_eq_true rfl⟩) ⟨(zPreS (av := [.ref md, .int p1]) (wc := [(md, .inr (6, [.int (nI 0), .int (nI mn), .int (nI mr), .ref veA, .ref lkA, .ref baA, .ref kiA, .ref fiA, .ref atA, .ref seA, .ref stA, .ref bsA, .ref lfA, .ref giA, .ref btA, .int (nI bc), .int (nI xc), .int (nI xd), .int (nI an), .int (nI fn), .ref gaA, .ref waA, .ref cmA, .ref cgA, .ref dwA]))]) hK hP hD [0] rfl (by decide) rfl).1, (va_recv hK.1 hP (ci := 6) (q0 := 0) rfl rfl), (zPreS (av := [.ref md, .int p1]) (wc := [(md, .inr (6, [.int (nI 0), .int (nI mn), .int (nI mr), .ref veA, .ref lkA, .ref baA, .ref kiA, .ref fiA, .ref atA, .ref seA, .ref stA, .ref bsA, .ref lfA, .ref giA, .ref btA, .int (nI bc), .int (nI xc), .int (nI xd), .int (nI an), .int (nI fn), .ref gaA, .ref waA, .ref cmA, .ref cgA, .ref dwA]))]) hK hP hD [0] rfl (by decide) rfl).2⟩ rfl rfl hl.1 rfl (lv_room (Nat.le_of_ble_eq_true rfl)) dX4_group_15 ⟨Nat.zero_le _, Nat.zero_le _⟩) (fun H locs hP hD hS => ?_)
    have hP : va_P D vwCl [(kiA, .inl (cA, 60, .inl (aN gki))), (fiA, .inl (cA, 60, .inl (aN gfi))), (atA, .inl (cA, 60, .inl (aN gat))), (seA, .inl (cA, 60, .inl (aN gse))), (stA, .inl (cA, 60, .inl (aN gst))), (md, .inr (6, [.int (nI 0), .int (nI mn), .int (nI mr), .ref veA, .ref lkA, .ref baA, .ref kiA, .ref fiA, .ref atA, .ref seA, .ref stA, .ref bsA, .ref lfA, .ref giA, .ref btA, .int (nI bc), .int (nI xc), .int (nI xd), .int (nI an), .int (nI fn), .ref gaA, .ref waA, .ref cmA, .ref cgA, .ref dwA]))] H := hP
    have hD : va_D A [(kiA, .inl (cA, 60, .inl (aN gki))), (fiA, .inl (cA, 60, .inl (aN gfi))), (atA, .inl (cA, 60, .inl (aN gat))), (seA, .inl (cA, 60, .inl (aN gse))), (stA, .inl (cA, 60, .inl (aN gst))), (md, .inr (6, [.int (nI 0), .int (nI mn), .int (nI mr), .ref veA, .ref lkA, .ref baA, .ref kiA, .ref fiA, .ref atA, .ref seA, .ref stA, .ref bsA, .ref lfA, .ref giA, .ref btA, .int (nI bc), .int (nI xc), .int (nI xd), .int (nI an), .int (nI fn), .ref gaA, .ref waA, .ref cmA, .ref cgA, .ref dwA]))] := hD
    have hP : va_P D vwCl [(md, .inr (6, [.int (nI 0), .int (nI mn), .int (nI mr), .ref veA, .ref lkA, .ref baA, .ref kiA, .ref fiA, .ref atA, .ref seA, .ref stA, .ref bsA, .ref lfA, .ref giA, .ref btA, .int (nI bc), .int (nI xc), .int (nI xd), .int (nI an), .int (nI fn), .ref gaA, .ref waA, .ref cmA, .ref cgA, .ref dwA])), (kiA, .inl (cA, 60, .inl (aN gki))), (fiA, .inl (cA, 60, .inl (aN gfi))), (atA, .inl (cA, 60, .inl (aN gat))), (seA, .inl (cA, 60, .inl (aN gse))), (stA, .inl (cA, 60, .inl (aN gst)))] H := hP.sub [5, 0, 1, 2, 3, 4] rfl
    have hD : va_D A [(md, .inr (6, [.int (nI 0), .int (nI mn), .int (nI mr), .ref veA, .ref lkA, .ref baA, .ref kiA, .ref fiA, .ref atA, .ref seA, .ref stA, .ref bsA, .ref lfA, .ref giA, .ref btA, .int (nI bc), .int (nI xc), .int (nI xd), .int (nI an), .int (nI fn), .ref gaA, .ref waA, .ref cmA, .ref cgA, .ref dwA])), (kiA, .inl (cA, 60, .inl (aN gki))), (fiA, .inl (cA, 60, .inl (aN gfi))), (atA, .inl (cA, 60, .inl (aN gat))), (seA, .inl (cA, 60, .inl (aN gse))), (stA, .inl (cA, 60, .inl (aN gst)))] := hD.sub [5, 0, 1, 2, 3, 4] (by decide) rfl
    refine nn_if_ne (tgt := 23) hx hb dX4_group_18 (by decide) if01_lt (fun c_18 => ?_) (fun c_18 => ?_)
    · have c_18 := if01_ne c_18
      have e1 := toN_eq (c_10).1
      have b1 : toN p0 < mn := isN_lt (by omega) c_10
      have hl : lv_has ls 3 [(0, .ref md), (1, .int (nI (toN p0))), (2, .int p1)] := by rw [← e1]; exact hl
      have e2 := toN_eq (c_18).1
      have b2 : toN p1 < mn := isN_lt (by omega) c_18
      have hl : lv_has ls 3 [(0, .ref md), (1, .int (nI (toN p0))), (2, .int (nI (toN p1)))] := by rw [← e2]; exact hl
      refine lv_iload_n hx hb dX4_group_23 rfl (lv_at hl 1 rfl) ?_
      refine lv_iload_n hx hb dX4_group_24 rfl (lv_at hl 2 rfl) ?_
      refine nn_icmp_ne (tgt := 33) hx hb dX4_group_25 (by decide) (by omega) (by omega) (fun c_25 => ?_) (fun c_25 => ?_)
      · refine lv_aload_n hx hb dX4_group_33 rfl (lv_at hl 0 rfl) ?_
        refine lv_iconst (v := nI 3) hx hb dX4_group_34 (by decide) ?_
        refine lv_iload_n hx hb dX4_group_35 rfl (lv_at hl 1 rfl) ?_
        refine lv_iconst (v := nI 0) hx hb dX4_group_36 (by decide) ?_
        refine lv_iload_n hx hb dX4_group_37 rfl (lv_at hl 2 rfl) ?_
        refine lv_lconst (v := 0) hx hb dX4_group_38 (by decide) ?_
        refine zz_callI (av := []) (wc := [(md, .inr (6, [.int (nI 0), .int (nI mn), .int (nI mr), .ref veA, .ref lkA, .ref baA, .ref kiA, .ref fiA, .ref atA, .ref seA, .ref stA, .ref bsA, .ref lfA, .ref giA, .ref btA, .int (nI bc), .int (nI xc), .int (nI xd), .int (nI an), .int (nI fn), .ref gaA, .ref waA, .ref cmA, .ref cgA, .ref dwA])), (kiA, .inl (cA, 60, .inl (aN gki))), (fiA, .inl (cA, 60, .inl (aN gfi))), (atA, .inl (cA, 60, .inl (aN gat))), (seA, .inl (cA, 60, .inl (aN gse))), (stA, .inl (cA, 60, .inl (aN gst)))]) (wr := []) hS hA hP hD [0, 1, 2, 3, 4, 5] [] rfl rfl (by decide) (by decide) (va_runV (As := [.int (nI 3), .int (nI (toN p0)), .int (nI 0), .int (nI (toN p1)), .long (0 : Int64)]) (rest := []) ⟨hx, hb, hml, hown, hts⟩ (kX4_add l D cA H.size md veA lkA baA kiA fiA atA seA stA bsA lfA giA btA gaA waA cmA cgA dwA 0 mn mr bc xc xd an fn gki gfi gat gse gst 3 (toN p0) 0 (toN p1) (0 : Int64) (by omega)) (cwV 5 hts gX4_group_X4_add rfl rfl rfl (by decide +kernel) ⟨Nat.le_of_ble_eq_true rfl, Nat.le_of_ble_eq_true rfl⟩) ⟨(zPreS (av := [.ref md, .int (nI 3), .int (nI (toN p0)), .int (nI 0), .int (nI (toN p1)), .long (0 : Int64)]) (wc := [(md, .inr (6, [.int (nI 0), .int (nI mn), .int (nI mr), .ref veA, .ref lkA, .ref baA, .ref kiA, .ref fiA, .ref atA, .ref seA, .ref stA, .ref bsA, .ref lfA, .ref giA, .ref btA, .int (nI bc), .int (nI xc), .int (nI xd), .int (nI an), .int (nI fn), .ref gaA, .ref waA, .ref cmA, .ref cgA, .ref dwA])), (kiA, .inl (cA, 60, .inl (aN gki))), (fiA, .inl (cA, 60, .inl (aN gfi))), (atA, .inl (cA, 60, .inl (aN gat))), (seA, .inl (cA, 60, .inl (aN gse))), (stA, .inl (cA, 60, .inl (aN gst)))]) hK hP hD [0, 1, 2, 3, 4, 5] rfl (by decide) rfl).1, (va_recv hK.1 hP (ci := 6) (q0 := 0) rfl rfl), (zPreS (av := [.ref md, .int (nI 3), .int (nI (toN p0)), .int (nI 0), .int (nI (toN p1)), .long (0 : Int64)]) (wc := [(md, .inr (6, [.int (nI 0), .int (nI mn), .int (nI mr), .ref veA, .ref lkA, .ref baA, .ref kiA, .ref fiA, .ref atA, .ref seA, .ref stA, .ref bsA, .ref lfA, .ref giA, .ref btA, .int (nI bc), .int (nI xc), .int (nI xd), .int (nI an), .int (nI fn), .ref gaA, .ref waA, .ref cmA, .ref cgA, .ref dwA])), (kiA, .inl (cA, 60, .inl (aN gki))), (fiA, .inl (cA, 60, .inl (aN gfi))), (atA, .inl (cA, 60, .inl (aN gat))), (seA, .inl (cA, 60, .inl (aN gse))), (stA, .inl (cA, 60, .inl (aN gst)))]) hK hP hD [0, 1, 2, 3, 4, 5] rfl (by decide) rfl).2⟩ rfl rfl hl.1 rfl (lv_room (Nat.le_of_ble_eq_true rfl)) dX4_group_39 ⟨Nat.zero_le _, Nat.zero_le _⟩) (fun H locs hP hD hS => ?_)
        have hP : va_P D vwCl [(md, .inr (6, [.int (nI 0), .int (nI mn), .int (nI ((addF 3 (toN p0) 0 (toN p1) (0 : Int64) mr gki gfi gat gse gst).2.2.2.2.2.2)), .ref veA, .ref lkA, .ref baA, .ref kiA, .ref fiA, .ref atA, .ref seA, .ref stA, .ref bsA, .ref lfA, .ref giA, .ref btA, .int (nI bc), .int (nI xc), .int (nI xd), .int (nI an), .int (nI fn), .ref gaA, .ref waA, .ref cmA, .ref cgA, .ref dwA])), (kiA, .inl (cA, 60, .inl (aN ((addF 3 (toN p0) 0 (toN p1) (0 : Int64) mr gki gfi gat gse gst).2.1)))), (fiA, .inl (cA, 60, .inl (aN ((addF 3 (toN p0) 0 (toN p1) (0 : Int64) mr gki gfi gat gse gst).2.2.1)))), (atA, .inl (cA, 60, .inl (aN ((addF 3 (toN p0) 0 (toN p1) (0 : Int64) mr gki gfi gat gse gst).2.2.2.1)))), (seA, .inl (cA, 60, .inl (aN ((addF 3 (toN p0) 0 (toN p1) (0 : Int64) mr gki gfi gat gse gst).2.2.2.2.1)))), (stA, .inl (cA, 60, .inl (aN ((addF 3 (toN p0) 0 (toN p1) (0 : Int64) mr gki gfi gat gse gst).2.2.2.2.2.1))))] H := hP
        have hD : va_D A [(md, .inr (6, [.int (nI 0), .int (nI mn), .int (nI ((addF 3 (toN p0) 0 (toN p1) (0 : Int64) mr gki gfi gat gse gst).2.2.2.2.2.2)), .ref veA, .ref lkA, .ref baA, .ref kiA, .ref fiA, .ref atA, .ref seA, .ref stA, .ref bsA, .ref lfA, .ref giA, .ref btA, .int (nI bc), .int (nI xc), .int (nI xd), .int (nI an), .int (nI fn), .ref gaA, .ref waA, .ref cmA, .ref cgA, .ref dwA])), (kiA, .inl (cA, 60, .inl (aN ((addF 3 (toN p0) 0 (toN p1) (0 : Int64) mr gki gfi gat gse gst).2.1)))), (fiA, .inl (cA, 60, .inl (aN ((addF 3 (toN p0) 0 (toN p1) (0 : Int64) mr gki gfi gat gse gst).2.2.1)))), (atA, .inl (cA, 60, .inl (aN ((addF 3 (toN p0) 0 (toN p1) (0 : Int64) mr gki gfi gat gse gst).2.2.2.1)))), (seA, .inl (cA, 60, .inl (aN ((addF 3 (toN p0) 0 (toN p1) (0 : Int64) mr gki gfi gat gse gst).2.2.2.2.1)))), (stA, .inl (cA, 60, .inl (aN ((addF 3 (toN p0) 0 (toN p1) (0 : Int64) mr gki gfi gat gse gst).2.2.2.2.2.1))))] := hD
        have eF : mgrpF p0 p1 mn mr gki gfi gat gse gst = (((addF 3 (toN p0) 0 (toN p1) (0 : Int64) mr gki gfi gat gse gst).1), (addF 3 (toN p0) 0 (toN p1) (0 : Int64) mr gki gfi gat gse gst).2.1, (addF 3 (toN p0) 0 (toN p1) (0 : Int64) mr gki gfi gat gse gst).2.2.1, (addF 3 (toN p0) 0 (toN p1) (0 : Int64) mr gki gfi gat gse gst).2.2.2.1, (addF 3 (toN p0) 0 (toN p1) (0 : Int64) mr gki gfi gat gse gst).2.2.2.2.1, (addF 3 (toN p0) 0 (toN p1) (0 : Int64) mr gki gfi gat gse gst).2.2.2.2.2.1, (addF 3 (toN p0) 0 (toN p1) (0 : Int64) mr gki gfi gat gse gst).2.2.2.2.2.2) := by unfold mgrpF; (repeat' (first | with_reducible rfl | contradiction | (exfalso; omega) | split))
        have eW : ([(md, .inr (6, [.int (nI 0), .int (nI mn), .int (nI ((addF 3 (toN p0) 0 (toN p1) (0 : Int64) mr gki gfi gat gse gst).2.2.2.2.2.2)), .ref veA, .ref lkA, .ref baA, .ref kiA, .ref fiA, .ref atA, .ref seA, .ref stA, .ref bsA, .ref lfA, .ref giA, .ref btA, .int (nI bc), .int (nI xc), .int (nI xd), .int (nI an), .int (nI fn), .ref gaA, .ref waA, .ref cmA, .ref cgA, .ref dwA])), (kiA, .inl (cA, 60, .inl (aN ((addF 3 (toN p0) 0 (toN p1) (0 : Int64) mr gki gfi gat gse gst).2.1)))), (fiA, .inl (cA, 60, .inl (aN ((addF 3 (toN p0) 0 (toN p1) (0 : Int64) mr gki gfi gat gse gst).2.2.1)))), (atA, .inl (cA, 60, .inl (aN ((addF 3 (toN p0) 0 (toN p1) (0 : Int64) mr gki gfi gat gse gst).2.2.2.1)))), (seA, .inl (cA, 60, .inl (aN ((addF 3 (toN p0) 0 (toN p1) (0 : Int64) mr gki gfi gat gse gst).2.2.2.2.1)))), (stA, .inl (cA, 60, .inl (aN ((addF 3 (toN p0) 0 (toN p1) (0 : Int64) mr gki gfi gat gse gst).2.2.2.2.2.1))))] : va_W) = [(md, .inr (6, [.int (nI 0), .int (nI mn), .int (nI ((mgrpF p0 p1 mn mr gki gfi gat gse gst).2.2.2.2.2.2)), .ref veA, .ref lkA, .ref baA, .ref kiA, .ref fiA, .ref atA, .ref seA, .ref stA, .ref bsA, .ref lfA, .ref giA, .ref btA, .int (nI bc), .int (nI xc), .int (nI xd), .int (nI an), .int (nI fn), .ref gaA, .ref waA, .ref cmA, .ref cgA, .ref dwA])), (kiA, .inl (cA, 60, .inl (aN ((mgrpF p0 p1 mn mr gki gfi gat gse gst).2.1)))), (fiA, .inl (cA, 60, .inl (aN ((mgrpF p0 p1 mn mr gki gfi gat gse gst).2.2.1)))), (atA, .inl (cA, 60, .inl (aN ((mgrpF p0 p1 mn mr gki gfi gat gse gst).2.2.2.1)))), (seA, .inl (cA, 60, .inl (aN ((mgrpF p0 p1 mn mr gki gfi gat gse gst).2.2.2.2.1)))), (stA, .inl (cA, 60, .inl (aN ((mgrpF p0 p1 mn mr gki gfi gat gse gst).2.2.2.2.2.1))))] := by rw [eF]
        rw [eW] at hP hD
        exact W.iret (v := ((addF 3 (toN p0) 0 (toN p1) (0 : Int64) mr gki gfi gat gse gst).1)) hx hb hr (fun t ht hW => ⟨⟨((addF 3 (toN p0) 0 (toN p1) (0 : Int64) mr gki gfi gat gse gst).1), (), rfl, (by rw [eF]), by rw [ht]; exact hP, hD⟩, hS.F ht⟩) hS.2.2 dX4_group_42
      · refine lv_bipush (v := -2) hx hb dX4_group_28 (by decide) ?_
        refine lv_goto (tgt := 42) hx hb dX4_group_30 (by decide) ?_
        have eF : mgrpF p0 p1 mn mr gki gfi gat gse gst = ((-2), gki, gfi, gat, gse, gst, mr) := by unfold mgrpF; (repeat' (first | with_reducible rfl | contradiction | (exfalso; omega) | split))
        have eW : ([(md, .inr (6, [.int (nI 0), .int (nI mn), .int (nI mr), .ref veA, .ref lkA, .ref baA, .ref kiA, .ref fiA, .ref atA, .ref seA, .ref stA, .ref bsA, .ref lfA, .ref giA, .ref btA, .int (nI bc), .int (nI xc), .int (nI xd), .int (nI an), .int (nI fn), .ref gaA, .ref waA, .ref cmA, .ref cgA, .ref dwA])), (kiA, .inl (cA, 60, .inl (aN gki))), (fiA, .inl (cA, 60, .inl (aN gfi))), (atA, .inl (cA, 60, .inl (aN gat))), (seA, .inl (cA, 60, .inl (aN gse))), (stA, .inl (cA, 60, .inl (aN gst)))] : va_W) = [(md, .inr (6, [.int (nI 0), .int (nI mn), .int (nI ((mgrpF p0 p1 mn mr gki gfi gat gse gst).2.2.2.2.2.2)), .ref veA, .ref lkA, .ref baA, .ref kiA, .ref fiA, .ref atA, .ref seA, .ref stA, .ref bsA, .ref lfA, .ref giA, .ref btA, .int (nI bc), .int (nI xc), .int (nI xd), .int (nI an), .int (nI fn), .ref gaA, .ref waA, .ref cmA, .ref cgA, .ref dwA])), (kiA, .inl (cA, 60, .inl (aN ((mgrpF p0 p1 mn mr gki gfi gat gse gst).2.1)))), (fiA, .inl (cA, 60, .inl (aN ((mgrpF p0 p1 mn mr gki gfi gat gse gst).2.2.1)))), (atA, .inl (cA, 60, .inl (aN ((mgrpF p0 p1 mn mr gki gfi gat gse gst).2.2.2.1)))), (seA, .inl (cA, 60, .inl (aN ((mgrpF p0 p1 mn mr gki gfi gat gse gst).2.2.2.2.1)))), (stA, .inl (cA, 60, .inl (aN ((mgrpF p0 p1 mn mr gki gfi gat gse gst).2.2.2.2.2.1))))] := by rw [eF]
        rw [eW] at hP hD
        exact W.iret (v := (-2)) hx hb hr (fun t ht hW => ⟨⟨(-2), (), rfl, (by rw [eF]), by rw [ht]; exact hP, hD⟩, hS.F ht⟩) hS.2.2 dX4_group_42
    · have c_18 := if01_eq c_18
      refine lv_iconst (v := -1) hx hb dX4_group_21 (by decide) ?_
      have eF : mgrpF p0 p1 mn mr gki gfi gat gse gst = ((-1), gki, gfi, gat, gse, gst, mr) := by unfold mgrpF; (repeat' (first | with_reducible rfl | contradiction | (exfalso; omega) | split))
      have eW : ([(md, .inr (6, [.int (nI 0), .int (nI mn), .int (nI mr), .ref veA, .ref lkA, .ref baA, .ref kiA, .ref fiA, .ref atA, .ref seA, .ref stA, .ref bsA, .ref lfA, .ref giA, .ref btA, .int (nI bc), .int (nI xc), .int (nI xd), .int (nI an), .int (nI fn), .ref gaA, .ref waA, .ref cmA, .ref cgA, .ref dwA])), (kiA, .inl (cA, 60, .inl (aN gki))), (fiA, .inl (cA, 60, .inl (aN gfi))), (atA, .inl (cA, 60, .inl (aN gat))), (seA, .inl (cA, 60, .inl (aN gse))), (stA, .inl (cA, 60, .inl (aN gst)))] : va_W) = [(md, .inr (6, [.int (nI 0), .int (nI mn), .int (nI ((mgrpF p0 p1 mn mr gki gfi gat gse gst).2.2.2.2.2.2)), .ref veA, .ref lkA, .ref baA, .ref kiA, .ref fiA, .ref atA, .ref seA, .ref stA, .ref bsA, .ref lfA, .ref giA, .ref btA, .int (nI bc), .int (nI xc), .int (nI xd), .int (nI an), .int (nI fn), .ref gaA, .ref waA, .ref cmA, .ref cgA, .ref dwA])), (kiA, .inl (cA, 60, .inl (aN ((mgrpF p0 p1 mn mr gki gfi gat gse gst).2.1)))), (fiA, .inl (cA, 60, .inl (aN ((mgrpF p0 p1 mn mr gki gfi gat gse gst).2.2.1)))), (atA, .inl (cA, 60, .inl (aN ((mgrpF p0 p1 mn mr gki gfi gat gse gst).2.2.2.1)))), (seA, .inl (cA, 60, .inl (aN ((mgrpF p0 p1 mn mr gki gfi gat gse gst).2.2.2.2.1)))), (stA, .inl (cA, 60, .inl (aN ((mgrpF p0 p1 mn mr gki gfi gat gse gst).2.2.2.2.2.1))))] := by rw [eF]
      rw [eW] at hP hD
      exact W.iret (v := (-1)) hx hb hr (fun t ht hW => ⟨⟨(-1), (), rfl, (by rw [eF]), by rw [ht]; exact hP, hD⟩, hS.F ht⟩) hS.2.2 dX4_group_22


def mrowF (xx : Int32) (mr : Nat) (gki gfi gat gse : Nat → Nat) : Nat := if isN xx mr then ((gki (toN xx) * 8 + gfi (toN xx)) * 8 + gat (toN xx)) * 8 + gse (toN xx) else 0

theorem lkX4_row_19 : Cond.fieldLink RX4 19 "LeastChangeModel" "kind" "[I" ∈ wsX4_row := by decide +kernel
theorem lkX4_row_22 : Cond.fieldLink RX4 22 "LeastChangeModel" "first" "[I" ∈ wsX4_row := by decide +kernel
theorem lkX4_row_25 : Cond.fieldLink RX4 25 "LeastChangeModel" "at" "[I" ∈ wsX4_row := by decide +kernel
theorem lkX4_row_28 : Cond.fieldLink RX4 28 "LeastChangeModel" "second" "[I" ∈ wsX4_row := by decide +kernel
theorem lkX4_row_61 : Cond.fieldLink RX4 61 "LeastChangeModel" "thrown" "I" ∈ wsX4_row := by decide +kernel
theorem lkX4_row_68 : Cond.fieldLink RX4 68 "LeastChangeModel" "rows" "I" ∈ wsX4_row := by decide +kernel
theorem inX4_row_X4 : ∀ w ∈ wsX40, w ∈ wsX4_row := by decide +kernel
set_option maxHeartbeats 4000000 in
set_option maxRecDepth 100000 in
theorem kX4_row (l : Launch) (D : va_G) (cA : ClassId) (sz : Nat) (md : Nat) (veA : Nat) (lkA : Nat) (baA : Nat) (kiA : Nat) (fiA : Nat) (atA : Nat) (seA : Nat) (stA : Nat) (bsA : Nat) (lfA : Nat) (giA : Nat) (btA : Nat) (gaA : Nat) (waA : Nat) (cmA : Nat) (cgA : Nat) (dwA : Nat) (th : Nat) (mn : Nat) (mr : Nat) (bc : Nat) (xc : Nat) (xd : Nat) (an : Nat) (fn : Nat) (gki : Nat → Nat) (gfi : Nat → Nat) (gat : Nat → Nat) (gse : Nat → Nat) (xx : Int32) (hmr : mr ≤ 60) : zMi l yX4_row wsX4_row ({ frames := 0, cells := 0, slots := 0, locals := 0 }) D cA [.ref md, .int xx] sz [(md, .inr (6, [.int (nI th), .int (nI mn), .int (nI mr), .ref veA, .ref lkA, .ref baA, .ref kiA, .ref fiA, .ref atA, .ref seA, .ref stA, .ref bsA, .ref lfA, .ref giA, .ref btA, .int (nI bc), .int (nI xc), .int (nI xd), .int (nI an), .int (nI fn), .ref gaA, .ref waA, .ref cmA, .ref cgA, .ref dwA])), (kiA, .inl (cA, 60, .inl (aN gki))), (fiA, .inl (cA, 60, .inl (aN gfi))), (atA, .inl (cA, 60, .inl (aN gat))), (seA, .inl (cA, 60, .inl (aN gse)))] [(md, .inr (6, [.int (nI (if isN xx mr then 0 else 1)), .int (nI mn), .int (nI mr), .ref veA, .ref lkA, .ref baA, .ref kiA, .ref fiA, .ref atA, .ref seA, .ref stA, .ref bsA, .ref lfA, .ref giA, .ref btA, .int (nI bc), .int (nI xc), .int (nI xd), .int (nI an), .int (nI fn), .ref gaA, .ref waA, .ref cmA, .ref cgA, .ref dwA])), (kiA, .inl (cA, 60, .inl (aN gki))), (fiA, .inl (cA, 60, .inl (aN gfi))), (atA, .inl (cA, 60, .inl (aN gat))), (seA, .inl (cA, 60, .inl (aN gse)))] (nI (mrowF xx mr gki gfi gat gse)) := by
  refine Met.ofW (cc := cX4_row) (maxL := 2) (ret := (some .int)) (by decide) rfl ?_
  intro p e s m args below meth c s₁ B hml hv
  obtain ⟨rfl, hsz, hP, hK, hD0⟩ := hv
  have hx := B.exec
  have hb := B.bytes
  have hr := B.returns
  have hts := atoms_spec (ws := wsX4_row) B.pre
  have hown : s.vm.findClass RX4 = some m.cls := findClass_of_methodNamed B.named
  have hlocks := B.notSynchronized
  subst hsz
  have hD := hD0.self (sz := s.heap.size)
  generalize hAe : va_A [(md, .inr (6, [.int (nI th), .int (nI mn), .int (nI mr), .ref veA, .ref lkA, .ref baA, .ref kiA, .ref fiA, .ref atA, .ref seA, .ref stA, .ref bsA, .ref lfA, .ref giA, .ref btA, .int (nI bc), .int (nI xc), .int (nI xd), .int (nI an), .int (nI fn), .ref gaA, .ref waA, .ref cmA, .ref cgA, .ref dwA])), (kiA, .inl (cA, 60, .inl (aN gki))), (fiA, .inl (cA, 60, .inl (aN gfi))), (atA, .inl (cA, 60, .inl (aN gat))), (seA, .inl (cA, 60, .inl (aN gse)))] s.heap.size = A at hD ⊢
  have hA : ∀ q : Nat, s.heap.size ≤ q → A q := fun q h => by rw [← hAe]; exact Or.inr h
  have hS : va_S A s.heap s.heap [] := va_S.rf
  have hP : va_P D vwCl [(md, .inr (6, [.int (nI th), .int (nI mn), .int (nI mr), .ref veA, .ref lkA, .ref baA, .ref kiA, .ref fiA, .ref atA, .ref seA, .ref stA, .ref bsA, .ref lfA, .ref giA, .ref btA, .int (nI bc), .int (nI xc), .int (nI xd), .int (nI an), .int (nI fn), .ref gaA, .ref waA, .ref cmA, .ref cgA, .ref dwA])), (kiA, .inl (cA, 60, .inl (aN gki))), (fiA, .inl (cA, 60, .inl (aN gfi))), (atA, .inl (cA, 60, .inl (aN gat))), (seA, .inl (cA, 60, .inl (aN gse)))] s.heap := hP
  have hl := lv_entry ([.ref md, .int xx]) (n := 2) (Nat.le_of_ble_eq_true rfl)
  rw [lg_entry_eq]
  generalize (lg_sl ([.ref md, .int xx]) ++ List.replicate (2 - (lg_sl ([.ref md, .int xx])).length) Slot.unset).toArray = ls at hl ⊢
  have hl : lv_has ls 2 [(0, .ref md), (1, .int xx)] := hl
  refine lv_aload_n hx hb dX4_row_0 rfl (lv_at hl 0 rfl) ?_
  refine lv_iload_n hx hb dX4_row_1 rfl (lv_at hl 1 rfl) ?_
  refine lv_if_lt (tgt := 17) hx hb dX4_row_2 (by decide) (fun c_2 => ?_) (fun c_2 => ?_)
  · refine lv_iconst (v := nI 1) hx hb dX4_row_17 (by decide) ?_
    refine va_put (D := D) (ci := 6) (v := .int (nI 1)) (ty := .int) (C := RX4) (T := TX4) (N := 25) hx hb hts inX4_row_X4 tyX4 tyX4_ok nmX4 hown hK.1 hP hD hS 0 rfl rfl 0 (by decide) (hts _ lkX4_row_61) (fun _ h9 => h9) rfl (by decide +kernel) rfl rfl (Nat.le_of_ble_eq_true rfl) dX4_row_18 (fun H locs hP hD hS => ?_)
    have hP : va_P D vwCl [(md, .inr (6, [.int (nI 1), .int (nI mn), .int (nI mr), .ref veA, .ref lkA, .ref baA, .ref kiA, .ref fiA, .ref atA, .ref seA, .ref stA, .ref bsA, .ref lfA, .ref giA, .ref btA, .int (nI bc), .int (nI xc), .int (nI xd), .int (nI an), .int (nI fn), .ref gaA, .ref waA, .ref cmA, .ref cgA, .ref dwA])), (kiA, .inl (cA, 60, .inl (aN gki))), (fiA, .inl (cA, 60, .inl (aN gfi))), (atA, .inl (cA, 60, .inl (aN gat))), (seA, .inl (cA, 60, .inl (aN gse)))] H := hP
    have hD : va_D A [(md, .inr (6, [.int (nI 1), .int (nI mn), .int (nI mr), .ref veA, .ref lkA, .ref baA, .ref kiA, .ref fiA, .ref atA, .ref seA, .ref stA, .ref bsA, .ref lfA, .ref giA, .ref btA, .int (nI bc), .int (nI xc), .int (nI xd), .int (nI an), .int (nI fn), .ref gaA, .ref waA, .ref cmA, .ref cgA, .ref dwA])), (kiA, .inl (cA, 60, .inl (aN gki))), (fiA, .inl (cA, 60, .inl (aN gfi))), (atA, .inl (cA, 60, .inl (aN gat))), (seA, .inl (cA, 60, .inl (aN gse)))] := hD
    refine lv_aload_n hx hb dX4_row_21 rfl (lv_at hl 0 rfl) ?_
    refine va_get (D := D) (ci := 6) (v := .int (nI 1)) (C := RX4) (T := TX4) (N := 25) hx hb hts inX4_row_X4 hown hK.1 hP 0 rfl rfl 0 (by decide) (hts _ lkX4_row_61) (fun _ h9 => h9) rfl dX4_row_22 ?_
    refine nn_if_le (tgt := 32) hx hb dX4_row_25 (by decide) (by decide) (fun c9 => absurd c9 (by decide)) (fun _ => ?_)
    refine lv_iconst (v := nI 0) hx hb dX4_row_28 (by decide) ?_
    refine lv_goto (tgt := 68) hx hb dX4_row_29 (by decide) ?_
    have cv : ¬ isN xx mr := fun q => q.1 c_2
    have eW : ([(md, .inr (6, [.int (nI 1), .int (nI mn), .int (nI mr), .ref veA, .ref lkA, .ref baA, .ref kiA, .ref fiA, .ref atA, .ref seA, .ref stA, .ref bsA, .ref lfA, .ref giA, .ref btA, .int (nI bc), .int (nI xc), .int (nI xd), .int (nI an), .int (nI fn), .ref gaA, .ref waA, .ref cmA, .ref cgA, .ref dwA])), (kiA, .inl (cA, 60, .inl (aN gki))), (fiA, .inl (cA, 60, .inl (aN gfi))), (atA, .inl (cA, 60, .inl (aN gat))), (seA, .inl (cA, 60, .inl (aN gse)))] : va_W) = [(md, .inr (6, [.int (nI (if isN xx mr then 0 else 1)), .int (nI mn), .int (nI mr), .ref veA, .ref lkA, .ref baA, .ref kiA, .ref fiA, .ref atA, .ref seA, .ref stA, .ref bsA, .ref lfA, .ref giA, .ref btA, .int (nI bc), .int (nI xc), .int (nI xd), .int (nI an), .int (nI fn), .ref gaA, .ref waA, .ref cmA, .ref cgA, .ref dwA])), (kiA, .inl (cA, 60, .inl (aN gki))), (fiA, .inl (cA, 60, .inl (aN gfi))), (atA, .inl (cA, 60, .inl (aN gat))), (seA, .inl (cA, 60, .inl (aN gse)))] := by first | rw [if_pos cv] | rw [if_neg cv]
    rw [eW] at hP hD
    exact W.iret (v := (nI 0)) hx hb hr (fun t ht hW => ⟨⟨(nI 0), (), rfl, (by unfold mrowF; first | rw [if_pos cv] | rw [if_neg cv]), by rw [ht]; exact hP, hD⟩, hS.F ht⟩) hS.2.2 dX4_row_68
  · refine lv_iload_n hx hb dX4_row_5 rfl (lv_at hl 1 rfl) ?_
    refine lv_aload_n hx hb dX4_row_6 rfl (lv_at hl 0 rfl) ?_
    refine va_get (D := D) (ci := 6) (v := .int (nI mr)) (C := RX4) (T := TX4) (N := 25) hx hb hts inX4_row_X4 hown hK.1 hP 0 rfl rfl 2 (by decide) (hts _ lkX4_row_68) (fun _ h9 => h9) rfl dX4_row_7 ?_
    refine lv_icmp_ge (tgt := 17) hx hb dX4_row_10 (by decide) (fun c_10 => ?_) (fun c_10 => ?_)
    · refine lv_iconst (v := nI 1) hx hb dX4_row_17 (by decide) ?_
      refine va_put (D := D) (ci := 6) (v := .int (nI 1)) (ty := .int) (C := RX4) (T := TX4) (N := 25) hx hb hts inX4_row_X4 tyX4 tyX4_ok nmX4 hown hK.1 hP hD hS 0 rfl rfl 0 (by decide) (hts _ lkX4_row_61) (fun _ h9 => h9) rfl (by decide +kernel) rfl rfl (Nat.le_of_ble_eq_true rfl) dX4_row_18 (fun H locs hP hD hS => ?_)
      have hP : va_P D vwCl [(md, .inr (6, [.int (nI 1), .int (nI mn), .int (nI mr), .ref veA, .ref lkA, .ref baA, .ref kiA, .ref fiA, .ref atA, .ref seA, .ref stA, .ref bsA, .ref lfA, .ref giA, .ref btA, .int (nI bc), .int (nI xc), .int (nI xd), .int (nI an), .int (nI fn), .ref gaA, .ref waA, .ref cmA, .ref cgA, .ref dwA])), (kiA, .inl (cA, 60, .inl (aN gki))), (fiA, .inl (cA, 60, .inl (aN gfi))), (atA, .inl (cA, 60, .inl (aN gat))), (seA, .inl (cA, 60, .inl (aN gse)))] H := hP
      have hD : va_D A [(md, .inr (6, [.int (nI 1), .int (nI mn), .int (nI mr), .ref veA, .ref lkA, .ref baA, .ref kiA, .ref fiA, .ref atA, .ref seA, .ref stA, .ref bsA, .ref lfA, .ref giA, .ref btA, .int (nI bc), .int (nI xc), .int (nI xd), .int (nI an), .int (nI fn), .ref gaA, .ref waA, .ref cmA, .ref cgA, .ref dwA])), (kiA, .inl (cA, 60, .inl (aN gki))), (fiA, .inl (cA, 60, .inl (aN gfi))), (atA, .inl (cA, 60, .inl (aN gat))), (seA, .inl (cA, 60, .inl (aN gse)))] := hD
      refine lv_aload_n hx hb dX4_row_21 rfl (lv_at hl 0 rfl) ?_
      refine va_get (D := D) (ci := 6) (v := .int (nI 1)) (C := RX4) (T := TX4) (N := 25) hx hb hts inX4_row_X4 hown hK.1 hP 0 rfl rfl 0 (by decide) (hts _ lkX4_row_61) (fun _ h9 => h9) rfl dX4_row_22 ?_
      refine nn_if_le (tgt := 32) hx hb dX4_row_25 (by decide) (by decide) (fun c9 => absurd c9 (by decide)) (fun _ => ?_)
      refine lv_iconst (v := nI 0) hx hb dX4_row_28 (by decide) ?_
      refine lv_goto (tgt := 68) hx hb dX4_row_29 (by decide) ?_
      have cv : ¬ isN xx mr := fun q => Int32.not_le.mpr q.2 c_10
      have eW : ([(md, .inr (6, [.int (nI 1), .int (nI mn), .int (nI mr), .ref veA, .ref lkA, .ref baA, .ref kiA, .ref fiA, .ref atA, .ref seA, .ref stA, .ref bsA, .ref lfA, .ref giA, .ref btA, .int (nI bc), .int (nI xc), .int (nI xd), .int (nI an), .int (nI fn), .ref gaA, .ref waA, .ref cmA, .ref cgA, .ref dwA])), (kiA, .inl (cA, 60, .inl (aN gki))), (fiA, .inl (cA, 60, .inl (aN gfi))), (atA, .inl (cA, 60, .inl (aN gat))), (seA, .inl (cA, 60, .inl (aN gse)))] : va_W) = [(md, .inr (6, [.int (nI (if isN xx mr then 0 else 1)), .int (nI mn), .int (nI mr), .ref veA, .ref lkA, .ref baA, .ref kiA, .ref fiA, .ref atA, .ref seA, .ref stA, .ref bsA, .ref lfA, .ref giA, .ref btA, .int (nI bc), .int (nI xc), .int (nI xd), .int (nI an), .int (nI fn), .ref gaA, .ref waA, .ref cmA, .ref cgA, .ref dwA])), (kiA, .inl (cA, 60, .inl (aN gki))), (fiA, .inl (cA, 60, .inl (aN gfi))), (atA, .inl (cA, 60, .inl (aN gat))), (seA, .inl (cA, 60, .inl (aN gse)))] := by first | rw [if_pos cv] | rw [if_neg cv]
      rw [eW] at hP hD
      exact W.iret (v := (nI 0)) hx hb hr (fun t ht hW => ⟨⟨(nI 0), (), rfl, (by unfold mrowF; first | rw [if_pos cv] | rw [if_neg cv]), by rw [ht]; exact hP, hD⟩, hS.F ht⟩) hS.2.2 dX4_row_68
    · refine lv_iconst (v := nI 0) hx hb dX4_row_13 (by decide) ?_
      refine lv_goto (tgt := 18) hx hb dX4_row_14 (by decide) ?_
      refine va_put (D := D) (ci := 6) (v := .int (nI 0)) (ty := .int) (C := RX4) (T := TX4) (N := 25) hx hb hts inX4_row_X4 tyX4 tyX4_ok nmX4 hown hK.1 hP hD hS 0 rfl rfl 0 (by decide) (hts _ lkX4_row_61) (fun _ h9 => h9) rfl (by decide +kernel) rfl rfl (Nat.le_of_ble_eq_true rfl) dX4_row_18 (fun H locs hP hD hS => ?_)
      have hP : va_P D vwCl [(md, .inr (6, [.int (nI 0), .int (nI mn), .int (nI mr), .ref veA, .ref lkA, .ref baA, .ref kiA, .ref fiA, .ref atA, .ref seA, .ref stA, .ref bsA, .ref lfA, .ref giA, .ref btA, .int (nI bc), .int (nI xc), .int (nI xd), .int (nI an), .int (nI fn), .ref gaA, .ref waA, .ref cmA, .ref cgA, .ref dwA])), (kiA, .inl (cA, 60, .inl (aN gki))), (fiA, .inl (cA, 60, .inl (aN gfi))), (atA, .inl (cA, 60, .inl (aN gat))), (seA, .inl (cA, 60, .inl (aN gse)))] H := hP
      have hD : va_D A [(md, .inr (6, [.int (nI 0), .int (nI mn), .int (nI mr), .ref veA, .ref lkA, .ref baA, .ref kiA, .ref fiA, .ref atA, .ref seA, .ref stA, .ref bsA, .ref lfA, .ref giA, .ref btA, .int (nI bc), .int (nI xc), .int (nI xd), .int (nI an), .int (nI fn), .ref gaA, .ref waA, .ref cmA, .ref cgA, .ref dwA])), (kiA, .inl (cA, 60, .inl (aN gki))), (fiA, .inl (cA, 60, .inl (aN gfi))), (atA, .inl (cA, 60, .inl (aN gat))), (seA, .inl (cA, 60, .inl (aN gse)))] := hD
      refine lv_aload_n hx hb dX4_row_21 rfl (lv_at hl 0 rfl) ?_
      refine va_get (D := D) (ci := 6) (v := .int (nI 0)) (C := RX4) (T := TX4) (N := 25) hx hb hts inX4_row_X4 hown hK.1 hP 0 rfl rfl 0 (by decide) (hts _ lkX4_row_61) (fun _ h9 => h9) rfl dX4_row_22 ?_
      refine nn_if_le (tgt := 32) hx hb dX4_row_25 (by decide) (by decide) (fun _ => ?_) (fun c9 => absurd c9 (by decide))
      have cv : isN xx mr := ⟨c_2, Int32.not_le.mp c_10⟩
      have e1 := toN_eq (cv).1
      have b1 : toN xx < mr := isN_lt (by omega) cv
      have hl : lv_has ls 2 [(0, .ref md), (1, .int (nI (toN xx)))] := by rw [← e1]; exact hl
      refine lv_aload_n hx hb dX4_row_32 rfl (lv_at hl 0 rfl) ?_
      refine va_get (D := D) (ci := 6) (v := .ref kiA) (C := RX4) (T := TX4) (N := 25) hx hb hts inX4_row_X4 hown hK.1 hP 0 rfl rfl 6 (by decide) (hts _ lkX4_row_19) (fun _ h9 => h9) rfl dX4_row_33 ?_
      refine lv_iload_n hx hb dX4_row_36 rfl (lv_at hl 1 rfl) ?_
      refine nn_ald hx hb hK hP 1 rfl (by omega) (by decide) dX4_row_37 ?_
      refine lv_bipush (v := nI 8) hx hb dX4_row_38 (by decide) ?_
      refine nn_imul hx hb dX4_row_40 ?_
      refine lv_aload_n hx hb dX4_row_41 rfl (lv_at hl 0 rfl) ?_
      refine va_get (D := D) (ci := 6) (v := .ref fiA) (C := RX4) (T := TX4) (N := 25) hx hb hts inX4_row_X4 hown hK.1 hP 0 rfl rfl 7 (by decide) (hts _ lkX4_row_22) (fun _ h9 => h9) rfl dX4_row_42 ?_
      refine lv_iload_n hx hb dX4_row_45 rfl (lv_at hl 1 rfl) ?_
      refine nn_ald hx hb hK hP 2 rfl (by omega) (by decide) dX4_row_46 ?_
      refine nn_iadd hx hb dX4_row_47 ?_
      refine lv_bipush (v := nI 8) hx hb dX4_row_48 (by decide) ?_
      refine nn_imul hx hb dX4_row_50 ?_
      refine lv_aload_n hx hb dX4_row_51 rfl (lv_at hl 0 rfl) ?_
      refine va_get (D := D) (ci := 6) (v := .ref atA) (C := RX4) (T := TX4) (N := 25) hx hb hts inX4_row_X4 hown hK.1 hP 0 rfl rfl 8 (by decide) (hts _ lkX4_row_25) (fun _ h9 => h9) rfl dX4_row_52 ?_
      refine lv_iload_n hx hb dX4_row_55 rfl (lv_at hl 1 rfl) ?_
      refine nn_ald hx hb hK hP 3 rfl (by omega) (by decide) dX4_row_56 ?_
      refine nn_iadd hx hb dX4_row_57 ?_
      refine lv_bipush (v := nI 8) hx hb dX4_row_58 (by decide) ?_
      refine nn_imul hx hb dX4_row_60 ?_
      refine lv_aload_n hx hb dX4_row_61 rfl (lv_at hl 0 rfl) ?_
      refine va_get (D := D) (ci := 6) (v := .ref seA) (C := RX4) (T := TX4) (N := 25) hx hb hts inX4_row_X4 hown hK.1 hP 0 rfl rfl 9 (by decide) (hts _ lkX4_row_28) (fun _ h9 => h9) rfl dX4_row_62 ?_
      refine lv_iload_n hx hb dX4_row_65 rfl (lv_at hl 1 rfl) ?_
      refine nn_ald hx hb hK hP 4 rfl (by omega) (by decide) dX4_row_66 ?_
      refine nn_iadd hx hb dX4_row_67 ?_
      skip
      have eW : ([(md, .inr (6, [.int (nI 0), .int (nI mn), .int (nI mr), .ref veA, .ref lkA, .ref baA, .ref kiA, .ref fiA, .ref atA, .ref seA, .ref stA, .ref bsA, .ref lfA, .ref giA, .ref btA, .int (nI bc), .int (nI xc), .int (nI xd), .int (nI an), .int (nI fn), .ref gaA, .ref waA, .ref cmA, .ref cgA, .ref dwA])), (kiA, .inl (cA, 60, .inl (aN gki))), (fiA, .inl (cA, 60, .inl (aN gfi))), (atA, .inl (cA, 60, .inl (aN gat))), (seA, .inl (cA, 60, .inl (aN gse)))] : va_W) = [(md, .inr (6, [.int (nI (if isN xx mr then 0 else 1)), .int (nI mn), .int (nI mr), .ref veA, .ref lkA, .ref baA, .ref kiA, .ref fiA, .ref atA, .ref seA, .ref stA, .ref bsA, .ref lfA, .ref giA, .ref btA, .int (nI bc), .int (nI xc), .int (nI xd), .int (nI an), .int (nI fn), .ref gaA, .ref waA, .ref cmA, .ref cgA, .ref dwA])), (kiA, .inl (cA, 60, .inl (aN gki))), (fiA, .inl (cA, 60, .inl (aN gfi))), (atA, .inl (cA, 60, .inl (aN gat))), (seA, .inl (cA, 60, .inl (aN gse)))] := by first | rw [if_pos cv] | rw [if_neg cv]
      rw [eW] at hP hD
      exact W.iret (v := (nI (((((((gki (toN xx)) * 8) + (gfi (toN xx))) * 8) + (gat (toN xx))) * 8) + (gse (toN xx))))) hx hb hr (fun t ht hW => ⟨⟨(nI (((((((gki (toN xx)) * 8) + (gfi (toN xx))) * 8) + (gat (toN xx))) * 8) + (gse (toN xx)))), (), rfl, (by unfold mrowF; first | rw [if_pos cv] | rw [if_neg cv]), by rw [ht]; exact hP, hD⟩, hS.F ht⟩) hS.2.2 dX4_row_68


/-- what is locked, if it may be given: 0 no, 7 none, else the version and 1 -/
def lockO (cb ve : Nat) : Nat := if cb = 0 then 7 else if cb ≤ ve then cb else 0
def optF (cb ve ko : Nat) : Nat := if ko = 0 then lockO cb ve else if (if ko ≤ ve then ve - ko + 1 else 7) = lockO cb ve then 0 else (if ko ≤ ve then ve - ko + 1 else 7)

theorem lkX4_option_34 : Cond.fieldLink RX4 34 "LeastChangeModel" "base" "[I" ∈ wsX4_option := by decide +kernel
theorem lkX4_option_7 : Cond.fieldLink RX4 7 "LeastChangeModel" "versions" "[I" ∈ wsX4_option := by decide +kernel
theorem inX4_option_X4 : ∀ w ∈ wsX40, w ∈ wsX4_option := by decide +kernel
set_option maxHeartbeats 4000000 in
set_option maxRecDepth 100000 in
theorem kX4_option (l : Launch) (D : va_G) (cA : ClassId) (sz : Nat) (md : Nat) (veA : Nat) (lkA : Nat) (baA : Nat) (kiA : Nat) (fiA : Nat) (atA : Nat) (seA : Nat) (stA : Nat) (bsA : Nat) (lfA : Nat) (giA : Nat) (btA : Nat) (gaA : Nat) (waA : Nat) (cmA : Nat) (cgA : Nat) (dwA : Nat) (th : Nat) (mn : Nat) (mr : Nat) (bc : Nat) (xc : Nat) (xd : Nat) (an : Nat) (fn : Nat) (gbs : Nat → Nat) (gve : Nat → Nat) (na : Nat) (ko : Nat) (hn : na < 8) (hko : ko < 2147483648) (hve : ∀ j, gve j ≤ 6) (hbs : ∀ j, gbs j < 32) : zMi l yX4_option wsX4_option ({ frames := 0, cells := 0, slots := 0, locals := 0 }) D cA [.ref md, .int (nI na), .int (nI ko)] sz [(md, .inr (6, [.int (nI th), .int (nI mn), .int (nI mr), .ref veA, .ref lkA, .ref baA, .ref kiA, .ref fiA, .ref atA, .ref seA, .ref stA, .ref bsA, .ref lfA, .ref giA, .ref btA, .int (nI bc), .int (nI xc), .int (nI xd), .int (nI an), .int (nI fn), .ref gaA, .ref waA, .ref cmA, .ref cgA, .ref dwA])), (bsA, .inl (cA, 8, .inl (aM gbs))), (veA, .inl (cA, 8, .inl (aN gve)))] [(md, .inr (6, [.int (nI th), .int (nI mn), .int (nI mr), .ref veA, .ref lkA, .ref baA, .ref kiA, .ref fiA, .ref atA, .ref seA, .ref stA, .ref bsA, .ref lfA, .ref giA, .ref btA, .int (nI bc), .int (nI xc), .int (nI xd), .int (nI an), .int (nI fn), .ref gaA, .ref waA, .ref cmA, .ref cgA, .ref dwA])), (bsA, .inl (cA, 8, .inl (aM gbs))), (veA, .inl (cA, 8, .inl (aN gve)))] (mI (optF (gbs na) (gve na) ko)) := by
  refine Met.ofW (cc := cX4_option) (maxL := 5) (ret := (some .int)) (by decide) rfl ?_
  intro p e s m args below meth c s₁ B hml hv
  obtain ⟨rfl, hsz, hP, hK, hD0⟩ := hv
  have hx := B.exec
  have hb := B.bytes
  have hr := B.returns
  have hts := atoms_spec (ws := wsX4_option) B.pre
  have hown : s.vm.findClass RX4 = some m.cls := findClass_of_methodNamed B.named
  have hlocks := B.notSynchronized
  subst hsz
  have hD := hD0.self (sz := s.heap.size)
  generalize hAe : va_A [(md, .inr (6, [.int (nI th), .int (nI mn), .int (nI mr), .ref veA, .ref lkA, .ref baA, .ref kiA, .ref fiA, .ref atA, .ref seA, .ref stA, .ref bsA, .ref lfA, .ref giA, .ref btA, .int (nI bc), .int (nI xc), .int (nI xd), .int (nI an), .int (nI fn), .ref gaA, .ref waA, .ref cmA, .ref cgA, .ref dwA])), (bsA, .inl (cA, 8, .inl (aM gbs))), (veA, .inl (cA, 8, .inl (aN gve)))] s.heap.size = A at hD ⊢
  have hA : ∀ q : Nat, s.heap.size ≤ q → A q := fun q h => by rw [← hAe]; exact Or.inr h
  have hS : va_S A s.heap s.heap [] := va_S.rf
  have hP : va_P D vwCl [(md, .inr (6, [.int (nI th), .int (nI mn), .int (nI mr), .ref veA, .ref lkA, .ref baA, .ref kiA, .ref fiA, .ref atA, .ref seA, .ref stA, .ref bsA, .ref lfA, .ref giA, .ref btA, .int (nI bc), .int (nI xc), .int (nI xd), .int (nI an), .int (nI fn), .ref gaA, .ref waA, .ref cmA, .ref cgA, .ref dwA])), (bsA, .inl (cA, 8, .inl (aM gbs))), (veA, .inl (cA, 8, .inl (aN gve)))] s.heap := hP
  have hl := lv_entry ([.ref md, .int (nI na), .int (nI ko)]) (n := 5) (Nat.le_of_ble_eq_true rfl)
  rw [lg_entry_eq]
  generalize (lg_sl ([.ref md, .int (nI na), .int (nI ko)]) ++ List.replicate (5 - (lg_sl ([.ref md, .int (nI na), .int (nI ko)])).length) Slot.unset).toArray = ls at hl ⊢
  have hl : lv_has ls 5 [(0, .ref md), (1, .int (nI na)), (2, .int (nI ko))] := hl
  refine lv_aload_n hx hb dX4_option_0 rfl (lv_at hl 0 rfl) ?_
  refine va_get (D := D) (ci := 6) (v := .ref bsA) (C := RX4) (T := TX4) (N := 25) hx hb hts inX4_option_X4 hown hK.1 hP 0 rfl rfl 11 (by decide) (hts _ lkX4_option_34) (fun _ h9 => h9) rfl dX4_option_1 ?_
  refine lv_iload_n hx hb dX4_option_4 rfl (lv_at hl 1 rfl) ?_
  refine mm_ald hx hb hK hP 1 rfl (by omega) (by decide) dX4_option_5 ?_
  refine lv_iconst (v := -1) hx hb dX4_option_6 (by decide) ?_
  refine zz_top (y := (mI 0)) mI_0.symm ?_
  refine mm_icmp_ne (tgt := 15) hx hb dX4_option_7 (by decide) (Nat.lt_trans (hbs _) (by decide)) (by omega) (fun c_7 => ?_) (fun c_7 => ?_)
  · refine lv_aload_n hx hb dX4_option_15 rfl (lv_at hl 0 rfl) ?_
    refine va_get (D := D) (ci := 6) (v := .ref bsA) (C := RX4) (T := TX4) (N := 25) hx hb hts inX4_option_X4 hown hK.1 hP 0 rfl rfl 11 (by decide) (hts _ lkX4_option_34) (fun _ h9 => h9) rfl dX4_option_16 ?_
    refine lv_iload_n hx hb dX4_option_19 rfl (lv_at hl 1 rfl) ?_
    refine mm_ald hx hb hK hP 1 rfl (by omega) (by decide) dX4_option_20 ?_
    refine lv_aload_n hx hb dX4_option_21 rfl (lv_at hl 0 rfl) ?_
    refine va_get (D := D) (ci := 6) (v := .ref veA) (C := RX4) (T := TX4) (N := 25) hx hb hts inX4_option_X4 hown hK.1 hP 0 rfl rfl 3 (by decide) (hts _ lkX4_option_7) (fun _ h9 => h9) rfl dX4_option_22 ?_
    refine lv_iload_n hx hb dX4_option_25 rfl (lv_at hl 1 rfl) ?_
    refine nn_ald hx hb hK hP 2 rfl (by omega) (by decide) dX4_option_26 ?_
    refine zz_top (y := (mI ((gve na) + 1))) (nI_mI _) ?_
    refine mm_icmp_ge (tgt := 39) hx hb dX4_option_27 (by decide) (Nat.lt_trans (hbs _) (by decide)) (by have := hve na; omega) (fun c_27 => ?_) (fun c_27 => ?_)
    · refine lv_iconst (v := -1) hx hb dX4_option_39 (by decide) ?_
      refine lv_istore_n (lv' := [(3, .int (-1)), (0, .ref md), (1, .int (nI na)), (2, .int (nI ko))]) hx hb dX4_option_40 rfl hl (by decide) rfl (fun ls hl => ?_)
      refine lv_iload_n hx hb dX4_option_41 rfl (lv_at hl 3 rfl) ?_
      refine nn_if_ne (tgt := 47) hx hb dX4_option_42 (by decide) (by omega) (fun c_42 => ?_) (fun c_42 => ?_)
      · refine lv_iload_n hx hb dX4_option_47 rfl (lv_at hl 3 rfl) ?_
        refine lv_aload_n hx hb dX4_option_48 rfl (lv_at hl 1 rfl) ?_
        refine va_get (D := D) (ci := 6) (v := .ref veA) (C := RX4) (T := TX4) (N := 25) hx hb hts inX4_option_X4 hown hK.1 hP 0 rfl rfl 3 (by decide) (hts _ lkX4_option_7) (fun _ h9 => h9) rfl dX4_option_49 ?_
        refine lv_iload_n hx hb dX4_option_52 rfl (lv_at hl 2 rfl) ?_
        refine nn_ald hx hb hK hP 2 rfl (by omega) (by decide) dX4_option_53 ?_
        refine nn_icmp_gt (tgt := 68) hx hb dX4_option_54 (by decide) (by omega) (by have := hve na; omega) (fun c_54 => ?_) (fun c_54 => ?_)
        · refine lv_bipush (v := nI 6) hx hb dX4_option_68 (by decide) ?_
          refine lv_istore (lv' := [(4, .int (nI 6)), (3, .int (-1)), (0, .ref md), (1, .int (nI na)), (2, .int (nI ko))]) hx hb dX4_option_70 hl (by decide) rfl (fun ls hl => ?_)
          refine lv_iload hx hb dX4_option_72 (lv_at hl 0 rfl) ?_
          refine lv_iload_n hx hb dX4_option_74 rfl (lv_at hl 1 rfl) ?_
          refine zz_top (y := (mI 0)) mI_0.symm ?_
          refine zz_top2 (y := (mI 7)) (nI_mI _) ?_
          refine mm_icmp_ne (tgt := 82) hx hb dX4_option_75 (by decide) (by have := hve na; omega) (by have := hbs na; omega) (fun c_75 => ?_) (fun c_75 => ?_)
          · refine lv_iload hx hb dX4_option_82 (lv_at hl 0 rfl) ?_
            have hv6 := hve na
            have hb9 := hbs na
            have eF : optF (gbs na) (gve na) ko = 6 + 1 := by unfold optF lockO; (repeat' split) <;> omega
            exact W.iret (v := (nI 6)) hx hb hr (fun t ht hW => ⟨⟨(nI 6), (), rfl, (by first | (rw [eF]; done) | (rw [eF]; rfl) | (rw [eF]; exact nI_mI _)), by rw [ht]; exact hP, hD⟩, hS.F ht⟩) hS.2.2 dX4_option_84
          · refine lv_iconst (v := -1) hx hb dX4_option_78 (by decide) ?_
            refine lv_goto (tgt := 84) hx hb dX4_option_79 (by decide) ?_
            have hv6 := hve na
            have hb9 := hbs na
            have eF : optF (gbs na) (gve na) ko = 0 := by unfold optF lockO; (repeat' split) <;> omega
            exact W.iret (v := (-1)) hx hb hr (fun t ht hW => ⟨⟨(-1), (), rfl, (by first | (rw [eF]; done) | (rw [eF]; rfl) | (rw [eF]; exact nI_mI _)), by rw [ht]; exact hP, hD⟩, hS.F ht⟩) hS.2.2 dX4_option_84
        · refine lv_aload_n hx hb dX4_option_57 rfl (lv_at hl 1 rfl) ?_
          refine va_get (D := D) (ci := 6) (v := .ref veA) (C := RX4) (T := TX4) (N := 25) hx hb hts inX4_option_X4 hown hK.1 hP 0 rfl rfl 3 (by decide) (hts _ lkX4_option_7) (fun _ h9 => h9) rfl dX4_option_58 ?_
          refine lv_iload_n hx hb dX4_option_61 rfl (lv_at hl 2 rfl) ?_
          refine nn_ald hx hb hK hP 2 rfl (by omega) (by decide) dX4_option_62 ?_
          refine lv_iload_n hx hb dX4_option_63 rfl (lv_at hl 3 rfl) ?_
          refine nn_isub hx hb (by omega) dX4_option_64 ?_
          refine lv_goto (tgt := 70) hx hb dX4_option_65 (by decide) ?_
          refine lv_istore (lv' := [(4, .int (nI ((gve na) - ko))), (3, .int (-1)), (0, .ref md), (1, .int (nI na)), (2, .int (nI ko))]) hx hb dX4_option_70 hl (by decide) rfl (fun ls hl => ?_)
          refine lv_iload hx hb dX4_option_72 (lv_at hl 0 rfl) ?_
          refine lv_iload_n hx hb dX4_option_74 rfl (lv_at hl 1 rfl) ?_
          refine zz_top (y := (mI 0)) mI_0.symm ?_
          refine zz_top2 (y := (mI (((gve na) - ko) + 1))) (nI_mI _) ?_
          refine mm_icmp_ne (tgt := 82) hx hb dX4_option_75 (by decide) (by have := hve na; omega) (by have := hbs na; omega) (fun c_75 => ?_) (fun c_75 => ?_)
          · refine lv_iload hx hb dX4_option_82 (lv_at hl 0 rfl) ?_
            have hv6 := hve na
            have hb9 := hbs na
            have eF : optF (gbs na) (gve na) ko = (gve na) - ko + 1 := by unfold optF lockO; (repeat' split) <;> omega
            exact W.iret (v := (nI ((gve na) - ko))) hx hb hr (fun t ht hW => ⟨⟨(nI ((gve na) - ko)), (), rfl, (by first | (rw [eF]; done) | (rw [eF]; rfl) | (rw [eF]; exact nI_mI _)), by rw [ht]; exact hP, hD⟩, hS.F ht⟩) hS.2.2 dX4_option_84
          · refine lv_iconst (v := -1) hx hb dX4_option_78 (by decide) ?_
            refine lv_goto (tgt := 84) hx hb dX4_option_79 (by decide) ?_
            have hv6 := hve na
            have hb9 := hbs na
            have eF : optF (gbs na) (gve na) ko = 0 := by unfold optF lockO; (repeat' split) <;> omega
            exact W.iret (v := (-1)) hx hb hr (fun t ht hW => ⟨⟨(-1), (), rfl, (by first | (rw [eF]; done) | (rw [eF]; rfl) | (rw [eF]; exact nI_mI _)), by rw [ht]; exact hP, hD⟩, hS.F ht⟩) hS.2.2 dX4_option_84
      · refine lv_iload_n hx hb dX4_option_45 rfl (lv_at hl 0 rfl) ?_
        have hv6 := hve na
        have hb9 := hbs na
        have eF : optF (gbs na) (gve na) ko = 0 := by unfold optF lockO; (repeat' split) <;> omega
        exact W.iret (v := (-1)) hx hb hr (fun t ht hW => ⟨⟨(-1), (), rfl, (by first | (rw [eF]; done) | (rw [eF]; rfl) | (rw [eF]; exact nI_mI _)), by rw [ht]; exact hP, hD⟩, hS.F ht⟩) hS.2.2 dX4_option_46
    · refine lv_aload_n hx hb dX4_option_30 rfl (lv_at hl 0 rfl) ?_
      refine va_get (D := D) (ci := 6) (v := .ref bsA) (C := RX4) (T := TX4) (N := 25) hx hb hts inX4_option_X4 hown hK.1 hP 0 rfl rfl 11 (by decide) (hts _ lkX4_option_34) (fun _ h9 => h9) rfl dX4_option_31 ?_
      refine lv_iload_n hx hb dX4_option_34 rfl (lv_at hl 1 rfl) ?_
      refine mm_ald hx hb hK hP 1 rfl (by omega) (by decide) dX4_option_35 ?_
      refine lv_goto (tgt := 40) hx hb dX4_option_36 (by decide) ?_
      refine lv_istore_n (lv' := [(3, .int (mI (gbs na))), (0, .ref md), (1, .int (nI na)), (2, .int (nI ko))]) hx hb dX4_option_40 rfl hl (by decide) rfl (fun ls hl => ?_)
      refine lv_iload_n hx hb dX4_option_41 rfl (lv_at hl 3 rfl) ?_
      refine nn_if_ne (tgt := 47) hx hb dX4_option_42 (by decide) (by omega) (fun c_42 => ?_) (fun c_42 => ?_)
      · refine lv_iload_n hx hb dX4_option_47 rfl (lv_at hl 3 rfl) ?_
        refine lv_aload_n hx hb dX4_option_48 rfl (lv_at hl 1 rfl) ?_
        refine va_get (D := D) (ci := 6) (v := .ref veA) (C := RX4) (T := TX4) (N := 25) hx hb hts inX4_option_X4 hown hK.1 hP 0 rfl rfl 3 (by decide) (hts _ lkX4_option_7) (fun _ h9 => h9) rfl dX4_option_49 ?_
        refine lv_iload_n hx hb dX4_option_52 rfl (lv_at hl 2 rfl) ?_
        refine nn_ald hx hb hK hP 2 rfl (by omega) (by decide) dX4_option_53 ?_
        refine nn_icmp_gt (tgt := 68) hx hb dX4_option_54 (by decide) (by omega) (by have := hve na; omega) (fun c_54 => ?_) (fun c_54 => ?_)
        · refine lv_bipush (v := nI 6) hx hb dX4_option_68 (by decide) ?_
          refine lv_istore (lv' := [(4, .int (nI 6)), (3, .int (mI (gbs na))), (0, .ref md), (1, .int (nI na)), (2, .int (nI ko))]) hx hb dX4_option_70 hl (by decide) rfl (fun ls hl => ?_)
          refine lv_iload hx hb dX4_option_72 (lv_at hl 0 rfl) ?_
          refine lv_iload_n hx hb dX4_option_74 rfl (lv_at hl 1 rfl) ?_
          refine zz_top2 (y := (mI 7)) (nI_mI _) ?_
          refine mm_icmp_ne (tgt := 82) hx hb dX4_option_75 (by decide) (by have := hve na; omega) (by have := hbs na; omega) (fun c_75 => ?_) (fun c_75 => ?_)
          · refine lv_iload hx hb dX4_option_82 (lv_at hl 0 rfl) ?_
            have hv6 := hve na
            have hb9 := hbs na
            have eF : optF (gbs na) (gve na) ko = 6 + 1 := by unfold optF lockO; (repeat' split) <;> omega
            exact W.iret (v := (nI 6)) hx hb hr (fun t ht hW => ⟨⟨(nI 6), (), rfl, (by first | (rw [eF]; done) | (rw [eF]; rfl) | (rw [eF]; exact nI_mI _)), by rw [ht]; exact hP, hD⟩, hS.F ht⟩) hS.2.2 dX4_option_84
          · refine lv_iconst (v := -1) hx hb dX4_option_78 (by decide) ?_
            refine lv_goto (tgt := 84) hx hb dX4_option_79 (by decide) ?_
            have hv6 := hve na
            have hb9 := hbs na
            have eF : optF (gbs na) (gve na) ko = 0 := by unfold optF lockO; (repeat' split) <;> omega
            exact W.iret (v := (-1)) hx hb hr (fun t ht hW => ⟨⟨(-1), (), rfl, (by first | (rw [eF]; done) | (rw [eF]; rfl) | (rw [eF]; exact nI_mI _)), by rw [ht]; exact hP, hD⟩, hS.F ht⟩) hS.2.2 dX4_option_84
        · refine lv_aload_n hx hb dX4_option_57 rfl (lv_at hl 1 rfl) ?_
          refine va_get (D := D) (ci := 6) (v := .ref veA) (C := RX4) (T := TX4) (N := 25) hx hb hts inX4_option_X4 hown hK.1 hP 0 rfl rfl 3 (by decide) (hts _ lkX4_option_7) (fun _ h9 => h9) rfl dX4_option_58 ?_
          refine lv_iload_n hx hb dX4_option_61 rfl (lv_at hl 2 rfl) ?_
          refine nn_ald hx hb hK hP 2 rfl (by omega) (by decide) dX4_option_62 ?_
          refine lv_iload_n hx hb dX4_option_63 rfl (lv_at hl 3 rfl) ?_
          refine nn_isub hx hb (by omega) dX4_option_64 ?_
          refine lv_goto (tgt := 70) hx hb dX4_option_65 (by decide) ?_
          refine lv_istore (lv' := [(4, .int (nI ((gve na) - ko))), (3, .int (mI (gbs na))), (0, .ref md), (1, .int (nI na)), (2, .int (nI ko))]) hx hb dX4_option_70 hl (by decide) rfl (fun ls hl => ?_)
          refine lv_iload hx hb dX4_option_72 (lv_at hl 0 rfl) ?_
          refine lv_iload_n hx hb dX4_option_74 rfl (lv_at hl 1 rfl) ?_
          refine zz_top2 (y := (mI (((gve na) - ko) + 1))) (nI_mI _) ?_
          refine mm_icmp_ne (tgt := 82) hx hb dX4_option_75 (by decide) (by have := hve na; omega) (by have := hbs na; omega) (fun c_75 => ?_) (fun c_75 => ?_)
          · refine lv_iload hx hb dX4_option_82 (lv_at hl 0 rfl) ?_
            have hv6 := hve na
            have hb9 := hbs na
            have eF : optF (gbs na) (gve na) ko = (gve na) - ko + 1 := by unfold optF lockO; (repeat' split) <;> omega
            exact W.iret (v := (nI ((gve na) - ko))) hx hb hr (fun t ht hW => ⟨⟨(nI ((gve na) - ko)), (), rfl, (by first | (rw [eF]; done) | (rw [eF]; rfl) | (rw [eF]; exact nI_mI _)), by rw [ht]; exact hP, hD⟩, hS.F ht⟩) hS.2.2 dX4_option_84
          · refine lv_iconst (v := -1) hx hb dX4_option_78 (by decide) ?_
            refine lv_goto (tgt := 84) hx hb dX4_option_79 (by decide) ?_
            have hv6 := hve na
            have hb9 := hbs na
            have eF : optF (gbs na) (gve na) ko = 0 := by unfold optF lockO; (repeat' split) <;> omega
            exact W.iret (v := (-1)) hx hb hr (fun t ht hW => ⟨⟨(-1), (), rfl, (by first | (rw [eF]; done) | (rw [eF]; rfl) | (rw [eF]; exact nI_mI _)), by rw [ht]; exact hP, hD⟩, hS.F ht⟩) hS.2.2 dX4_option_84
      · refine lv_iload_n hx hb dX4_option_45 rfl (lv_at hl 0 rfl) ?_
        have hv6 := hve na
        have hb9 := hbs na
        have eF : optF (gbs na) (gve na) ko = gbs na := by unfold optF lockO; (repeat' split) <;> omega
        exact W.iret (v := (mI (gbs na))) hx hb hr (fun t ht hW => ⟨⟨(mI (gbs na)), (), rfl, (by first | (rw [eF]; done) | (rw [eF]; rfl) | (rw [eF]; exact nI_mI _)), by rw [ht]; exact hP, hD⟩, hS.F ht⟩) hS.2.2 dX4_option_46
  · refine lv_bipush (v := nI 6) hx hb dX4_option_10 (by decide) ?_
    refine lv_goto (tgt := 40) hx hb dX4_option_12 (by decide) ?_
    refine lv_istore_n (lv' := [(3, .int (nI 6)), (0, .ref md), (1, .int (nI na)), (2, .int (nI ko))]) hx hb dX4_option_40 rfl hl (by decide) rfl (fun ls hl => ?_)
    refine lv_iload_n hx hb dX4_option_41 rfl (lv_at hl 3 rfl) ?_
    refine nn_if_ne (tgt := 47) hx hb dX4_option_42 (by decide) (by omega) (fun c_42 => ?_) (fun c_42 => ?_)
    · refine lv_iload_n hx hb dX4_option_47 rfl (lv_at hl 3 rfl) ?_
      refine lv_aload_n hx hb dX4_option_48 rfl (lv_at hl 1 rfl) ?_
      refine va_get (D := D) (ci := 6) (v := .ref veA) (C := RX4) (T := TX4) (N := 25) hx hb hts inX4_option_X4 hown hK.1 hP 0 rfl rfl 3 (by decide) (hts _ lkX4_option_7) (fun _ h9 => h9) rfl dX4_option_49 ?_
      refine lv_iload_n hx hb dX4_option_52 rfl (lv_at hl 2 rfl) ?_
      refine nn_ald hx hb hK hP 2 rfl (by omega) (by decide) dX4_option_53 ?_
      refine nn_icmp_gt (tgt := 68) hx hb dX4_option_54 (by decide) (by omega) (by have := hve na; omega) (fun c_54 => ?_) (fun c_54 => ?_)
      · refine lv_bipush (v := nI 6) hx hb dX4_option_68 (by decide) ?_
        refine lv_istore (lv' := [(4, .int (nI 6)), (3, .int (nI 6)), (0, .ref md), (1, .int (nI na)), (2, .int (nI ko))]) hx hb dX4_option_70 hl (by decide) rfl (fun ls hl => ?_)
        refine lv_iload hx hb dX4_option_72 (lv_at hl 0 rfl) ?_
        refine lv_iload_n hx hb dX4_option_74 rfl (lv_at hl 1 rfl) ?_
        refine nn_icmp_ne (tgt := 82) hx hb dX4_option_75 (by decide) (by have := hve na; omega) (by have := hbs na; omega) (fun c_75 => ?_) (fun c_75 => ?_)
        · refine lv_iload hx hb dX4_option_82 (lv_at hl 0 rfl) ?_
          have hv6 := hve na
          have hb9 := hbs na
          have eF : optF (gbs na) (gve na) ko = 6 + 1 := by unfold optF lockO; (repeat' split) <;> omega
          exact W.iret (v := (nI 6)) hx hb hr (fun t ht hW => ⟨⟨(nI 6), (), rfl, (by first | (rw [eF]; done) | (rw [eF]; rfl) | (rw [eF]; exact nI_mI _)), by rw [ht]; exact hP, hD⟩, hS.F ht⟩) hS.2.2 dX4_option_84
        · refine lv_iconst (v := -1) hx hb dX4_option_78 (by decide) ?_
          refine lv_goto (tgt := 84) hx hb dX4_option_79 (by decide) ?_
          have hv6 := hve na
          have hb9 := hbs na
          have eF : optF (gbs na) (gve na) ko = 0 := by unfold optF lockO; (repeat' split) <;> omega
          exact W.iret (v := (-1)) hx hb hr (fun t ht hW => ⟨⟨(-1), (), rfl, (by first | (rw [eF]; done) | (rw [eF]; rfl) | (rw [eF]; exact nI_mI _)), by rw [ht]; exact hP, hD⟩, hS.F ht⟩) hS.2.2 dX4_option_84
      · refine lv_aload_n hx hb dX4_option_57 rfl (lv_at hl 1 rfl) ?_
        refine va_get (D := D) (ci := 6) (v := .ref veA) (C := RX4) (T := TX4) (N := 25) hx hb hts inX4_option_X4 hown hK.1 hP 0 rfl rfl 3 (by decide) (hts _ lkX4_option_7) (fun _ h9 => h9) rfl dX4_option_58 ?_
        refine lv_iload_n hx hb dX4_option_61 rfl (lv_at hl 2 rfl) ?_
        refine nn_ald hx hb hK hP 2 rfl (by omega) (by decide) dX4_option_62 ?_
        refine lv_iload_n hx hb dX4_option_63 rfl (lv_at hl 3 rfl) ?_
        refine nn_isub hx hb (by omega) dX4_option_64 ?_
        refine lv_goto (tgt := 70) hx hb dX4_option_65 (by decide) ?_
        refine lv_istore (lv' := [(4, .int (nI ((gve na) - ko))), (3, .int (nI 6)), (0, .ref md), (1, .int (nI na)), (2, .int (nI ko))]) hx hb dX4_option_70 hl (by decide) rfl (fun ls hl => ?_)
        refine lv_iload hx hb dX4_option_72 (lv_at hl 0 rfl) ?_
        refine lv_iload_n hx hb dX4_option_74 rfl (lv_at hl 1 rfl) ?_
        refine nn_icmp_ne (tgt := 82) hx hb dX4_option_75 (by decide) (by have := hve na; omega) (by have := hbs na; omega) (fun c_75 => ?_) (fun c_75 => ?_)
        · refine lv_iload hx hb dX4_option_82 (lv_at hl 0 rfl) ?_
          have hv6 := hve na
          have hb9 := hbs na
          have eF : optF (gbs na) (gve na) ko = (gve na) - ko + 1 := by unfold optF lockO; (repeat' split) <;> omega
          exact W.iret (v := (nI ((gve na) - ko))) hx hb hr (fun t ht hW => ⟨⟨(nI ((gve na) - ko)), (), rfl, (by first | (rw [eF]; done) | (rw [eF]; rfl) | (rw [eF]; exact nI_mI _)), by rw [ht]; exact hP, hD⟩, hS.F ht⟩) hS.2.2 dX4_option_84
        · refine lv_iconst (v := -1) hx hb dX4_option_78 (by decide) ?_
          refine lv_goto (tgt := 84) hx hb dX4_option_79 (by decide) ?_
          have hv6 := hve na
          have hb9 := hbs na
          have eF : optF (gbs na) (gve na) ko = 0 := by unfold optF lockO; (repeat' split) <;> omega
          exact W.iret (v := (-1)) hx hb hr (fun t ht hW => ⟨⟨(-1), (), rfl, (by first | (rw [eF]; done) | (rw [eF]; rfl) | (rw [eF]; exact nI_mI _)), by rw [ht]; exact hP, hD⟩, hS.F ht⟩) hS.2.2 dX4_option_84
    · refine lv_iload_n hx hb dX4_option_45 rfl (lv_at hl 0 rfl) ?_
      have hv6 := hve na
      have hb9 := hbs na
      have eF : optF (gbs na) (gve na) ko = 6 + 1 := by unfold optF lockO; (repeat' split) <;> omega
      exact W.iret (v := (nI 6)) hx hb hr (fun t ht hW => ⟨⟨(nI 6), (), rfl, (by first | (rw [eF]; done) | (rw [eF]; rfl) | (rw [eF]; exact nI_mI _)), by rw [ht]; exact hP, hD⟩, hS.F ht⟩) hS.2.2 dX4_option_46

theorem lkX4_chosen_111 : Cond.fieldLink RX4 111 "LeastChangeModel" "found" "I" ∈ wsX4_chosen := by decide +kernel
theorem lkX4_chosen_46 : Cond.fieldLink RX4 46 "LeastChangeModel" "gave" "[I" ∈ wsX4_chosen := by decide +kernel
theorem lkX4_chosen_61 : Cond.fieldLink RX4 61 "LeastChangeModel" "thrown" "I" ∈ wsX4_chosen := by decide +kernel
theorem inX4_chosen_X4 : ∀ w ∈ wsX40, w ∈ wsX4_chosen := by decide +kernel
set_option maxHeartbeats 4000000 in
set_option maxRecDepth 100000 in
theorem kX4_chosen (l : Launch) (D : va_G) (cA : ClassId) (sz : Nat) (md : Nat) (veA : Nat) (lkA : Nat) (baA : Nat) (kiA : Nat) (fiA : Nat) (atA : Nat) (seA : Nat) (stA : Nat) (bsA : Nat) (lfA : Nat) (giA : Nat) (btA : Nat) (gaA : Nat) (waA : Nat) (cmA : Nat) (cgA : Nat) (dwA : Nat) (th : Nat) (mn : Nat) (mr : Nat) (bc : Nat) (xc : Nat) (xd : Nat) (an : Nat) (fn : Nat) (gga : Nat → Nat) (xx : Int32) (hfn : fn ≤ 8) : zMi l yX4_chosen wsX4_chosen ({ frames := 0, cells := 0, slots := 0, locals := 0 }) D cA [.ref md, .int xx] sz [(md, .inr (6, [.int (nI th), .int (nI mn), .int (nI mr), .ref veA, .ref lkA, .ref baA, .ref kiA, .ref fiA, .ref atA, .ref seA, .ref stA, .ref bsA, .ref lfA, .ref giA, .ref btA, .int (nI bc), .int (nI xc), .int (nI xd), .int (nI an), .int (nI fn), .ref gaA, .ref waA, .ref cmA, .ref cgA, .ref dwA])), (gaA, .inl (cA, 8, .inl (aM gga)))] [(md, .inr (6, [.int (nI 0), .int (nI mn), .int (nI mr), .ref veA, .ref lkA, .ref baA, .ref kiA, .ref fiA, .ref atA, .ref seA, .ref stA, .ref bsA, .ref lfA, .ref giA, .ref btA, .int (nI bc), .int (nI xc), .int (nI xd), .int (nI an), .int (nI fn), .ref gaA, .ref waA, .ref cmA, .ref cgA, .ref dwA])), (gaA, .inl (cA, 8, .inl (aM gga)))] (mI (if isN xx fn then gga (toN xx) else 0)) := by
  refine Met.ofW (cc := cX4_chosen) (maxL := 2) (ret := (some .int)) (by decide) rfl ?_
  intro p e s m args below meth c s₁ B hml hv
  obtain ⟨rfl, hsz, hP, hK, hD0⟩ := hv
  have hx := B.exec
  have hb := B.bytes
  have hr := B.returns
  have hts := atoms_spec (ws := wsX4_chosen) B.pre
  have hown : s.vm.findClass RX4 = some m.cls := findClass_of_methodNamed B.named
  have hlocks := B.notSynchronized
  subst hsz
  have hD := hD0.self (sz := s.heap.size)
  generalize hAe : va_A [(md, .inr (6, [.int (nI th), .int (nI mn), .int (nI mr), .ref veA, .ref lkA, .ref baA, .ref kiA, .ref fiA, .ref atA, .ref seA, .ref stA, .ref bsA, .ref lfA, .ref giA, .ref btA, .int (nI bc), .int (nI xc), .int (nI xd), .int (nI an), .int (nI fn), .ref gaA, .ref waA, .ref cmA, .ref cgA, .ref dwA])), (gaA, .inl (cA, 8, .inl (aM gga)))] s.heap.size = A at hD ⊢
  have hA : ∀ q : Nat, s.heap.size ≤ q → A q := fun q h => by rw [← hAe]; exact Or.inr h
  have hS : va_S A s.heap s.heap [] := va_S.rf
  have hP : va_P D vwCl [(md, .inr (6, [.int (nI th), .int (nI mn), .int (nI mr), .ref veA, .ref lkA, .ref baA, .ref kiA, .ref fiA, .ref atA, .ref seA, .ref stA, .ref bsA, .ref lfA, .ref giA, .ref btA, .int (nI bc), .int (nI xc), .int (nI xd), .int (nI an), .int (nI fn), .ref gaA, .ref waA, .ref cmA, .ref cgA, .ref dwA])), (gaA, .inl (cA, 8, .inl (aM gga)))] s.heap := hP
  have hl := lv_entry ([.ref md, .int xx]) (n := 2) (Nat.le_of_ble_eq_true rfl)
  rw [lg_entry_eq]
  generalize (lg_sl ([.ref md, .int xx]) ++ List.replicate (2 - (lg_sl ([.ref md, .int xx])).length) Slot.unset).toArray = ls at hl ⊢
  have hl : lv_has ls 2 [(0, .ref md), (1, .int xx)] := hl
  refine lv_aload_n hx hb dX4_chosen_0 rfl (lv_at hl 0 rfl) ?_
  refine lv_iconst (v := nI 0) hx hb dX4_chosen_1 (by decide) ?_
  refine va_put (D := D) (ci := 6) (v := .int (nI 0)) (ty := .int) (C := RX4) (T := TX4) (N := 25) hx hb hts inX4_chosen_X4 tyX4 tyX4_ok nmX4 hown hK.1 hP hD hS 0 rfl rfl 0 (by decide) (hts _ lkX4_chosen_61) (fun _ h9 => h9) rfl (by decide +kernel) rfl rfl (Nat.le_of_ble_eq_true rfl) dX4_chosen_2 (fun H locs hP hD hS => ?_)
  have hP : va_P D vwCl [(md, .inr (6, [.int (nI 0), .int (nI mn), .int (nI mr), .ref veA, .ref lkA, .ref baA, .ref kiA, .ref fiA, .ref atA, .ref seA, .ref stA, .ref bsA, .ref lfA, .ref giA, .ref btA, .int (nI bc), .int (nI xc), .int (nI xd), .int (nI an), .int (nI fn), .ref gaA, .ref waA, .ref cmA, .ref cgA, .ref dwA])), (gaA, .inl (cA, 8, .inl (aM gga)))] H := hP
  have hD : va_D A [(md, .inr (6, [.int (nI 0), .int (nI mn), .int (nI mr), .ref veA, .ref lkA, .ref baA, .ref kiA, .ref fiA, .ref atA, .ref seA, .ref stA, .ref bsA, .ref lfA, .ref giA, .ref btA, .int (nI bc), .int (nI xc), .int (nI xd), .int (nI an), .int (nI fn), .ref gaA, .ref waA, .ref cmA, .ref cgA, .ref dwA])), (gaA, .inl (cA, 8, .inl (aM gga)))] := hD
  refine lv_iload_n hx hb dX4_chosen_5 rfl (lv_at hl 1 rfl) ?_
  refine lv_if_lt (tgt := 26) hx hb dX4_chosen_6 (by decide) (fun c_6 => ?_) (fun c_6 => ?_)
  · refine lv_iconst (v := -1) hx hb dX4_chosen_26 (by decide) ?_
    have cv : ¬ isN xx fn := fun q => q.1 c_6
    exact W.iret (v := (-1)) hx hb hr (fun t ht hW => ⟨⟨(-1), (), rfl, (by first | (rw [if_pos cv]; done) | (rw [if_neg cv]; rfl)), by rw [ht]; exact hP, hD⟩, hS.F ht⟩) hS.2.2 dX4_chosen_27
  · refine lv_iload_n hx hb dX4_chosen_9 rfl (lv_at hl 1 rfl) ?_
    refine lv_aload_n hx hb dX4_chosen_10 rfl (lv_at hl 0 rfl) ?_
    refine va_get (D := D) (ci := 6) (v := .int (nI fn)) (C := RX4) (T := TX4) (N := 25) hx hb hts inX4_chosen_X4 hown hK.1 hP 0 rfl rfl 19 (by decide) (hts _ lkX4_chosen_111) (fun _ h9 => h9) rfl dX4_chosen_11 ?_
    refine lv_icmp_ge (tgt := 26) hx hb dX4_chosen_14 (by decide) (fun c_14 => ?_) (fun c_14 => ?_)
    · refine lv_iconst (v := -1) hx hb dX4_chosen_26 (by decide) ?_
      have cv : ¬ isN xx fn := fun q => Int32.not_le.mpr q.2 c_14
      exact W.iret (v := (-1)) hx hb hr (fun t ht hW => ⟨⟨(-1), (), rfl, (by first | (rw [if_pos cv]; done) | (rw [if_neg cv]; rfl)), by rw [ht]; exact hP, hD⟩, hS.F ht⟩) hS.2.2 dX4_chosen_27
    · have cw : isN xx fn := ⟨c_6, Int32.not_le.mp c_14⟩
      have e1 := toN_eq (cw).1
      have b1 : toN xx < fn := isN_lt (by omega) cw
      have hl : lv_has ls 2 [(0, .ref md), (1, .int (nI (toN xx)))] := by rw [← e1]; exact hl
      refine lv_aload_n hx hb dX4_chosen_17 rfl (lv_at hl 0 rfl) ?_
      refine va_get (D := D) (ci := 6) (v := .ref gaA) (C := RX4) (T := TX4) (N := 25) hx hb hts inX4_chosen_X4 hown hK.1 hP 0 rfl rfl 20 (by decide) (hts _ lkX4_chosen_46) (fun _ h9 => h9) rfl dX4_chosen_18 ?_
      refine lv_iload_n hx hb dX4_chosen_21 rfl (lv_at hl 1 rfl) ?_
      refine mm_ald hx hb hK hP 1 rfl (by omega) (by decide) dX4_chosen_22 ?_
      refine lv_goto (tgt := 27) hx hb dX4_chosen_23 (by decide) ?_
      have cv : isN xx fn := ⟨c_6, Int32.not_le.mp c_14⟩
      exact W.iret (v := (mI (gga (toN xx)))) hx hb hr (fun t ht hW => ⟨⟨(mI (gga (toN xx))), (), rfl, (by first | (rw [if_pos cv]; done) | (rw [if_neg cv]; rfl)), by rw [ht]; exact hP, hD⟩, hS.F ht⟩) hS.2.2 dX4_chosen_27


def mdnL (gga gwa : Nat → Nat) : Nat → Nat → Int32 → Nat
  | 0, _, _ => 0
  | k + 1, i, r => if gga i = 0 then mdnL gga gwa k (i + 1) r else if gga i < gwa i then (if r = 0 then i + 1 else mdnL gga gwa k (i + 1) (r + (-1))) else mdnL gga gwa k (i + 1) r
def mdnF (gga gwa : Nat → Nat) (fn : Nat) (xx : Int32) : Nat := if xx < 0 then 0 else mdnL gga gwa fn 0 xx

theorem lkX4_down_111 : Cond.fieldLink RX4 111 "LeastChangeModel" "found" "I" ∈ wsX4_down := by decide +kernel
theorem lkX4_down_46 : Cond.fieldLink RX4 46 "LeastChangeModel" "gave" "[I" ∈ wsX4_down := by decide +kernel
theorem lkX4_down_49 : Cond.fieldLink RX4 49 "LeastChangeModel" "was" "[I" ∈ wsX4_down := by decide +kernel
theorem lkX4_down_61 : Cond.fieldLink RX4 61 "LeastChangeModel" "thrown" "I" ∈ wsX4_down := by decide +kernel
theorem inX4_down_X4 : ∀ w ∈ wsX40, w ∈ wsX4_down := by decide +kernel
set_option maxHeartbeats 4000000 in
set_option maxRecDepth 100000 in
theorem kX4_down (l : Launch) (D : va_G) (cA : ClassId) (sz : Nat) (md : Nat) (veA : Nat) (lkA : Nat) (baA : Nat) (kiA : Nat) (fiA : Nat) (atA : Nat) (seA : Nat) (stA : Nat) (bsA : Nat) (lfA : Nat) (giA : Nat) (btA : Nat) (gaA : Nat) (waA : Nat) (cmA : Nat) (cgA : Nat) (dwA : Nat) (th : Nat) (mn : Nat) (mr : Nat) (bc : Nat) (xc : Nat) (xd : Nat) (an : Nat) (fn : Nat) (gga : Nat → Nat) (gwa : Nat → Nat) (xx : Int32) (hfn : fn ≤ 8) (hga : ∀ j, gga j < 32) (hwa : ∀ j, gwa j < 32) : zMi l yX4_down wsX4_down ({ frames := 0, cells := 0, slots := 0, locals := 0 }) D cA [.ref md, .int xx] sz [(md, .inr (6, [.int (nI th), .int (nI mn), .int (nI mr), .ref veA, .ref lkA, .ref baA, .ref kiA, .ref fiA, .ref atA, .ref seA, .ref stA, .ref bsA, .ref lfA, .ref giA, .ref btA, .int (nI bc), .int (nI xc), .int (nI xd), .int (nI an), .int (nI fn), .ref gaA, .ref waA, .ref cmA, .ref cgA, .ref dwA])), (gaA, .inl (cA, 8, .inl (aM gga))), (waA, .inl (cA, 8, .inl (aM gwa)))] [(md, .inr (6, [.int (nI 0), .int (nI mn), .int (nI mr), .ref veA, .ref lkA, .ref baA, .ref kiA, .ref fiA, .ref atA, .ref seA, .ref stA, .ref bsA, .ref lfA, .ref giA, .ref btA, .int (nI bc), .int (nI xc), .int (nI xd), .int (nI an), .int (nI fn), .ref gaA, .ref waA, .ref cmA, .ref cgA, .ref dwA])), (gaA, .inl (cA, 8, .inl (aM gga))), (waA, .inl (cA, 8, .inl (aM gwa)))] (mI (mdnF gga gwa fn xx)) := by
  refine Met.ofW (cc := cX4_down) (maxL := 4) (ret := (some .int)) (by decide) rfl ?_
  intro p e s m args below meth c s₁ B hml hv
  obtain ⟨rfl, hsz, hP, hK, hD0⟩ := hv
  have hx := B.exec
  have hb := B.bytes
  have hr := B.returns
  have hts := atoms_spec (ws := wsX4_down) B.pre
  have hown : s.vm.findClass RX4 = some m.cls := findClass_of_methodNamed B.named
  have hlocks := B.notSynchronized
  subst hsz
  have hD := hD0.self (sz := s.heap.size)
  generalize hAe : va_A [(md, .inr (6, [.int (nI th), .int (nI mn), .int (nI mr), .ref veA, .ref lkA, .ref baA, .ref kiA, .ref fiA, .ref atA, .ref seA, .ref stA, .ref bsA, .ref lfA, .ref giA, .ref btA, .int (nI bc), .int (nI xc), .int (nI xd), .int (nI an), .int (nI fn), .ref gaA, .ref waA, .ref cmA, .ref cgA, .ref dwA])), (gaA, .inl (cA, 8, .inl (aM gga))), (waA, .inl (cA, 8, .inl (aM gwa)))] s.heap.size = A at hD ⊢
  have hA : ∀ q : Nat, s.heap.size ≤ q → A q := fun q h => by rw [← hAe]; exact Or.inr h
  have hS : va_S A s.heap s.heap [] := va_S.rf
  have hP : va_P D vwCl [(md, .inr (6, [.int (nI th), .int (nI mn), .int (nI mr), .ref veA, .ref lkA, .ref baA, .ref kiA, .ref fiA, .ref atA, .ref seA, .ref stA, .ref bsA, .ref lfA, .ref giA, .ref btA, .int (nI bc), .int (nI xc), .int (nI xd), .int (nI an), .int (nI fn), .ref gaA, .ref waA, .ref cmA, .ref cgA, .ref dwA])), (gaA, .inl (cA, 8, .inl (aM gga))), (waA, .inl (cA, 8, .inl (aM gwa)))] s.heap := hP
  have hl := lv_entry ([.ref md, .int xx]) (n := 4) (Nat.le_of_ble_eq_true rfl)
  rw [lg_entry_eq]
  generalize (lg_sl ([.ref md, .int xx]) ++ List.replicate (4 - (lg_sl ([.ref md, .int xx])).length) Slot.unset).toArray = ls at hl ⊢
  have hl : lv_has ls 4 [(0, .ref md), (1, .int xx)] := hl
  refine lv_aload_n hx hb dX4_down_0 rfl (lv_at hl 0 rfl) ?_
  refine lv_iconst (v := nI 0) hx hb dX4_down_1 (by decide) ?_
  refine va_put (D := D) (ci := 6) (v := .int (nI 0)) (ty := .int) (C := RX4) (T := TX4) (N := 25) hx hb hts inX4_down_X4 tyX4 tyX4_ok nmX4 hown hK.1 hP hD hS 0 rfl rfl 0 (by decide) (hts _ lkX4_down_61) (fun _ h9 => h9) rfl (by decide +kernel) rfl rfl (Nat.le_of_ble_eq_true rfl) dX4_down_2 (fun H locs hP hD hS => ?_)
  have hP : va_P D vwCl [(md, .inr (6, [.int (nI 0), .int (nI mn), .int (nI mr), .ref veA, .ref lkA, .ref baA, .ref kiA, .ref fiA, .ref atA, .ref seA, .ref stA, .ref bsA, .ref lfA, .ref giA, .ref btA, .int (nI bc), .int (nI xc), .int (nI xd), .int (nI an), .int (nI fn), .ref gaA, .ref waA, .ref cmA, .ref cgA, .ref dwA])), (gaA, .inl (cA, 8, .inl (aM gga))), (waA, .inl (cA, 8, .inl (aM gwa)))] H := hP
  have hD : va_D A [(md, .inr (6, [.int (nI 0), .int (nI mn), .int (nI mr), .ref veA, .ref lkA, .ref baA, .ref kiA, .ref fiA, .ref atA, .ref seA, .ref stA, .ref bsA, .ref lfA, .ref giA, .ref btA, .int (nI bc), .int (nI xc), .int (nI xd), .int (nI an), .int (nI fn), .ref gaA, .ref waA, .ref cmA, .ref cgA, .ref dwA])), (gaA, .inl (cA, 8, .inl (aM gga))), (waA, .inl (cA, 8, .inl (aM gwa)))] := hD
  refine lv_iload_n hx hb dX4_down_5 rfl (lv_at hl 1 rfl) ?_
  refine lv_istore_n (lv' := [(2, .int xx), (0, .ref md), (1, .int xx)]) hx hb dX4_down_6 rfl hl (by decide) rfl (fun ls hl => ?_)
  refine lv_iconst (v := nI 0) hx hb dX4_down_7 (by decide) ?_
  refine lv_istore_n (lv' := [(3, .int (nI 0)), (2, .int xx), (0, .ref md), (1, .int xx)]) hx hb dX4_down_8 rfl hl (by decide) rfl (fun ls hl => ?_)
  suffices hgo : ∀ (k : Nat) (i : Nat) (r : Int32), (i + k = fn) → (mdnL gga gwa k i r = mdnL gga gwa fn 0 xx) → ∀ (H : Heap) (locs : List Loc) (ls : Array Slot), va_P D vwCl [(md, .inr (6, [.int (nI 0), .int (nI mn), .int (nI mr), .ref veA, .ref lkA, .ref baA, .ref kiA, .ref fiA, .ref atA, .ref seA, .ref stA, .ref bsA, .ref lfA, .ref giA, .ref btA, .int (nI bc), .int (nI xc), .int (nI xd), .int (nI an), .int (nI fn), .ref gaA, .ref waA, .ref cmA, .ref cgA, .ref dwA])), (gaA, .inl (cA, 8, .inl (aM gga))), (waA, .inl (cA, 8, .inl (aM gwa)))] H → va_D A [(md, .inr (6, [.int (nI 0), .int (nI mn), .int (nI mr), .ref veA, .ref lkA, .ref baA, .ref kiA, .ref fiA, .ref atA, .ref seA, .ref stA, .ref bsA, .ref lfA, .ref giA, .ref btA, .int (nI bc), .int (nI xc), .int (nI xd), .int (nI an), .int (nI fn), .ref gaA, .ref waA, .ref cmA, .ref cgA, .ref dwA])), (gaA, .inl (cA, 8, .inl (aM gga))), (waA, .inl (cA, 8, .inl (aM gwa)))] → va_S A s.heap H locs → lv_has ls 4 [(0, .ref md), (1, .int xx), (2, .int r), (3, .int (nI i))] → W p l e (headSpec wsX4_down ({ frames := 0, cells := 0, slots := 0, locals := 0 })).room s m ([.ref md, .int xx]).toArray below meth c H locs 0 0 (MQ below (va_Qi (fun r _ => r = (mI (mdnF gga gwa fn xx))) (zB D A [(md, .inr (6, [.int (nI 0), .int (nI mn), .int (nI mr), .ref veA, .ref lkA, .ref baA, .ref kiA, .ref fiA, .ref atA, .ref seA, .ref stA, .ref bsA, .ref lfA, .ref giA, .ref btA, .int (nI bc), .int (nI xc), .int (nI xd), .int (nI an), .int (nI fn), .ref gaA, .ref waA, .ref cmA, .ref cgA, .ref dwA])), (gaA, .inl (cA, 8, .inl (aM gga))), (waA, .inl (cA, 8, .inl (aM gwa)))]) A) ([.ref md, .int xx]).toArray s 0 0 A) (F0 m 9 ls []) from hgo fn 0 xx (by omega) rfl _ _ ls hP hD hS (lv_sub hl [2, 3, 1, 0] rfl)
  clear hP hD hS hl
  intro k
  induction k with
  | zero =>
    intro i r hi hE H locs ls hP hD hS hl
    refine lv_iload_n hx hb dX4_down_9 rfl (lv_at hl 3 rfl) ?_
    refine lv_aload_n hx hb dX4_down_10 rfl (lv_at hl 0 rfl) ?_
    refine va_get (D := D) (ci := 6) (v := .int (nI fn)) (C := RX4) (T := TX4) (N := 25) hx hb hts inX4_down_X4 hown hK.1 hP 0 rfl rfl 19 (by decide) (hts _ lkX4_down_111) (fun _ h9 => h9) rfl dX4_down_11 ?_
    refine nn_icmp_ge (tgt := 64) hx hb dX4_down_14 (by decide) (by omega) (by omega) (fun c_14 => ?_) (fun c_14 => ?_)
    · refine lv_iconst (v := -1) hx hb dX4_down_64 (by decide) ?_
      exact W.iret (v := (-1)) hx hb hr (fun t ht hW => ⟨⟨(-1), (), rfl, (by unfold mdnF; rw [← hE]; (repeat' split) <;> rfl), by rw [ht]; exact hP, hD⟩, hS.F ht⟩) hS.2.2 dX4_down_65
    · exfalso; omega
  | succ k ih =>
    intro i r hi hE H locs ls hP hD hS hl
    refine lv_iload_n hx hb dX4_down_9 rfl (lv_at hl 3 rfl) ?_
    refine lv_aload_n hx hb dX4_down_10 rfl (lv_at hl 0 rfl) ?_
    refine va_get (D := D) (ci := 6) (v := .int (nI fn)) (C := RX4) (T := TX4) (N := 25) hx hb hts inX4_down_X4 hown hK.1 hP 0 rfl rfl 19 (by decide) (hts _ lkX4_down_111) (fun _ h9 => h9) rfl dX4_down_11 ?_
    refine nn_icmp_ge (tgt := 64) hx hb dX4_down_14 (by decide) (by omega) (by omega) (fun c_14 => ?_) (fun c_14 => ?_)
    · exfalso; omega
    · refine lv_iload_n hx hb dX4_down_17 rfl (lv_at hl 1 rfl) ?_
      refine lv_if_lt (tgt := 64) hx hb dX4_down_18 (by decide) (fun c_18 => ?_) (fun c_18 => ?_)
      · refine lv_iconst (v := -1) hx hb dX4_down_64 (by decide) ?_
        exact W.iret (v := (-1)) hx hb hr (fun t ht hW => ⟨⟨(-1), (), rfl, (by unfold mdnF; rw [if_pos c_18]; rfl), by rw [ht]; exact hP, hD⟩, hS.F ht⟩) hS.2.2 dX4_down_65
      · refine lv_aload_n hx hb dX4_down_21 rfl (lv_at hl 0 rfl) ?_
        refine va_get (D := D) (ci := 6) (v := .ref gaA) (C := RX4) (T := TX4) (N := 25) hx hb hts inX4_down_X4 hown hK.1 hP 0 rfl rfl 20 (by decide) (hts _ lkX4_down_46) (fun _ h9 => h9) rfl dX4_down_22 ?_
        refine lv_iload_n hx hb dX4_down_25 rfl (lv_at hl 3 rfl) ?_
        refine mm_ald hx hb hK hP 1 rfl (by omega) (by decide) dX4_down_26 ?_
        refine lv_iconst (v := -1) hx hb dX4_down_27 (by decide) ?_
        refine zz_top (y := (mI 0)) mI_0.symm ?_
        refine mm_icmp_eq (tgt := 58) hx hb dX4_down_28 (by decide) (Nat.lt_trans (hga _) (by decide)) (by omega) (fun c_28 => ?_) (fun c_28 => ?_)
        · refine lv_iinc (v := (nI (i + 1))) (lv' := [(3, .int (nI (i + 1))), (0, .ref md), (1, .int xx), (2, .int r)]) hx hb dX4_down_58 hl (k := 3) rfl (nI_add _ _) (by decide) rfl (fun ls hl => ?_)
          refine lv_goto (tgt := 9) hx hb dX4_down_61 (by decide) ?_
          exact ih (i + 1) r (by omega) (by first | (rw [← hE, mdnL, if_pos c_28]; done) | (rw [← hE, mdnL, if_neg c_28, if_neg c_43]; done) | (rw [← hE, mdnL, if_neg c_28, if_pos c_43, if_neg c_50]; done)) _ _ _ hP hD hS (lv_sub hl [1, 2, 3, 0] rfl)
        · refine lv_aload_n hx hb dX4_down_31 rfl (lv_at hl 0 rfl) ?_
          refine va_get (D := D) (ci := 6) (v := .ref gaA) (C := RX4) (T := TX4) (N := 25) hx hb hts inX4_down_X4 hown hK.1 hP 0 rfl rfl 20 (by decide) (hts _ lkX4_down_46) (fun _ h9 => h9) rfl dX4_down_32 ?_
          refine lv_iload_n hx hb dX4_down_35 rfl (lv_at hl 3 rfl) ?_
          refine mm_ald hx hb hK hP 1 rfl (by omega) (by decide) dX4_down_36 ?_
          refine lv_aload_n hx hb dX4_down_37 rfl (lv_at hl 0 rfl) ?_
          refine va_get (D := D) (ci := 6) (v := .ref waA) (C := RX4) (T := TX4) (N := 25) hx hb hts inX4_down_X4 hown hK.1 hP 0 rfl rfl 21 (by decide) (hts _ lkX4_down_49) (fun _ h9 => h9) rfl dX4_down_38 ?_
          refine lv_iload_n hx hb dX4_down_41 rfl (lv_at hl 3 rfl) ?_
          refine mm_ald hx hb hK hP 2 rfl (by omega) (by decide) dX4_down_42 ?_
          refine mm_icmp_lt (tgt := 49) hx hb dX4_down_43 (by decide) (Nat.lt_trans (hga _) (by decide)) (Nat.lt_trans (hwa _) (by decide)) (fun c_43 => ?_) (fun c_43 => ?_)
          · refine lv_iload_n hx hb dX4_down_49 rfl (lv_at hl 2 rfl) ?_
            refine lv_if_ne (tgt := 55) hx hb dX4_down_50 (by decide) (fun c_50 => ?_) (fun c_50 => ?_)
            · refine lv_iinc (v := (r + (-1))) (lv' := [(2, .int (r + (-1))), (0, .ref md), (1, .int xx), (3, .int (nI i))]) hx hb dX4_down_55 hl (k := 2) rfl rfl (by decide) rfl (fun ls hl => ?_)
              refine lv_iinc (v := (nI (i + 1))) (lv' := [(3, .int (nI (i + 1))), (2, .int (r + (-1))), (0, .ref md), (1, .int xx)]) hx hb dX4_down_58 hl (k := 3) rfl (nI_add _ _) (by decide) rfl (fun ls hl => ?_)
              refine lv_goto (tgt := 9) hx hb dX4_down_61 (by decide) ?_
              exact ih (i + 1) (r + (-1)) (by omega) (by first | (rw [← hE, mdnL, if_pos c_28]; done) | (rw [← hE, mdnL, if_neg c_28, if_neg c_43]; done) | (rw [← hE, mdnL, if_neg c_28, if_pos c_43, if_neg c_50]; done)) _ _ _ hP hD hS (lv_sub hl [2, 3, 1, 0] rfl)
            · refine lv_iload_n hx hb dX4_down_53 rfl (lv_at hl 3 rfl) ?_
              exact W.iret (v := (nI i)) hx hb hr (fun t ht hW => ⟨⟨(nI i), (), rfl, (by unfold mdnF; rw [if_neg c_18, ← hE, mdnL, if_neg c_28, if_pos c_43, if_pos c_50]; exact nI_mI i), by rw [ht]; exact hP, hD⟩, hS.F ht⟩) hS.2.2 dX4_down_54
          · refine lv_goto (tgt := 58) hx hb dX4_down_46 (by decide) ?_
            refine lv_iinc (v := (nI (i + 1))) (lv' := [(3, .int (nI (i + 1))), (0, .ref md), (1, .int xx), (2, .int r)]) hx hb dX4_down_58 hl (k := 3) rfl (nI_add _ _) (by decide) rfl (fun ls hl => ?_)
            refine lv_goto (tgt := 9) hx hb dX4_down_61 (by decide) ?_
            exact ih (i + 1) r (by omega) (by first | (rw [← hE, mdnL, if_pos c_28]; done) | (rw [← hE, mdnL, if_neg c_28, if_neg c_43]; done) | (rw [← hE, mdnL, if_neg c_28, if_pos c_43, if_neg c_50]; done)) _ _ _ hP hD hS (lv_sub hl [1, 2, 3, 0] rfl)


def mlkL (gga : Nat → Nat) : Nat → Nat → Int32 → Nat
  | 0, i, _ => i
  | k + 1, i, r => if gga i = 0 then mlkL gga k (i + 1) (r - nI 0) else if r ≤ 0 then i else mlkL gga k (i + 1) (r - nI 1)
theorem mlkL_le (gga : Nat → Nat) : ∀ k i r, mlkL gga k i r ≤ i + k := by
  intro k
  induction k with
  | zero => intro i r; exact Nat.le_refl _
  | succ k ih =>
    intro i r
    rw [mlkL]
    have h1 := ih (i + 1) (r - nI 0)
    have h2 := ih (i + 1) (r - nI 1)
    repeat' split
    all_goals omega
def mlockF (xx pw : Int32) (fn : Nat) (gga gwa : Nat → Nat) : Int32 :=
  if xx < 0 then -1 else if mlkL gga fn 0 xx = fn then -1 else (if pw = 0 then nI (mlkL gga fn 0 xx) else if pw = 1 then mI (gga (mlkL gga fn 0 xx)) else if pw = 2 then dmod (dgN (nI (mlkL gga fn 0 xx)) (mI (gga (mlkL gga fn 0 xx)))) else if pw = 3 then (if gga (mlkL gga fn 0 xx) = gwa (mlkL gga fn 0 xx) then nI 0 else nI 1) else -2)

theorem lkX4_lock_111 : Cond.fieldLink RX4 111 "LeastChangeModel" "found" "I" ∈ wsX4_lock := by decide +kernel
theorem lkX4_lock_46 : Cond.fieldLink RX4 46 "LeastChangeModel" "gave" "[I" ∈ wsX4_lock := by decide +kernel
theorem inX4_lock_X4 : ∀ w ∈ wsX40, w ∈ wsX4_lock := by decide +kernel
set_option maxHeartbeats 4000000 in
set_option maxRecDepth 100000 in
theorem bX4_lock {p : Program} {l : Launch} {e : Env} {R : Room} {s : State} {m : MethodId} {args : Array Value} {below : List Frame} {meth : Method} {c : Code} {Q : State → Prop} {A : Nat → Prop} {H0 : Heap} {D : va_G} {cA : ClassId} (hx : p.tables.exec = Jvm.exec) (hb : c.code = cX4_lock) (hml : c.maxLocals = 5) (hown : s.vm.findClass RX4 = some m.cls) (hts : ∀ w ∈ wsX4_lock, w.before args s = true) (hK : zK D cA s) (hA : ∀ q, H0.size ≤ q → A q) (md : Nat) (veA : Nat) (lkA : Nat) (baA : Nat) (kiA : Nat) (fiA : Nat) (atA : Nat) (seA : Nat) (stA : Nat) (bsA : Nat) (lfA : Nat) (giA : Nat) (btA : Nat) (gaA : Nat) (waA : Nat) (cmA : Nat) (cgA : Nat) (dwA : Nat) (th : Nat) (mn : Nat) (mr : Nat) (bc : Nat) (xc : Nat) (xd : Nat) (an : Nat) (fn : Nat) (gga : Nat → Nat) (gwa : Nat → Nat) (xx : Int32) (pw : Int32) (hfn : fn ≤ 8) (hga : ∀ j, gga j < 32) : ∀ (k : Nat) (i : Nat) (r : Int32), (i + k = fn) → ∀ (H : Heap) (locs : List Loc) (ls : Array Slot), va_P D vwCl [(md, .inr (6, [.int (nI 0), .int (nI mn), .int (nI mr), .ref veA, .ref lkA, .ref baA, .ref kiA, .ref fiA, .ref atA, .ref seA, .ref stA, .ref bsA, .ref lfA, .ref giA, .ref btA, .int (nI bc), .int (nI xc), .int (nI xd), .int (nI an), .int (nI fn), .ref gaA, .ref waA, .ref cmA, .ref cgA, .ref dwA])), (gaA, .inl (cA, 8, .inl (aM gga))), (waA, .inl (cA, 8, .inl (aM gwa)))] H → va_D A [(md, .inr (6, [.int (nI 0), .int (nI mn), .int (nI mr), .ref veA, .ref lkA, .ref baA, .ref kiA, .ref fiA, .ref atA, .ref seA, .ref stA, .ref bsA, .ref lfA, .ref giA, .ref btA, .int (nI bc), .int (nI xc), .int (nI xd), .int (nI an), .int (nI fn), .ref gaA, .ref waA, .ref cmA, .ref cgA, .ref dwA])), (gaA, .inl (cA, 8, .inl (aM gga))), (waA, .inl (cA, 8, .inl (aM gwa)))] → va_S A H0 H locs → lv_has ls 5 [(0, .ref md), (1, .int xx), (2, .int pw), (3, .int r), (4, .int (nI i))] → (∀ (H : Heap) (locs : List Loc) (ls : Array Slot), va_P D vwCl [(md, .inr (6, [.int (nI 0), .int (nI mn), .int (nI mr), .ref veA, .ref lkA, .ref baA, .ref kiA, .ref fiA, .ref atA, .ref seA, .ref stA, .ref bsA, .ref lfA, .ref giA, .ref btA, .int (nI bc), .int (nI xc), .int (nI xd), .int (nI an), .int (nI fn), .ref gaA, .ref waA, .ref cmA, .ref cgA, .ref dwA])), (gaA, .inl (cA, 8, .inl (aM gga))), (waA, .inl (cA, 8, .inl (aM gwa)))] H → va_D A [(md, .inr (6, [.int (nI 0), .int (nI mn), .int (nI mr), .ref veA, .ref lkA, .ref baA, .ref kiA, .ref fiA, .ref atA, .ref seA, .ref stA, .ref bsA, .ref lfA, .ref giA, .ref btA, .int (nI bc), .int (nI xc), .int (nI xd), .int (nI an), .int (nI fn), .ref gaA, .ref waA, .ref cmA, .ref cgA, .ref dwA])), (gaA, .inl (cA, 8, .inl (aM gga))), (waA, .inl (cA, 8, .inl (aM gwa)))] → va_S A H0 H locs → lv_has ls 5 [(0, .ref md), (1, .int xx), (2, .int pw), (4, .int (nI (mlkL gga k i r)))] → W p l e R s m args below meth c H locs 0 0 Q (F0 m 59 ls [])) → W p l e R s m args below meth c H locs 0 0 Q (F0 m 10 ls []) := by
  intro k
  induction k with
  | zero =>
    intro i r hi H locs ls hP hD hS hl kk
    refine lv_iload hx hb dX4_lock_10 (lv_at hl 4 rfl) ?_
    refine lv_aload_n hx hb dX4_lock_12 rfl (lv_at hl 0 rfl) ?_
    refine va_get (D := D) (ci := 6) (v := .int (nI fn)) (C := RX4) (T := TX4) (N := 25) hx hb hts inX4_lock_X4 hown hK.1 hP 0 rfl rfl 19 (by decide) (hts _ lkX4_lock_111) (fun _ h9 => h9) rfl dX4_lock_13 ?_
    refine nn_icmp_ge (tgt := 59) hx hb dX4_lock_16 (by decide) (by omega) (by omega) (fun c_16 => ?_) (fun c_16 => ?_)
    · exact kk _ _ _ hP hD hS (lv_sub hl [0, 1, 2, 4] rfl)
    · exfalso; omega
  | succ k ih =>
    intro i r hi H locs ls hP hD hS hl kk
    refine lv_iload hx hb dX4_lock_10 (lv_at hl 4 rfl) ?_
    refine lv_aload_n hx hb dX4_lock_12 rfl (lv_at hl 0 rfl) ?_
    refine va_get (D := D) (ci := 6) (v := .int (nI fn)) (C := RX4) (T := TX4) (N := 25) hx hb hts inX4_lock_X4 hown hK.1 hP 0 rfl rfl 19 (by decide) (hts _ lkX4_lock_111) (fun _ h9 => h9) rfl dX4_lock_13 ?_
    refine nn_icmp_ge (tgt := 59) hx hb dX4_lock_16 (by decide) (by omega) (by omega) (fun c_16 => ?_) (fun c_16 => ?_)
    · exfalso; omega
    · refine lv_aload_n hx hb dX4_lock_19 rfl (lv_at hl 0 rfl) ?_
      refine va_get (D := D) (ci := 6) (v := .ref gaA) (C := RX4) (T := TX4) (N := 25) hx hb hts inX4_lock_X4 hown hK.1 hP 0 rfl rfl 20 (by decide) (hts _ lkX4_lock_46) (fun _ h9 => h9) rfl dX4_lock_20 ?_
      refine lv_iload hx hb dX4_lock_23 (lv_at hl 4 rfl) ?_
      refine mm_ald hx hb hK hP 1 rfl (by omega) (by decide) dX4_lock_25 ?_
      refine lv_iconst (v := -1) hx hb dX4_lock_26 (by decide) ?_
      refine zz_top (y := (mI 0)) mI_0.symm ?_
      refine mm_icmp_eq (tgt := 34) hx hb dX4_lock_27 (by decide) (Nat.lt_trans (hga _) (by decide)) (by omega) (fun c_27 => ?_) (fun c_27 => ?_)
      · refine lv_iload_n hx hb dX4_lock_34 rfl (lv_at hl 3 rfl) ?_
        refine lv_aload_n hx hb dX4_lock_35 rfl (lv_at hl 0 rfl) ?_
        refine va_get (D := D) (ci := 6) (v := .ref gaA) (C := RX4) (T := TX4) (N := 25) hx hb hts inX4_lock_X4 hown hK.1 hP 0 rfl rfl 20 (by decide) (hts _ lkX4_lock_46) (fun _ h9 => h9) rfl dX4_lock_36 ?_
        refine lv_iload hx hb dX4_lock_39 (lv_at hl 4 rfl) ?_
        refine mm_ald hx hb hK hP 1 rfl (by omega) (by decide) dX4_lock_41 ?_
        refine lv_iconst (v := -1) hx hb dX4_lock_42 (by decide) ?_
        refine zz_top (y := (mI 0)) mI_0.symm ?_
        refine mm_icmp_ne (tgt := 50) hx hb dX4_lock_43 (by decide) (Nat.lt_trans (hga _) (by decide)) (by omega) (fun c_43 => ?_) (fun c_43 => ?_)
        · exact absurd c_27 c_43
        · refine lv_iconst (v := nI 0) hx hb dX4_lock_46 (by decide) ?_
          refine lv_goto (tgt := 51) hx hb dX4_lock_47 (by decide) ?_
          refine lv_isub hx hb dX4_lock_51 ?_
          refine lv_istore_n (lv' := [(3, .int (r - (nI 0))), (0, .ref md), (1, .int xx), (2, .int pw), (4, .int (nI i))]) hx hb dX4_lock_52 rfl hl (by decide) rfl (fun ls hl => ?_)
          refine lv_iinc (v := (nI (i + 1))) (lv' := [(4, .int (nI (i + 1))), (3, .int (r - (nI 0))), (0, .ref md), (1, .int xx), (2, .int pw)]) hx hb dX4_lock_53 hl (k := 4) rfl (nI_add _ _) (by decide) rfl (fun ls hl => ?_)
          refine lv_goto (tgt := 10) hx hb dX4_lock_56 (by decide) ?_
          have eN : mlkL gga (k + 1) i r = mlkL gga k (i + 1) (r - (nI 0)) := by rw [mlkL]; first | (rw [if_pos c_27]; done) | (rw [if_neg c_27, if_neg c_31]; done)
          rw [eN] at kk
          exact ih (i + 1) (r - (nI 0)) (by omega) _ _ _ hP hD hS (lv_sub hl [2, 3, 4, 1, 0] rfl) kk
      · refine lv_iload_n hx hb dX4_lock_30 rfl (lv_at hl 3 rfl) ?_
        refine lv_if_le (tgt := 59) hx hb dX4_lock_31 (by decide) (fun c_31 => ?_) (fun c_31 => ?_)
        · have eN : mlkL gga (k + 1) i r = i := by rw [mlkL, if_neg c_27, if_pos c_31]
          rw [eN] at kk
          exact kk _ _ _ hP hD hS (lv_sub hl [0, 1, 2, 4] rfl)
        · refine lv_iload_n hx hb dX4_lock_34 rfl (lv_at hl 3 rfl) ?_
          refine lv_aload_n hx hb dX4_lock_35 rfl (lv_at hl 0 rfl) ?_
          refine va_get (D := D) (ci := 6) (v := .ref gaA) (C := RX4) (T := TX4) (N := 25) hx hb hts inX4_lock_X4 hown hK.1 hP 0 rfl rfl 20 (by decide) (hts _ lkX4_lock_46) (fun _ h9 => h9) rfl dX4_lock_36 ?_
          refine lv_iload hx hb dX4_lock_39 (lv_at hl 4 rfl) ?_
          refine mm_ald hx hb hK hP 1 rfl (by omega) (by decide) dX4_lock_41 ?_
          refine lv_iconst (v := -1) hx hb dX4_lock_42 (by decide) ?_
          refine zz_top (y := (mI 0)) mI_0.symm ?_
          refine mm_icmp_ne (tgt := 50) hx hb dX4_lock_43 (by decide) (Nat.lt_trans (hga _) (by decide)) (by omega) (fun c_43 => ?_) (fun c_43 => ?_)
          · refine lv_iconst (v := nI 1) hx hb dX4_lock_50 (by decide) ?_
            refine lv_isub hx hb dX4_lock_51 ?_
            refine lv_istore_n (lv' := [(3, .int (r - (nI 1))), (0, .ref md), (1, .int xx), (2, .int pw), (4, .int (nI i))]) hx hb dX4_lock_52 rfl hl (by decide) rfl (fun ls hl => ?_)
            refine lv_iinc (v := (nI (i + 1))) (lv' := [(4, .int (nI (i + 1))), (3, .int (r - (nI 1))), (0, .ref md), (1, .int xx), (2, .int pw)]) hx hb dX4_lock_53 hl (k := 4) rfl (nI_add _ _) (by decide) rfl (fun ls hl => ?_)
            refine lv_goto (tgt := 10) hx hb dX4_lock_56 (by decide) ?_
            have eN : mlkL gga (k + 1) i r = mlkL gga k (i + 1) (r - (nI 1)) := by rw [mlkL]; first | (rw [if_pos c_27]; done) | (rw [if_neg c_27, if_neg c_31]; done)
            rw [eN] at kk
            exact ih (i + 1) (r - (nI 1)) (by omega) _ _ _ hP hD hS (lv_sub hl [2, 3, 4, 1, 0] rfl) kk
          · exact absurd c_43 c_27

theorem clX4_lock_134 : Cond.constantLong RX4 134 (2147483647) ∈ wsX4_lock := by decide +kernel
theorem lkX4_lock_49 : Cond.fieldLink RX4 49 "LeastChangeModel" "was" "[I" ∈ wsX4_lock := by decide +kernel
theorem lkX4_lock_61 : Cond.fieldLink RX4 61 "LeastChangeModel" "thrown" "I" ∈ wsX4_lock := by decide +kernel
set_option maxHeartbeats 4000000 in
set_option maxRecDepth 100000 in
theorem kX4_lock (l : Launch) (D : va_G) (cA : ClassId) (sz : Nat) (md : Nat) (veA : Nat) (lkA : Nat) (baA : Nat) (kiA : Nat) (fiA : Nat) (atA : Nat) (seA : Nat) (stA : Nat) (bsA : Nat) (lfA : Nat) (giA : Nat) (btA : Nat) (gaA : Nat) (waA : Nat) (cmA : Nat) (cgA : Nat) (dwA : Nat) (th : Nat) (mn : Nat) (mr : Nat) (bc : Nat) (xc : Nat) (xd : Nat) (an : Nat) (fn : Nat) (gga : Nat → Nat) (gwa : Nat → Nat) (xx : Int32) (pw : Int32) (hfn : fn ≤ 8) (hga : ∀ j, gga j < 32) (hwa : ∀ j, gwa j < 32) : zMi l yX4_lock wsX4_lock ({ frames := 1, cells := 0, slots := 0, locals := 21 }) D cA [.ref md, .int xx, .int pw] sz [(md, .inr (6, [.int (nI th), .int (nI mn), .int (nI mr), .ref veA, .ref lkA, .ref baA, .ref kiA, .ref fiA, .ref atA, .ref seA, .ref stA, .ref bsA, .ref lfA, .ref giA, .ref btA, .int (nI bc), .int (nI xc), .int (nI xd), .int (nI an), .int (nI fn), .ref gaA, .ref waA, .ref cmA, .ref cgA, .ref dwA])), (gaA, .inl (cA, 8, .inl (aM gga))), (waA, .inl (cA, 8, .inl (aM gwa)))] [(md, .inr (6, [.int (nI 0), .int (nI mn), .int (nI mr), .ref veA, .ref lkA, .ref baA, .ref kiA, .ref fiA, .ref atA, .ref seA, .ref stA, .ref bsA, .ref lfA, .ref giA, .ref btA, .int (nI bc), .int (nI xc), .int (nI xd), .int (nI an), .int (nI fn), .ref gaA, .ref waA, .ref cmA, .ref cgA, .ref dwA])), (gaA, .inl (cA, 8, .inl (aM gga))), (waA, .inl (cA, 8, .inl (aM gwa)))] (mlockF xx pw fn gga gwa) := by
  refine Met.ofW (cc := cX4_lock) (maxL := 5) (ret := (some .int)) (by decide) rfl ?_
  intro p e s m args below meth c s₁ B hml hv
  obtain ⟨rfl, hsz, hP, hK, hD0⟩ := hv
  have hx := B.exec
  have hb := B.bytes
  have hr := B.returns
  have hts := atoms_spec (ws := wsX4_lock) B.pre
  have hown : s.vm.findClass RX4 = some m.cls := findClass_of_methodNamed B.named
  have hlocks := B.notSynchronized
  subst hsz
  have hD := hD0.self (sz := s.heap.size)
  generalize hAe : va_A [(md, .inr (6, [.int (nI th), .int (nI mn), .int (nI mr), .ref veA, .ref lkA, .ref baA, .ref kiA, .ref fiA, .ref atA, .ref seA, .ref stA, .ref bsA, .ref lfA, .ref giA, .ref btA, .int (nI bc), .int (nI xc), .int (nI xd), .int (nI an), .int (nI fn), .ref gaA, .ref waA, .ref cmA, .ref cgA, .ref dwA])), (gaA, .inl (cA, 8, .inl (aM gga))), (waA, .inl (cA, 8, .inl (aM gwa)))] s.heap.size = A at hD ⊢
  have hA : ∀ q : Nat, s.heap.size ≤ q → A q := fun q h => by rw [← hAe]; exact Or.inr h
  have hS : va_S A s.heap s.heap [] := va_S.rf
  have hP : va_P D vwCl [(md, .inr (6, [.int (nI th), .int (nI mn), .int (nI mr), .ref veA, .ref lkA, .ref baA, .ref kiA, .ref fiA, .ref atA, .ref seA, .ref stA, .ref bsA, .ref lfA, .ref giA, .ref btA, .int (nI bc), .int (nI xc), .int (nI xd), .int (nI an), .int (nI fn), .ref gaA, .ref waA, .ref cmA, .ref cgA, .ref dwA])), (gaA, .inl (cA, 8, .inl (aM gga))), (waA, .inl (cA, 8, .inl (aM gwa)))] s.heap := hP
  have hl := lv_entry ([.ref md, .int xx, .int pw]) (n := 5) (Nat.le_of_ble_eq_true rfl)
  rw [lg_entry_eq]
  generalize (lg_sl ([.ref md, .int xx, .int pw]) ++ List.replicate (5 - (lg_sl ([.ref md, .int xx, .int pw])).length) Slot.unset).toArray = ls at hl ⊢
  have hl : lv_has ls 5 [(0, .ref md), (1, .int xx), (2, .int pw)] := hl
  refine lv_aload_n hx hb dX4_lock_0 rfl (lv_at hl 0 rfl) ?_
  refine lv_iconst (v := nI 0) hx hb dX4_lock_1 (by decide) ?_
  refine va_put (D := D) (ci := 6) (v := .int (nI 0)) (ty := .int) (C := RX4) (T := TX4) (N := 25) hx hb hts inX4_lock_X4 tyX4 tyX4_ok nmX4 hown hK.1 hP hD hS 0 rfl rfl 0 (by decide) (hts _ lkX4_lock_61) (fun _ h9 => h9) rfl (by decide +kernel) rfl rfl (Nat.le_of_ble_eq_true rfl) dX4_lock_2 (fun H locs hP hD hS => ?_)
  have hP : va_P D vwCl [(md, .inr (6, [.int (nI 0), .int (nI mn), .int (nI mr), .ref veA, .ref lkA, .ref baA, .ref kiA, .ref fiA, .ref atA, .ref seA, .ref stA, .ref bsA, .ref lfA, .ref giA, .ref btA, .int (nI bc), .int (nI xc), .int (nI xd), .int (nI an), .int (nI fn), .ref gaA, .ref waA, .ref cmA, .ref cgA, .ref dwA])), (gaA, .inl (cA, 8, .inl (aM gga))), (waA, .inl (cA, 8, .inl (aM gwa)))] H := hP
  have hD : va_D A [(md, .inr (6, [.int (nI 0), .int (nI mn), .int (nI mr), .ref veA, .ref lkA, .ref baA, .ref kiA, .ref fiA, .ref atA, .ref seA, .ref stA, .ref bsA, .ref lfA, .ref giA, .ref btA, .int (nI bc), .int (nI xc), .int (nI xd), .int (nI an), .int (nI fn), .ref gaA, .ref waA, .ref cmA, .ref cgA, .ref dwA])), (gaA, .inl (cA, 8, .inl (aM gga))), (waA, .inl (cA, 8, .inl (aM gwa)))] := hD
  refine lv_iload_n hx hb dX4_lock_5 rfl (lv_at hl 1 rfl) ?_
  refine lv_istore_n (lv' := [(3, .int xx), (0, .ref md), (1, .int xx), (2, .int pw)]) hx hb dX4_lock_6 rfl hl (by decide) rfl (fun ls hl => ?_)
  refine lv_iconst (v := nI 0) hx hb dX4_lock_7 (by decide) ?_
  refine lv_istore (lv' := [(4, .int (nI 0)), (3, .int xx), (0, .ref md), (1, .int xx), (2, .int pw)]) hx hb dX4_lock_8 hl (by decide) rfl (fun ls hl => ?_)
  refine bX4_lock hx hb hml hown hts hK hA md veA lkA baA kiA fiA atA seA stA bsA lfA giA btA gaA waA cmA cgA dwA th mn mr bc xc xd an fn gga gwa xx pw hfn hga  fn 0 xx (by omega) _ _ ls hP hD hS (lv_sub hl [2, 3, 4, 1, 0] rfl) (fun H locs ls hP hD hS hl => ?_)
  refine lv_iload_n hx hb dX4_lock_59 rfl (lv_at hl 1 rfl) ?_
  refine lv_if_lt (tgt := 72) hx hb dX4_lock_60 (by decide) (fun c_60 => ?_) (fun c_60 => ?_)
  · refine lv_iconst (v := -1) hx hb dX4_lock_72 (by decide) ?_
    exact W.iret (v := (-1)) hx hb hr (fun t ht hW => ⟨⟨(-1), (), rfl, (by unfold mlockF; (repeat' (first | with_reducible rfl | contradiction | split)) <;> first | rfl | contradiction), by rw [ht]; exact hP, hD⟩, hS.F ht⟩) hS.2.2 dX4_lock_73
  · refine lv_iload hx hb dX4_lock_63 (lv_at hl 3 rfl) ?_
    refine lv_aload_n hx hb dX4_lock_65 rfl (lv_at hl 0 rfl) ?_
    refine va_get (D := D) (ci := 6) (v := .int (nI fn)) (C := RX4) (T := TX4) (N := 25) hx hb hts inX4_lock_X4 hown hK.1 hP 0 rfl rfl 19 (by decide) (hts _ lkX4_lock_111) (fun _ h9 => h9) rfl dX4_lock_66 ?_
    refine nn_icmp_ne (tgt := 74) hx hb dX4_lock_69 (by decide) (by have := mlkL_le gga fn 0 xx; omega) (by omega) (fun c_69 => ?_) (fun c_69 => ?_)
    · have hl8 : mlkL gga fn 0 xx ≤ 0 + fn := mlkL_le gga fn 0 xx
      refine lv_iload_n hx hb dX4_lock_74 rfl (lv_at hl 2 rfl) ?_
      by_cases s0 : pw = 0
      · refine zz_top (y := 0) s0 ?_
        refine lv_tableIn (off := 29) (tgt := 104) hx hb dX4_lock_75 (by decide) (by decide) (by decide) (by decide) ?_
        refine lv_iload hx hb dX4_lock_104 (lv_at hl 3 rfl) ?_
        exact W.iret (v := (nI (mlkL gga fn 0 xx))) hx hb hr (fun t ht hW => ⟨⟨(nI (mlkL gga fn 0 xx)), (), rfl, (by unfold mlockF; (repeat' (first | with_reducible rfl | contradiction | split)) <;> first | rfl | contradiction), by rw [ht]; exact hP, hD⟩, hS.F ht⟩) hS.2.2 dX4_lock_106
      · skip
        by_cases s1 : pw = 1
        · refine zz_top (y := 1) s1 ?_
          refine lv_tableIn (off := 32) (tgt := 107) hx hb dX4_lock_75 (by decide) (by decide) (by decide) (by decide) ?_
          refine lv_aload_n hx hb dX4_lock_107 rfl (lv_at hl 0 rfl) ?_
          refine va_get (D := D) (ci := 6) (v := .ref gaA) (C := RX4) (T := TX4) (N := 25) hx hb hts inX4_lock_X4 hown hK.1 hP 0 rfl rfl 20 (by decide) (hts _ lkX4_lock_46) (fun _ h9 => h9) rfl dX4_lock_108 ?_
          refine lv_iload hx hb dX4_lock_111 (lv_at hl 3 rfl) ?_
          refine mm_ald hx hb hK hP 1 rfl (by omega) (by decide) dX4_lock_113 ?_
          exact W.iret (v := (mI (gga (mlkL gga fn 0 xx)))) hx hb hr (fun t ht hW => ⟨⟨(mI (gga (mlkL gga fn 0 xx))), (), rfl, (by unfold mlockF; (repeat' (first | with_reducible rfl | contradiction | split)) <;> first | rfl | contradiction), by rw [ht]; exact hP, hD⟩, hS.F ht⟩) hS.2.2 dX4_lock_114
        · skip
          by_cases s2 : pw = 2
          · refine zz_top (y := 2) s2 ?_
            refine lv_tableIn (off := 40) (tgt := 115) hx hb dX4_lock_75 (by decide) (by decide) (by decide) (by decide) ?_
            refine lv_iload hx hb dX4_lock_115 (lv_at hl 3 rfl) ?_
            refine lv_aload_n hx hb dX4_lock_117 rfl (lv_at hl 0 rfl) ?_
            refine va_get (D := D) (ci := 6) (v := .ref gaA) (C := RX4) (T := TX4) (N := 25) hx hb hts inX4_lock_X4 hown hK.1 hP 0 rfl rfl 20 (by decide) (hts _ lkX4_lock_46) (fun _ h9 => h9) rfl dX4_lock_118 ?_
            refine lv_iload hx hb dX4_lock_121 (lv_at hl 3 rfl) ?_
            refine mm_ald hx hb hK hP 1 rfl (by omega) (by decide) dX4_lock_123 ?_
            refine zz_callL (av := []) (wc := []) (wr := [(md, .inr (6, [.int (nI 0), .int (nI mn), .int (nI mr), .ref veA, .ref lkA, .ref baA, .ref kiA, .ref fiA, .ref atA, .ref seA, .ref stA, .ref bsA, .ref lfA, .ref giA, .ref btA, .int (nI bc), .int (nI xc), .int (nI xd), .int (nI an), .int (nI fn), .ref gaA, .ref waA, .ref cmA, .ref cgA, .ref dwA])), (gaA, .inl (cA, 8, .inl (aM gga))), (waA, .inl (cA, 8, .inl (aM gwa)))]) hS hA hP hD [] [0, 1, 2] rfl rfl (by decide) (by decide) (va_runS (As := [.int (nI (mlkL gga fn 0 xx)), .int (mI (gga (mlkL gga fn 0 xx)))]) (rest := []) ⟨hx, hb, hml, hown, hts⟩ (kX4_digestOf l D cA H.size (nI (mlkL gga fn 0 xx)) (mI (gga (mlkL gga fn 0 xx))) ) (va_cwS 2 hts gX4_lock_X4_digestOf rfl rfl rfl (by decide +kernel) ⟨Nat.le_of_ble_eq_true rfl, Nat.le_of_ble_eq_true rfl⟩) (zPreS (av := [.int (nI (mlkL gga fn 0 xx)), .int (mI (gga (mlkL gga fn 0 xx)))]) (wc := []) hK hP hD [] rfl (by decide) rfl) rfl rfl hl.1 rfl (lv_room (Nat.le_of_ble_eq_true rfl)) dX4_lock_124 ⟨Nat.zero_le _, Nat.zero_le _⟩) (fun H locs hP hD hS => ?_)
            have hP : va_P D vwCl [(md, .inr (6, [.int (nI 0), .int (nI mn), .int (nI mr), .ref veA, .ref lkA, .ref baA, .ref kiA, .ref fiA, .ref atA, .ref seA, .ref stA, .ref bsA, .ref lfA, .ref giA, .ref btA, .int (nI bc), .int (nI xc), .int (nI xd), .int (nI an), .int (nI fn), .ref gaA, .ref waA, .ref cmA, .ref cgA, .ref dwA])), (gaA, .inl (cA, 8, .inl (aM gga))), (waA, .inl (cA, 8, .inl (aM gwa)))] H := hP
            have hD : va_D A [(md, .inr (6, [.int (nI 0), .int (nI mn), .int (nI mr), .ref veA, .ref lkA, .ref baA, .ref kiA, .ref fiA, .ref atA, .ref seA, .ref stA, .ref bsA, .ref lfA, .ref giA, .ref btA, .int (nI bc), .int (nI xc), .int (nI xd), .int (nI an), .int (nI fn), .ref gaA, .ref waA, .ref cmA, .ref cgA, .ref dwA])), (gaA, .inl (cA, 8, .inl (aM gga))), (waA, .inl (cA, 8, .inl (aM gwa)))] := hD
            refine lv_ldc2 (v := 2147483647) hx hb hown (hts _ clX4_lock_134) dX4_lock_127 ?_
            refine lv_lrem hx hb dX4_lock_130 (by decide) ?_
            refine lv_l2i hx hb dX4_lock_131 rfl ?_
            exact W.iret (v := (((dgN (nI (mlkL gga fn 0 xx)) (mI (gga (mlkL gga fn 0 xx)))) - (dgN (nI (mlkL gga fn 0 xx)) (mI (gga (mlkL gga fn 0 xx)))) / (2147483647 : Int64) * (2147483647 : Int64)).toInt32)) hx hb hr (fun t ht hW => ⟨⟨(((dgN (nI (mlkL gga fn 0 xx)) (mI (gga (mlkL gga fn 0 xx)))) - (dgN (nI (mlkL gga fn 0 xx)) (mI (gga (mlkL gga fn 0 xx)))) / (2147483647 : Int64) * (2147483647 : Int64)).toInt32), (), rfl, (by unfold mlockF; (repeat' (first | with_reducible rfl | contradiction | split)) <;> first | rfl | contradiction), by rw [ht]; exact hP, hD⟩, hS.F ht⟩) hS.2.2 dX4_lock_132
          · skip
            by_cases s3 : pw = 3
            · refine zz_top (y := 3) s3 ?_
              refine lv_tableIn (off := 58) (tgt := 133) hx hb dX4_lock_75 (by decide) (by decide) (by decide) (by decide) ?_
              refine lv_aload_n hx hb dX4_lock_133 rfl (lv_at hl 0 rfl) ?_
              refine va_get (D := D) (ci := 6) (v := .ref gaA) (C := RX4) (T := TX4) (N := 25) hx hb hts inX4_lock_X4 hown hK.1 hP 0 rfl rfl 20 (by decide) (hts _ lkX4_lock_46) (fun _ h9 => h9) rfl dX4_lock_134 ?_
              refine lv_iload hx hb dX4_lock_137 (lv_at hl 3 rfl) ?_
              refine mm_ald hx hb hK hP 1 rfl (by omega) (by decide) dX4_lock_139 ?_
              refine lv_aload_n hx hb dX4_lock_140 rfl (lv_at hl 0 rfl) ?_
              refine va_get (D := D) (ci := 6) (v := .ref waA) (C := RX4) (T := TX4) (N := 25) hx hb hts inX4_lock_X4 hown hK.1 hP 0 rfl rfl 21 (by decide) (hts _ lkX4_lock_49) (fun _ h9 => h9) rfl dX4_lock_141 ?_
              refine lv_iload hx hb dX4_lock_144 (lv_at hl 3 rfl) ?_
              refine mm_ald hx hb hK hP 2 rfl (by omega) (by decide) dX4_lock_146 ?_
              refine mm_icmp_ne (tgt := 154) hx hb dX4_lock_147 (by decide) (Nat.lt_trans (hga _) (by decide)) (Nat.lt_trans (hwa _) (by decide)) (fun c_147 => ?_) (fun c_147 => ?_)
              · refine lv_iconst (v := nI 1) hx hb dX4_lock_154 (by decide) ?_
                exact W.iret (v := (nI 1)) hx hb hr (fun t ht hW => ⟨⟨(nI 1), (), rfl, (by unfold mlockF; (repeat' (first | with_reducible rfl | contradiction | split)) <;> first | rfl | contradiction), by rw [ht]; exact hP, hD⟩, hS.F ht⟩) hS.2.2 dX4_lock_155
              · refine lv_iconst (v := nI 0) hx hb dX4_lock_150 (by decide) ?_
                refine lv_goto (tgt := 155) hx hb dX4_lock_151 (by decide) ?_
                exact W.iret (v := (nI 0)) hx hb hr (fun t ht hW => ⟨⟨(nI 0), (), rfl, (by unfold mlockF; (repeat' (first | with_reducible rfl | contradiction | split)) <;> first | rfl | contradiction), by rw [ht]; exact hP, hD⟩, hS.F ht⟩) hS.2.2 dX4_lock_155
            · refine lv_tableOut (tgt := 156) hx hb dX4_lock_75 (sw4 s0 s1 s2 s3) (by decide) ?_
              refine lv_bipush (v := -2) hx hb dX4_lock_156 (by decide) ?_
              exact W.iret (v := (-2)) hx hb hr (fun t ht hW => ⟨⟨(-2), (), rfl, (by unfold mlockF; (repeat' (first | with_reducible rfl | contradiction | split)) <;> first | rfl | contradiction), by rw [ht]; exact hP, hD⟩, hS.F ht⟩) hS.2.2 dX4_lock_158
    · refine lv_iconst (v := -1) hx hb dX4_lock_72 (by decide) ?_
      exact W.iret (v := (-1)) hx hb hr (fun t ht hW => ⟨⟨(-1), (), rfl, (by unfold mlockF; (repeat' (first | with_reducible rfl | contradiction | split)) <;> first | rfl | contradiction), by rw [ht]; exact hP, hD⟩, hS.F ht⟩) hS.2.2 dX4_lock_73


def mdigF (xx : Int32) (dd : Int64) (mn : Nat) (gve glk gba : Nat → Nat) : Int64 × (Nat → Nat) :=
  if isN xx mn then (if glk (toN xx) = 0 then (-3, gba) else (if glk (toN xx) < gve (toN xx) + 1 then (dgN (nI (toN xx)) (mI (glk (toN xx))), if lg_cmp dd (dgN (nI (toN xx)) (mI (glk (toN xx)))) = 0 then va_up gba (toN xx) ((gba (toN xx)) &&& ((1 <<< (glk (toN xx) - 1)) ^^^ 4294967295)) else va_up gba (toN xx) ((gba (toN xx)) ||| (1 <<< (glk (toN xx) - 1)))) else (-3, gba))) else (-1, gba)

theorem clX4_digest_136 : Cond.constantLong RX4 136 (-1) ∈ wsX4_digest := by decide +kernel
theorem clX4_digest_138 : Cond.constantLong RX4 138 (-3) ∈ wsX4_digest := by decide +kernel
theorem lkX4_digest_13 : Cond.fieldLink RX4 13 "LeastChangeModel" "locked" "[I" ∈ wsX4_digest := by decide +kernel
theorem lkX4_digest_16 : Cond.fieldLink RX4 16 "LeastChangeModel" "barred" "[I" ∈ wsX4_digest := by decide +kernel
theorem lkX4_digest_61 : Cond.fieldLink RX4 61 "LeastChangeModel" "thrown" "I" ∈ wsX4_digest := by decide +kernel
theorem lkX4_digest_7 : Cond.fieldLink RX4 7 "LeastChangeModel" "versions" "[I" ∈ wsX4_digest := by decide +kernel
theorem inX4_digest_X4 : ∀ w ∈ wsX40, w ∈ wsX4_digest := by decide +kernel
set_option maxHeartbeats 4000000 in
set_option maxRecDepth 100000 in
theorem kX4_digest (l : Launch) (D : va_G) (cA : ClassId) (sz : Nat) (md : Nat) (veA : Nat) (lkA : Nat) (baA : Nat) (kiA : Nat) (fiA : Nat) (atA : Nat) (seA : Nat) (stA : Nat) (bsA : Nat) (lfA : Nat) (giA : Nat) (btA : Nat) (gaA : Nat) (waA : Nat) (cmA : Nat) (cgA : Nat) (dwA : Nat) (th : Nat) (mn : Nat) (mr : Nat) (bc : Nat) (xc : Nat) (xd : Nat) (an : Nat) (fn : Nat) (gve : Nat → Nat) (glk : Nat → Nat) (gba : Nat → Nat) (xx : Int32) (dd : Int64) (hmn : mn ≤ 8) (hve : ∀ j, gve j ≤ 6) (hlk : ∀ j, glk j < 32) : zMl l yX4_digest wsX4_digest ({ frames := 1, cells := 0, slots := 0, locals := 21 }) D cA [.ref md, .int xx, .long dd] sz [(md, .inr (6, [.int (nI th), .int (nI mn), .int (nI mr), .ref veA, .ref lkA, .ref baA, .ref kiA, .ref fiA, .ref atA, .ref seA, .ref stA, .ref bsA, .ref lfA, .ref giA, .ref btA, .int (nI bc), .int (nI xc), .int (nI xd), .int (nI an), .int (nI fn), .ref gaA, .ref waA, .ref cmA, .ref cgA, .ref dwA])), (veA, .inl (cA, 8, .inl (aN gve))), (lkA, .inl (cA, 8, .inl (aM glk))), (baA, .inl (cA, 8, .inl (aN gba)))] [(md, .inr (6, [.int (nI 0), .int (nI mn), .int (nI mr), .ref veA, .ref lkA, .ref baA, .ref kiA, .ref fiA, .ref atA, .ref seA, .ref stA, .ref bsA, .ref lfA, .ref giA, .ref btA, .int (nI bc), .int (nI xc), .int (nI xd), .int (nI an), .int (nI fn), .ref gaA, .ref waA, .ref cmA, .ref cgA, .ref dwA])), (veA, .inl (cA, 8, .inl (aN gve))), (lkA, .inl (cA, 8, .inl (aM glk))), (baA, .inl (cA, 8, .inl (aN ((mdigF xx dd mn gve glk gba).2))))] ((mdigF xx dd mn gve glk gba).1) := by
  refine Met.ofW (cc := cX4_digest) (maxL := 6) (ret := (some .long)) (by decide) rfl ?_
  intro p e s m args below meth c s₁ B hml hv
  obtain ⟨rfl, hsz, hP, hK, hD0⟩ := hv
  have hx := B.exec
  have hb := B.bytes
  have hr := B.returns
  have hts := atoms_spec (ws := wsX4_digest) B.pre
  have hown : s.vm.findClass RX4 = some m.cls := findClass_of_methodNamed B.named
  have hlocks := B.notSynchronized
  subst hsz
  have hD := hD0.self (sz := s.heap.size)
  generalize hAe : va_A [(md, .inr (6, [.int (nI th), .int (nI mn), .int (nI mr), .ref veA, .ref lkA, .ref baA, .ref kiA, .ref fiA, .ref atA, .ref seA, .ref stA, .ref bsA, .ref lfA, .ref giA, .ref btA, .int (nI bc), .int (nI xc), .int (nI xd), .int (nI an), .int (nI fn), .ref gaA, .ref waA, .ref cmA, .ref cgA, .ref dwA])), (veA, .inl (cA, 8, .inl (aN gve))), (lkA, .inl (cA, 8, .inl (aM glk))), (baA, .inl (cA, 8, .inl (aN gba)))] s.heap.size = A at hD ⊢
  have hA : ∀ q : Nat, s.heap.size ≤ q → A q := fun q h => by rw [← hAe]; exact Or.inr h
  have hS : va_S A s.heap s.heap [] := va_S.rf
  have hP : va_P D vwCl [(md, .inr (6, [.int (nI th), .int (nI mn), .int (nI mr), .ref veA, .ref lkA, .ref baA, .ref kiA, .ref fiA, .ref atA, .ref seA, .ref stA, .ref bsA, .ref lfA, .ref giA, .ref btA, .int (nI bc), .int (nI xc), .int (nI xd), .int (nI an), .int (nI fn), .ref gaA, .ref waA, .ref cmA, .ref cgA, .ref dwA])), (veA, .inl (cA, 8, .inl (aN gve))), (lkA, .inl (cA, 8, .inl (aM glk))), (baA, .inl (cA, 8, .inl (aN gba)))] s.heap := hP
  have hl := lv_entry ([.ref md, .int xx, .long dd]) (n := 6) (Nat.le_of_ble_eq_true rfl)
  rw [lg_entry_eq]
  generalize (lg_sl ([.ref md, .int xx, .long dd]) ++ List.replicate (6 - (lg_sl ([.ref md, .int xx, .long dd])).length) Slot.unset).toArray = ls at hl ⊢
  have hl : lv_has ls 6 [(0, .ref md), (1, .int xx), (2, .long dd)] := hl
  refine lv_aload_n hx hb dX4_digest_0 rfl (lv_at hl 0 rfl) ?_
  refine lv_iconst (v := nI 0) hx hb dX4_digest_1 (by decide) ?_
  refine va_put (D := D) (ci := 6) (v := .int (nI 0)) (ty := .int) (C := RX4) (T := TX4) (N := 25) hx hb hts inX4_digest_X4 tyX4 tyX4_ok nmX4 hown hK.1 hP hD hS 0 rfl rfl 0 (by decide) (hts _ lkX4_digest_61) (fun _ h9 => h9) rfl (by decide +kernel) rfl rfl (Nat.le_of_ble_eq_true rfl) dX4_digest_2 (fun H locs hP hD hS => ?_)
  have hP : va_P D vwCl [(md, .inr (6, [.int (nI 0), .int (nI mn), .int (nI mr), .ref veA, .ref lkA, .ref baA, .ref kiA, .ref fiA, .ref atA, .ref seA, .ref stA, .ref bsA, .ref lfA, .ref giA, .ref btA, .int (nI bc), .int (nI xc), .int (nI xd), .int (nI an), .int (nI fn), .ref gaA, .ref waA, .ref cmA, .ref cgA, .ref dwA])), (veA, .inl (cA, 8, .inl (aN gve))), (lkA, .inl (cA, 8, .inl (aM glk))), (baA, .inl (cA, 8, .inl (aN gba)))] H := hP
  have hD : va_D A [(md, .inr (6, [.int (nI 0), .int (nI mn), .int (nI mr), .ref veA, .ref lkA, .ref baA, .ref kiA, .ref fiA, .ref atA, .ref seA, .ref stA, .ref bsA, .ref lfA, .ref giA, .ref btA, .int (nI bc), .int (nI xc), .int (nI xd), .int (nI an), .int (nI fn), .ref gaA, .ref waA, .ref cmA, .ref cgA, .ref dwA])), (veA, .inl (cA, 8, .inl (aN gve))), (lkA, .inl (cA, 8, .inl (aM glk))), (baA, .inl (cA, 8, .inl (aN gba)))] := hD
  refine lv_aload_n hx hb dX4_digest_5 rfl (lv_at hl 0 rfl) ?_
  refine lv_iload_n hx hb dX4_digest_6 rfl (lv_at hl 1 rfl) ?_
  refine zz_callI (av := []) (wc := [(md, .inr (6, [.int (nI 0), .int (nI mn), .int (nI mr), .ref veA, .ref lkA, .ref baA, .ref kiA, .ref fiA, .ref atA, .ref seA, .ref stA, .ref bsA, .ref lfA, .ref giA, .ref btA, .int (nI bc), .int (nI xc), .int (nI xd), .int (nI an), .int (nI fn), .ref gaA, .ref waA, .ref cmA, .ref cgA, .ref dwA]))]) (wr := [(veA, .inl (cA, 8, .inl (aN gve))), (lkA, .inl (cA, 8, .inl (aM glk))), (baA, .inl (cA, 8, .inl (aN gba)))]) hS hA hP hD [0] [1, 2, 3] rfl rfl (by decide) (by decide) (va_runV (As := [.int xx]) (rest := []) ⟨hx, hb, hml, hown, hts⟩ (kX4_isName l D cA H.size md veA lkA baA kiA fiA atA seA stA bsA lfA giA btA gaA waA cmA cgA dwA 0 mn mr bc xc xd an fn xx (by omega)) (cwV 1 hts gX4_digest_X4_isName rfl rfl rfl (by decide +kernel) ⟨Nat.le_of_ble_eq_true rfl, Nat.le_of_ble_eq_true rfl⟩) ⟨(zPreS (av := [.ref md, .int xx]) (wc := [(md, .inr (6, [.int (nI 0), .int (nI mn), .int (nI mr), .ref veA, .ref lkA, .ref baA, .ref kiA, .ref fiA, .ref atA, .ref seA, .ref stA, .ref bsA, .ref lfA, .ref giA, .ref btA, .int (nI bc), .int (nI xc), .int (nI xd), .int (nI an), .int (nI fn), .ref gaA, .ref waA, .ref cmA, .ref cgA, .ref dwA]))]) hK hP hD [0] rfl (by decide) rfl).1, (va_recv hK.1 hP (ci := 6) (q0 := 0) rfl rfl), (zPreS (av := [.ref md, .int xx]) (wc := [(md, .inr (6, [.int (nI 0), .int (nI mn), .int (nI mr), .ref veA, .ref lkA, .ref baA, .ref kiA, .ref fiA, .ref atA, .ref seA, .ref stA, .ref bsA, .ref lfA, .ref giA, .ref btA, .int (nI bc), .int (nI xc), .int (nI xd), .int (nI an), .int (nI fn), .ref gaA, .ref waA, .ref cmA, .ref cgA, .ref dwA]))]) hK hP hD [0] rfl (by decide) rfl).2⟩ rfl rfl hl.1 rfl (lv_room (Nat.le_of_ble_eq_true rfl)) dX4_digest_7 ⟨Nat.zero_le _, Nat.zero_le _⟩) (fun H locs hP hD hS => ?_)
  have hP : va_P D vwCl [(veA, .inl (cA, 8, .inl (aN gve))), (lkA, .inl (cA, 8, .inl (aM glk))), (baA, .inl (cA, 8, .inl (aN gba))), (md, .inr (6, [.int (nI 0), .int (nI mn), .int (nI mr), .ref veA, .ref lkA, .ref baA, .ref kiA, .ref fiA, .ref atA, .ref seA, .ref stA, .ref bsA, .ref lfA, .ref giA, .ref btA, .int (nI bc), .int (nI xc), .int (nI xd), .int (nI an), .int (nI fn), .ref gaA, .ref waA, .ref cmA, .ref cgA, .ref dwA]))] H := hP
  have hD : va_D A [(veA, .inl (cA, 8, .inl (aN gve))), (lkA, .inl (cA, 8, .inl (aM glk))), (baA, .inl (cA, 8, .inl (aN gba))), (md, .inr (6, [.int (nI 0), .int (nI mn), .int (nI mr), .ref veA, .ref lkA, .ref baA, .ref kiA, .ref fiA, .ref atA, .ref seA, .ref stA, .ref bsA, .ref lfA, .ref giA, .ref btA, .int (nI bc), .int (nI xc), .int (nI xd), .int (nI an), .int (nI fn), .ref gaA, .ref waA, .ref cmA, .ref cgA, .ref dwA]))] := hD
  have hP : va_P D vwCl [(md, .inr (6, [.int (nI 0), .int (nI mn), .int (nI mr), .ref veA, .ref lkA, .ref baA, .ref kiA, .ref fiA, .ref atA, .ref seA, .ref stA, .ref bsA, .ref lfA, .ref giA, .ref btA, .int (nI bc), .int (nI xc), .int (nI xd), .int (nI an), .int (nI fn), .ref gaA, .ref waA, .ref cmA, .ref cgA, .ref dwA])), (veA, .inl (cA, 8, .inl (aN gve))), (lkA, .inl (cA, 8, .inl (aM glk))), (baA, .inl (cA, 8, .inl (aN gba)))] H := hP.sub [3, 0, 1, 2] rfl
  have hD : va_D A [(md, .inr (6, [.int (nI 0), .int (nI mn), .int (nI mr), .ref veA, .ref lkA, .ref baA, .ref kiA, .ref fiA, .ref atA, .ref seA, .ref stA, .ref bsA, .ref lfA, .ref giA, .ref btA, .int (nI bc), .int (nI xc), .int (nI xd), .int (nI an), .int (nI fn), .ref gaA, .ref waA, .ref cmA, .ref cgA, .ref dwA])), (veA, .inl (cA, 8, .inl (aN gve))), (lkA, .inl (cA, 8, .inl (aM glk))), (baA, .inl (cA, 8, .inl (aN gba)))] := hD.sub [3, 0, 1, 2] (by decide) rfl
  refine nn_if_ne (tgt := 17) hx hb dX4_digest_10 (by decide) if01_lt (fun c_10 => ?_) (fun c_10 => ?_)
  · have c_10 := if01_ne c_10
    have e1 := toN_eq (c_10).1
    have b1 : toN xx < mn := isN_lt (by omega) c_10
    have hl : lv_has ls 6 [(0, .ref md), (1, .int (nI (toN xx))), (2, .long dd)] := by rw [← e1]; exact hl
    refine lv_aload_n hx hb dX4_digest_17 rfl (lv_at hl 0 rfl) ?_
    refine va_get (D := D) (ci := 6) (v := .ref lkA) (C := RX4) (T := TX4) (N := 25) hx hb hts inX4_digest_X4 hown hK.1 hP 0 rfl rfl 4 (by decide) (hts _ lkX4_digest_13) (fun _ h9 => h9) rfl dX4_digest_18 ?_
    refine lv_iload_n hx hb dX4_digest_21 rfl (lv_at hl 1 rfl) ?_
    refine mm_ald hx hb hK hP 2 rfl (by omega) (by decide) dX4_digest_22 ?_
    refine lv_iconst (v := -1) hx hb dX4_digest_23 (by decide) ?_
    refine zz_top (y := (mI 0)) mI_0.symm ?_
    refine mm_icmp_eq (tgt := 42) hx hb dX4_digest_24 (by decide) (Nat.lt_trans (hlk _) (by decide)) (by omega) (fun c_24 => ?_) (fun c_24 => ?_)
    · refine lv_ldc2 (v := (-3)) hx hb hown (hts _ clX4_digest_138) dX4_digest_42 ?_
      have eF : mdigF xx dd mn gve glk gba = ((-3 : Int64), gba) := by unfold mdigF; (repeat' (first | with_reducible rfl | contradiction | (exfalso; omega) | split))
      have eW : ([(md, .inr (6, [.int (nI 0), .int (nI mn), .int (nI mr), .ref veA, .ref lkA, .ref baA, .ref kiA, .ref fiA, .ref atA, .ref seA, .ref stA, .ref bsA, .ref lfA, .ref giA, .ref btA, .int (nI bc), .int (nI xc), .int (nI xd), .int (nI an), .int (nI fn), .ref gaA, .ref waA, .ref cmA, .ref cgA, .ref dwA])), (veA, .inl (cA, 8, .inl (aN gve))), (lkA, .inl (cA, 8, .inl (aM glk))), (baA, .inl (cA, 8, .inl (aN gba)))] : va_W) = [(md, .inr (6, [.int (nI 0), .int (nI mn), .int (nI mr), .ref veA, .ref lkA, .ref baA, .ref kiA, .ref fiA, .ref atA, .ref seA, .ref stA, .ref bsA, .ref lfA, .ref giA, .ref btA, .int (nI bc), .int (nI xc), .int (nI xd), .int (nI an), .int (nI fn), .ref gaA, .ref waA, .ref cmA, .ref cgA, .ref dwA])), (veA, .inl (cA, 8, .inl (aN gve))), (lkA, .inl (cA, 8, .inl (aM glk))), (baA, .inl (cA, 8, .inl (aN ((mdigF xx dd mn gve glk gba).2))))] := by rw [eF]
      rw [eW] at hP hD
      exact W.lret (v := (-3 : Int64)) hx hb hr (fun t ht hW => ⟨⟨(-3 : Int64), (), rfl, (by rw [eF]), by rw [ht]; exact hP, hD⟩, hS.F ht⟩) hS.2.2 dX4_digest_45
    · refine lv_aload_n hx hb dX4_digest_27 rfl (lv_at hl 0 rfl) ?_
      refine va_get (D := D) (ci := 6) (v := .ref lkA) (C := RX4) (T := TX4) (N := 25) hx hb hts inX4_digest_X4 hown hK.1 hP 0 rfl rfl 4 (by decide) (hts _ lkX4_digest_13) (fun _ h9 => h9) rfl dX4_digest_28 ?_
      refine lv_iload_n hx hb dX4_digest_31 rfl (lv_at hl 1 rfl) ?_
      refine mm_ald hx hb hK hP 2 rfl (by omega) (by decide) dX4_digest_32 ?_
      refine lv_aload_n hx hb dX4_digest_33 rfl (lv_at hl 0 rfl) ?_
      refine va_get (D := D) (ci := 6) (v := .ref veA) (C := RX4) (T := TX4) (N := 25) hx hb hts inX4_digest_X4 hown hK.1 hP 0 rfl rfl 3 (by decide) (hts _ lkX4_digest_7) (fun _ h9 => h9) rfl dX4_digest_34 ?_
      refine lv_iload_n hx hb dX4_digest_37 rfl (lv_at hl 1 rfl) ?_
      refine nn_ald hx hb hK hP 1 rfl (by omega) (by decide) dX4_digest_38 ?_
      refine zz_top (y := (mI ((gve (toN xx)) + 1))) (nI_mI _) ?_
      refine mm_icmp_lt (tgt := 46) hx hb dX4_digest_39 (by decide) (Nat.lt_trans (hlk _) (by decide)) (by have := hve (toN xx); omega) (fun c_39 => ?_) (fun c_39 => ?_)
      · refine lv_iload_n hx hb dX4_digest_46 rfl (lv_at hl 1 rfl) ?_
        refine lv_aload_n hx hb dX4_digest_47 rfl (lv_at hl 0 rfl) ?_
        refine va_get (D := D) (ci := 6) (v := .ref lkA) (C := RX4) (T := TX4) (N := 25) hx hb hts inX4_digest_X4 hown hK.1 hP 0 rfl rfl 4 (by decide) (hts _ lkX4_digest_13) (fun _ h9 => h9) rfl dX4_digest_48 ?_
        refine lv_iload_n hx hb dX4_digest_51 rfl (lv_at hl 1 rfl) ?_
        refine mm_ald hx hb hK hP 2 rfl (by omega) (by decide) dX4_digest_52 ?_
        refine zz_callL (av := []) (wc := []) (wr := [(md, .inr (6, [.int (nI 0), .int (nI mn), .int (nI mr), .ref veA, .ref lkA, .ref baA, .ref kiA, .ref fiA, .ref atA, .ref seA, .ref stA, .ref bsA, .ref lfA, .ref giA, .ref btA, .int (nI bc), .int (nI xc), .int (nI xd), .int (nI an), .int (nI fn), .ref gaA, .ref waA, .ref cmA, .ref cgA, .ref dwA])), (veA, .inl (cA, 8, .inl (aN gve))), (lkA, .inl (cA, 8, .inl (aM glk))), (baA, .inl (cA, 8, .inl (aN gba)))]) hS hA hP hD [] [0, 1, 2, 3] rfl rfl (by decide) (by decide) (va_runS (As := [.int (nI (toN xx)), .int (mI (glk (toN xx)))]) (rest := []) ⟨hx, hb, hml, hown, hts⟩ (kX4_digestOf l D cA H.size (nI (toN xx)) (mI (glk (toN xx))) ) (va_cwS 2 hts gX4_digest_X4_digestOf rfl rfl rfl (by decide +kernel) ⟨Nat.le_of_ble_eq_true rfl, Nat.le_of_ble_eq_true rfl⟩) (zPreS (av := [.int (nI (toN xx)), .int (mI (glk (toN xx)))]) (wc := []) hK hP hD [] rfl (by decide) rfl) rfl rfl hl.1 rfl (lv_room (Nat.le_of_ble_eq_true rfl)) dX4_digest_53 ⟨Nat.zero_le _, Nat.zero_le _⟩) (fun H locs hP hD hS => ?_)
        have hP : va_P D vwCl [(md, .inr (6, [.int (nI 0), .int (nI mn), .int (nI mr), .ref veA, .ref lkA, .ref baA, .ref kiA, .ref fiA, .ref atA, .ref seA, .ref stA, .ref bsA, .ref lfA, .ref giA, .ref btA, .int (nI bc), .int (nI xc), .int (nI xd), .int (nI an), .int (nI fn), .ref gaA, .ref waA, .ref cmA, .ref cgA, .ref dwA])), (veA, .inl (cA, 8, .inl (aN gve))), (lkA, .inl (cA, 8, .inl (aM glk))), (baA, .inl (cA, 8, .inl (aN gba)))] H := hP
        have hD : va_D A [(md, .inr (6, [.int (nI 0), .int (nI mn), .int (nI mr), .ref veA, .ref lkA, .ref baA, .ref kiA, .ref fiA, .ref atA, .ref seA, .ref stA, .ref bsA, .ref lfA, .ref giA, .ref btA, .int (nI bc), .int (nI xc), .int (nI xd), .int (nI an), .int (nI fn), .ref gaA, .ref waA, .ref cmA, .ref cgA, .ref dwA])), (veA, .inl (cA, 8, .inl (aN gve))), (lkA, .inl (cA, 8, .inl (aM glk))), (baA, .inl (cA, 8, .inl (aN gba)))] := hD
        refine lv_lstore (lv' := [(4, .long (dgN (nI (toN xx)) (mI (glk (toN xx))))), (0, .ref md), (1, .int (nI (toN xx))), (2, .long dd)]) hx hb dX4_digest_56 hl (by decide) rfl (fun ls hl => ?_)
        refine lv_lload_n hx hb dX4_digest_58 rfl (lv_at hl 3 rfl) ?_
        refine lv_lload hx hb dX4_digest_59 (lv_at hl 0 rfl) ?_
        refine W.lcmp hx hb dX4_digest_61 ?_
        refine lv_if_ne (tgt := 87) hx hb dX4_digest_62 (by decide) (fun c_62 => ?_) (fun c_62 => ?_)
        · refine lv_aload_n hx hb dX4_digest_87 rfl (lv_at hl 1 rfl) ?_
          refine va_get (D := D) (ci := 6) (v := .ref baA) (C := RX4) (T := TX4) (N := 25) hx hb hts inX4_digest_X4 hown hK.1 hP 0 rfl rfl 5 (by decide) (hts _ lkX4_digest_16) (fun _ h9 => h9) rfl dX4_digest_88 ?_
          refine lv_iload_n hx hb dX4_digest_91 rfl (lv_at hl 2 rfl) ?_
          refine lv_dup2_11 hx hb dX4_digest_92 rfl rfl ?_
          refine nn_ald hx hb hK hP 3 rfl (by omega) (by decide) dX4_digest_93 ?_
          refine lv_iconst (v := nI 1) hx hb dX4_digest_94 (by decide) ?_
          refine lv_aload_n hx hb dX4_digest_95 rfl (lv_at hl 1 rfl) ?_
          refine va_get (D := D) (ci := 6) (v := .ref lkA) (C := RX4) (T := TX4) (N := 25) hx hb hts inX4_digest_X4 hown hK.1 hP 0 rfl rfl 4 (by decide) (hts _ lkX4_digest_13) (fun _ h9 => h9) rfl dX4_digest_96 ?_
          refine lv_iload_n hx hb dX4_digest_99 rfl (lv_at hl 2 rfl) ?_
          refine mm_ald hx hb hK hP 2 rfl (by omega) (by decide) dX4_digest_100 ?_
          refine zz_top (y := (nI (glk (toN xx) - 1))) (mI_pos (by omega)) ?_
          refine nn_ishl hx hb (by have := hlk (toN xx); omega) dX4_digest_101 ?_
          refine nn_ior hx hb dX4_digest_102 ?_
          refine nn_ast hx hb hK hP hD hS 3 rfl (by omega) (by decide) dX4_digest_103 (fun H locs hP hD hS => ?_)
          have hP : va_P D vwCl [(md, .inr (6, [.int (nI 0), .int (nI mn), .int (nI mr), .ref veA, .ref lkA, .ref baA, .ref kiA, .ref fiA, .ref atA, .ref seA, .ref stA, .ref bsA, .ref lfA, .ref giA, .ref btA, .int (nI bc), .int (nI xc), .int (nI xd), .int (nI an), .int (nI fn), .ref gaA, .ref waA, .ref cmA, .ref cgA, .ref dwA])), (veA, .inl (cA, 8, .inl (aN gve))), (lkA, .inl (cA, 8, .inl (aM glk))), (baA, .inl (cA, 8, .inl (aN (va_up gba (toN xx) ((gba (toN xx)) ||| (1 <<< (glk (toN xx) - 1)))))))] H := hP
          have hD : va_D A [(md, .inr (6, [.int (nI 0), .int (nI mn), .int (nI mr), .ref veA, .ref lkA, .ref baA, .ref kiA, .ref fiA, .ref atA, .ref seA, .ref stA, .ref bsA, .ref lfA, .ref giA, .ref btA, .int (nI bc), .int (nI xc), .int (nI xd), .int (nI an), .int (nI fn), .ref gaA, .ref waA, .ref cmA, .ref cgA, .ref dwA])), (veA, .inl (cA, 8, .inl (aN gve))), (lkA, .inl (cA, 8, .inl (aM glk))), (baA, .inl (cA, 8, .inl (aN (va_up gba (toN xx) ((gba (toN xx)) ||| (1 <<< (glk (toN xx) - 1)))))))] := hD
          refine lv_lload hx hb dX4_digest_104 (lv_at hl 0 rfl) ?_
          have eF : mdigF xx dd mn gve glk gba = (dgN (nI (toN xx)) (mI (glk (toN xx))), va_up gba (toN xx) ((gba (toN xx)) ||| (1 <<< (glk (toN xx) - 1)))) := by unfold mdigF; (repeat' (first | with_reducible rfl | contradiction | (exfalso; omega) | split))
          have eW : ([(md, .inr (6, [.int (nI 0), .int (nI mn), .int (nI mr), .ref veA, .ref lkA, .ref baA, .ref kiA, .ref fiA, .ref atA, .ref seA, .ref stA, .ref bsA, .ref lfA, .ref giA, .ref btA, .int (nI bc), .int (nI xc), .int (nI xd), .int (nI an), .int (nI fn), .ref gaA, .ref waA, .ref cmA, .ref cgA, .ref dwA])), (veA, .inl (cA, 8, .inl (aN gve))), (lkA, .inl (cA, 8, .inl (aM glk))), (baA, .inl (cA, 8, .inl (aN (va_up gba (toN xx) ((gba (toN xx)) ||| (1 <<< (glk (toN xx) - 1)))))))] : va_W) = [(md, .inr (6, [.int (nI 0), .int (nI mn), .int (nI mr), .ref veA, .ref lkA, .ref baA, .ref kiA, .ref fiA, .ref atA, .ref seA, .ref stA, .ref bsA, .ref lfA, .ref giA, .ref btA, .int (nI bc), .int (nI xc), .int (nI xd), .int (nI an), .int (nI fn), .ref gaA, .ref waA, .ref cmA, .ref cgA, .ref dwA])), (veA, .inl (cA, 8, .inl (aN gve))), (lkA, .inl (cA, 8, .inl (aM glk))), (baA, .inl (cA, 8, .inl (aN ((mdigF xx dd mn gve glk gba).2))))] := by rw [eF]
          rw [eW] at hP hD
          exact W.lret (v := (dgN (nI (toN xx)) (mI (glk (toN xx))))) hx hb hr (fun t ht hW => ⟨⟨(dgN (nI (toN xx)) (mI (glk (toN xx)))), (), rfl, (by rw [eF]), by rw [ht]; exact hP, hD⟩, hS.F ht⟩) hS.2.2 dX4_digest_106
        · refine lv_aload_n hx hb dX4_digest_65 rfl (lv_at hl 1 rfl) ?_
          refine va_get (D := D) (ci := 6) (v := .ref baA) (C := RX4) (T := TX4) (N := 25) hx hb hts inX4_digest_X4 hown hK.1 hP 0 rfl rfl 5 (by decide) (hts _ lkX4_digest_16) (fun _ h9 => h9) rfl dX4_digest_66 ?_
          refine lv_iload_n hx hb dX4_digest_69 rfl (lv_at hl 2 rfl) ?_
          refine lv_dup2_11 hx hb dX4_digest_70 rfl rfl ?_
          refine nn_ald hx hb hK hP 3 rfl (by omega) (by decide) dX4_digest_71 ?_
          refine lv_iconst (v := nI 1) hx hb dX4_digest_72 (by decide) ?_
          refine lv_aload_n hx hb dX4_digest_73 rfl (lv_at hl 1 rfl) ?_
          refine va_get (D := D) (ci := 6) (v := .ref lkA) (C := RX4) (T := TX4) (N := 25) hx hb hts inX4_digest_X4 hown hK.1 hP 0 rfl rfl 4 (by decide) (hts _ lkX4_digest_13) (fun _ h9 => h9) rfl dX4_digest_74 ?_
          refine lv_iload_n hx hb dX4_digest_77 rfl (lv_at hl 2 rfl) ?_
          refine mm_ald hx hb hK hP 2 rfl (by omega) (by decide) dX4_digest_78 ?_
          refine zz_top (y := (nI (glk (toN xx) - 1))) (mI_pos (by omega)) ?_
          refine nn_ishl hx hb (by have := hlk (toN xx); omega) dX4_digest_79 ?_
          refine lv_iconst (v := -1) hx hb dX4_digest_80 (by decide) ?_
          refine nn_inot hx hb dX4_digest_81 ?_
          refine nn_iand hx hb dX4_digest_82 ?_
          refine nn_ast hx hb hK hP hD hS 3 rfl (by omega) (by decide) dX4_digest_83 (fun H locs hP hD hS => ?_)
          have hP : va_P D vwCl [(md, .inr (6, [.int (nI 0), .int (nI mn), .int (nI mr), .ref veA, .ref lkA, .ref baA, .ref kiA, .ref fiA, .ref atA, .ref seA, .ref stA, .ref bsA, .ref lfA, .ref giA, .ref btA, .int (nI bc), .int (nI xc), .int (nI xd), .int (nI an), .int (nI fn), .ref gaA, .ref waA, .ref cmA, .ref cgA, .ref dwA])), (veA, .inl (cA, 8, .inl (aN gve))), (lkA, .inl (cA, 8, .inl (aM glk))), (baA, .inl (cA, 8, .inl (aN (va_up gba (toN xx) ((gba (toN xx)) &&& ((1 <<< (glk (toN xx) - 1)) ^^^ 4294967295))))))] H := hP
          have hD : va_D A [(md, .inr (6, [.int (nI 0), .int (nI mn), .int (nI mr), .ref veA, .ref lkA, .ref baA, .ref kiA, .ref fiA, .ref atA, .ref seA, .ref stA, .ref bsA, .ref lfA, .ref giA, .ref btA, .int (nI bc), .int (nI xc), .int (nI xd), .int (nI an), .int (nI fn), .ref gaA, .ref waA, .ref cmA, .ref cgA, .ref dwA])), (veA, .inl (cA, 8, .inl (aN gve))), (lkA, .inl (cA, 8, .inl (aM glk))), (baA, .inl (cA, 8, .inl (aN (va_up gba (toN xx) ((gba (toN xx)) &&& ((1 <<< (glk (toN xx) - 1)) ^^^ 4294967295))))))] := hD
          refine lv_goto (tgt := 104) hx hb dX4_digest_84 (by decide) ?_
          refine lv_lload hx hb dX4_digest_104 (lv_at hl 0 rfl) ?_
          have eF : mdigF xx dd mn gve glk gba = (dgN (nI (toN xx)) (mI (glk (toN xx))), va_up gba (toN xx) ((gba (toN xx)) &&& ((1 <<< (glk (toN xx) - 1)) ^^^ 4294967295))) := by unfold mdigF; (repeat' (first | with_reducible rfl | contradiction | (exfalso; omega) | split))
          have eW : ([(md, .inr (6, [.int (nI 0), .int (nI mn), .int (nI mr), .ref veA, .ref lkA, .ref baA, .ref kiA, .ref fiA, .ref atA, .ref seA, .ref stA, .ref bsA, .ref lfA, .ref giA, .ref btA, .int (nI bc), .int (nI xc), .int (nI xd), .int (nI an), .int (nI fn), .ref gaA, .ref waA, .ref cmA, .ref cgA, .ref dwA])), (veA, .inl (cA, 8, .inl (aN gve))), (lkA, .inl (cA, 8, .inl (aM glk))), (baA, .inl (cA, 8, .inl (aN (va_up gba (toN xx) ((gba (toN xx)) &&& ((1 <<< (glk (toN xx) - 1)) ^^^ 4294967295))))))] : va_W) = [(md, .inr (6, [.int (nI 0), .int (nI mn), .int (nI mr), .ref veA, .ref lkA, .ref baA, .ref kiA, .ref fiA, .ref atA, .ref seA, .ref stA, .ref bsA, .ref lfA, .ref giA, .ref btA, .int (nI bc), .int (nI xc), .int (nI xd), .int (nI an), .int (nI fn), .ref gaA, .ref waA, .ref cmA, .ref cgA, .ref dwA])), (veA, .inl (cA, 8, .inl (aN gve))), (lkA, .inl (cA, 8, .inl (aM glk))), (baA, .inl (cA, 8, .inl (aN ((mdigF xx dd mn gve glk gba).2))))] := by rw [eF]
          rw [eW] at hP hD
          exact W.lret (v := (dgN (nI (toN xx)) (mI (glk (toN xx))))) hx hb hr (fun t ht hW => ⟨⟨(dgN (nI (toN xx)) (mI (glk (toN xx)))), (), rfl, (by rw [eF]), by rw [ht]; exact hP, hD⟩, hS.F ht⟩) hS.2.2 dX4_digest_106
      · refine lv_ldc2 (v := (-3)) hx hb hown (hts _ clX4_digest_138) dX4_digest_42 ?_
        have eF : mdigF xx dd mn gve glk gba = ((-3 : Int64), gba) := by unfold mdigF; (repeat' (first | with_reducible rfl | contradiction | (exfalso; omega) | split))
        have eW : ([(md, .inr (6, [.int (nI 0), .int (nI mn), .int (nI mr), .ref veA, .ref lkA, .ref baA, .ref kiA, .ref fiA, .ref atA, .ref seA, .ref stA, .ref bsA, .ref lfA, .ref giA, .ref btA, .int (nI bc), .int (nI xc), .int (nI xd), .int (nI an), .int (nI fn), .ref gaA, .ref waA, .ref cmA, .ref cgA, .ref dwA])), (veA, .inl (cA, 8, .inl (aN gve))), (lkA, .inl (cA, 8, .inl (aM glk))), (baA, .inl (cA, 8, .inl (aN gba)))] : va_W) = [(md, .inr (6, [.int (nI 0), .int (nI mn), .int (nI mr), .ref veA, .ref lkA, .ref baA, .ref kiA, .ref fiA, .ref atA, .ref seA, .ref stA, .ref bsA, .ref lfA, .ref giA, .ref btA, .int (nI bc), .int (nI xc), .int (nI xd), .int (nI an), .int (nI fn), .ref gaA, .ref waA, .ref cmA, .ref cgA, .ref dwA])), (veA, .inl (cA, 8, .inl (aN gve))), (lkA, .inl (cA, 8, .inl (aM glk))), (baA, .inl (cA, 8, .inl (aN ((mdigF xx dd mn gve glk gba).2))))] := by rw [eF]
        rw [eW] at hP hD
        exact W.lret (v := (-3 : Int64)) hx hb hr (fun t ht hW => ⟨⟨(-3 : Int64), (), rfl, (by rw [eF]), by rw [ht]; exact hP, hD⟩, hS.F ht⟩) hS.2.2 dX4_digest_45
  · have c_10 := if01_eq c_10
    refine lv_ldc2 (v := (-1)) hx hb hown (hts _ clX4_digest_136) dX4_digest_13 ?_
    have eF : mdigF xx dd mn gve glk gba = ((-1 : Int64), gba) := by unfold mdigF; (repeat' (first | with_reducible rfl | contradiction | (exfalso; omega) | split))
    have eW : ([(md, .inr (6, [.int (nI 0), .int (nI mn), .int (nI mr), .ref veA, .ref lkA, .ref baA, .ref kiA, .ref fiA, .ref atA, .ref seA, .ref stA, .ref bsA, .ref lfA, .ref giA, .ref btA, .int (nI bc), .int (nI xc), .int (nI xd), .int (nI an), .int (nI fn), .ref gaA, .ref waA, .ref cmA, .ref cgA, .ref dwA])), (veA, .inl (cA, 8, .inl (aN gve))), (lkA, .inl (cA, 8, .inl (aM glk))), (baA, .inl (cA, 8, .inl (aN gba)))] : va_W) = [(md, .inr (6, [.int (nI 0), .int (nI mn), .int (nI mr), .ref veA, .ref lkA, .ref baA, .ref kiA, .ref fiA, .ref atA, .ref seA, .ref stA, .ref bsA, .ref lfA, .ref giA, .ref btA, .int (nI bc), .int (nI xc), .int (nI xd), .int (nI an), .int (nI fn), .ref gaA, .ref waA, .ref cmA, .ref cgA, .ref dwA])), (veA, .inl (cA, 8, .inl (aN gve))), (lkA, .inl (cA, 8, .inl (aM glk))), (baA, .inl (cA, 8, .inl (aN ((mdigF xx dd mn gve glk gba).2))))] := by rw [eF]
    rw [eW] at hP hD
    exact W.lret (v := (-1 : Int64)) hx hb hr (fun t ht hW => ⟨⟨(-1 : Int64), (), rfl, (by rw [eF]), by rw [ht]; exact hP, hD⟩, hS.F ht⟩) hS.2.2 dX4_digest_16

