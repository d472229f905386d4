theorem lkX3_chosen_28 : Cond.fieldLink RX3 28 "LeastChange" "found" "LLeastChange$Found;" ∈ wsX3_chosen := by decide +kernel
theorem inX3_chosen_X0 : ∀ w ∈ wsX00, w ∈ wsX3_chosen := by decide +kernel
theorem inX3_chosen_X3 : ∀ w ∈ wsX30, w ∈ wsX3_chosen := by decide +kernel
set_option maxHeartbeats 4000000 in
set_option maxRecDepth 100000 in
theorem kX3_chosen (l : Launch) (D : va_G) (cA : ClassId) (sz : Nat) (lc : Nat) (ra : Nat) (sa : Nat) (fa : Nat) (ve : Nat) (lk : Nat) (jo : Nat) (ba : Nat) (ro : Nat) (nc : Nat) (rc : Nat) (co : Nat) (gv : Nat) (ch : Nat) (dn : Nat) (fco : Nat → Nat) (xx : Int32) (hnc : nc ≤ 8) : zMi l yX3_chosen wsX3_chosen ({ frames := 1, cells := 0, slots := 0, locals := 21 }) D cA [.ref lc, .int xx] sz [(lc, .inr (5, [.ref ra, .ref sa, .ref fa, .ref ve, .ref lk, .ref jo, .ref ba, .ref ro, .int (nI nc), .int (nI rc)])), (fa, .inr (2, [.ref co, .int (nI gv), .int (nI ch), .int (nI dn)])), (co, .inl (cA, 8, .inl (aN fco)))] [(lc, .inr (5, [.ref ra, .ref sa, .ref fa, .ref ve, .ref lk, .ref jo, .ref ba, .ref ro, .int (nI nc), .int (nI rc)])), (fa, .inr (2, [.ref co, .int (nI gv), .int (nI ch), .int (nI dn)])), (co, .inl (cA, 8, .inl (aN fco)))] (mI (if isN xx nc then fco (toN xx) else 0)) := by
  refine Met.ofW (cc := cX3_chosen) (maxL := 2) (ret := (some .int)) (by decide) rfl ?_
  intro p e s m args below meth c s₁ B hml hv
  obtain ⟨rfl, hsz, hP, hK, hD0⟩ := hv
  have hx := B.exec
  have hb := B.bytes
  have hr := B.returns
  have hts := atoms_spec (ws := wsX3_chosen) B.pre
  have hown : s.vm.findClass RX3 = some m.cls := findClass_of_methodNamed B.named
  have hlocks := B.notSynchronized
  subst hsz
  have hD := hD0.self (sz := s.heap.size)
  generalize hAe : va_A [(lc, .inr (5, [.ref ra, .ref sa, .ref fa, .ref ve, .ref lk, .ref jo, .ref ba, .ref ro, .int (nI nc), .int (nI rc)])), (fa, .inr (2, [.ref co, .int (nI gv), .int (nI ch), .int (nI dn)])), (co, .inl (cA, 8, .inl (aN fco)))] s.heap.size = A at hD ⊢
  have hA : ∀ q : Nat, s.heap.size ≤ q → A q := fun q h => by rw [← hAe]; exact Or.inr h
  have hS : va_S A s.heap s.heap [] := va_S.rf
  have hP : va_P D vwCl [(lc, .inr (5, [.ref ra, .ref sa, .ref fa, .ref ve, .ref lk, .ref jo, .ref ba, .ref ro, .int (nI nc), .int (nI rc)])), (fa, .inr (2, [.ref co, .int (nI gv), .int (nI ch), .int (nI dn)])), (co, .inl (cA, 8, .inl (aN fco)))] s.heap := hP
  have hl := lv_entry ([.ref lc, .int xx]) (n := 2) (Nat.le_of_ble_eq_true rfl)
  rw [lg_entry_eq]
  generalize (lg_sl ([.ref lc, .int xx]) ++ List.replicate (2 - (lg_sl ([.ref lc, .int xx])).length) Slot.unset).toArray = ls at hl ⊢
  have hl : lv_has ls 2 [(0, .ref lc), (1, .int xx)] := hl
  refine lv_aload_n hx hb dX3_chosen_0 rfl (lv_at hl 0 rfl) ?_
  refine lv_iload_n hx hb dX3_chosen_1 rfl (lv_at hl 1 rfl) ?_
  refine zz_callI (av := []) (wc := [(lc, .inr (5, [.ref ra, .ref sa, .ref fa, .ref ve, .ref lk, .ref jo, .ref ba, .ref ro, .int (nI nc), .int (nI rc)]))]) (wr := [(fa, .inr (2, [.ref co, .int (nI gv), .int (nI ch), .int (nI dn)])), (co, .inl (cA, 8, .inl (aN fco)))]) hS hA hP hD [0] [1, 2] rfl rfl (by decide) (by decide) (va_runV (As := [.int xx]) (rest := []) ⟨hx, hb, hml, hown, hts⟩ (kX3_isName l D cA s.heap.size lc ra sa fa ve lk jo ba ro nc rc xx (by omega)) (cwV 1 hts gX3_chosen_X3_isName rfl rfl rfl (by decide +kernel) ⟨Nat.le_of_ble_eq_true rfl, Nat.le_of_ble_eq_true rfl⟩) ⟨(zPreS (av := [.ref lc, .int xx]) (wc := [(lc, .inr (5, [.ref ra, .ref sa, .ref fa, .ref ve, .ref lk, .ref jo, .ref ba, .ref ro, .int (nI nc), .int (nI rc)]))]) hK hP hD [0] rfl (by decide) rfl).1, (va_recv hK.1 hP (ci := 5) (q0 := 0) rfl rfl), (zPreS (av := [.ref lc, .int xx]) (wc := [(lc, .inr (5, [.ref ra, .ref sa, .ref fa, .ref ve, .ref lk, .ref jo, .ref ba, .ref ro, .int (nI nc), .int (nI rc)]))]) hK hP hD [0] rfl (by decide) rfl).2⟩ rfl rfl hl.1 rfl (lv_room (Nat.le_of_ble_eq_true rfl)) dX3_chosen_2 ⟨Nat.zero_le _, Nat.zero_le _⟩) (fun H locs hP hD hS => ?_)
  have hP : va_P D vwCl [(fa, .inr (2, [.ref co, .int (nI gv), .int (nI ch), .int (nI dn)])), (co, .inl (cA, 8, .inl (aN fco))), (lc, .inr (5, [.ref ra, .ref sa, .ref fa, .ref ve, .ref lk, .ref jo, .ref ba, .ref ro, .int (nI nc), .int (nI rc)]))] H := hP
  have hD : va_D A [(fa, .inr (2, [.ref co, .int (nI gv), .int (nI ch), .int (nI dn)])), (co, .inl (cA, 8, .inl (aN fco))), (lc, .inr (5, [.ref ra, .ref sa, .ref fa, .ref ve, .ref lk, .ref jo, .ref ba, .ref ro, .int (nI nc), .int (nI rc)]))] := hD
  have hP : va_P D vwCl [(lc, .inr (5, [.ref ra, .ref sa, .ref fa, .ref ve, .ref lk, .ref jo, .ref ba, .ref ro, .int (nI nc), .int (nI rc)])), (fa, .inr (2, [.ref co, .int (nI gv), .int (nI ch), .int (nI dn)])), (co, .inl (cA, 8, .inl (aN fco)))] H := hP.sub [2, 0, 1] rfl
  have hD : va_D A [(lc, .inr (5, [.ref ra, .ref sa, .ref fa, .ref ve, .ref lk, .ref jo, .ref ba, .ref ro, .int (nI nc), .int (nI rc)])), (fa, .inr (2, [.ref co, .int (nI gv), .int (nI ch), .int (nI dn)])), (co, .inl (cA, 8, .inl (aN fco)))] := hD.sub [2, 0, 1] (by decide) rfl
  refine nn_if_eq (tgt := 23) hx hb dX3_chosen_5 (by decide) if01_lt (fun c_5 => ?_) (fun c_5 => ?_)
  · have c_5 := if01_eq c_5
    refine lv_iconst (v := -1) hx hb dX3_chosen_23 (by decide) ?_
    exact W.iret (v := (-1)) hx hb hr (fun t ht hW => ⟨⟨(-1), (), rfl, (by first | (rw [if_pos c_5]; rfl) | (rw [if_neg c_5]; rfl)), by rw [ht]; exact hP, hD⟩, hS.F ht⟩) hS.2.2 dX3_chosen_24
  · have c_5 := if01_ne c_5
    have e1 := toN_eq (c_5).1
    have b1 : toN xx < nc := isN_lt (by omega) c_5
    have hl : lv_has ls 2 [(0, .ref lc), (1, .int (nI (toN xx)))] := by rw [← e1]; exact hl
    refine lv_aload_n hx hb dX3_chosen_8 rfl (lv_at hl 0 rfl) ?_
    refine va_get (D := D) (ci := 5) (v := .ref fa) (C := RX3) (T := TX3) (N := 10) hx hb hts inX3_chosen_X3 hown hK.1 hP 0 rfl rfl 2 (by decide) (hts _ lkX3_chosen_28) (fun _ h9 => h9) rfl dX3_chosen_9 ?_
    refine va_getN (D := D) (ci := 2) (v := .ref co) (C := RX0) (T := TX0) (N := 4) hx hb hts inX3_chosen_X0 hown hK.1 hP 1 rfl rfl 0 (by decide) (va_Nw.use rfl (hK.2 _ nkX3_107)) (fun _ h9 => h9) rfl dX3_chosen_12 ?_
    refine lv_iload_n hx hb dX3_chosen_15 rfl (lv_at hl 1 rfl) ?_
    refine nn_ald hx hb hK hP 2 rfl (by omega) (by decide) dX3_chosen_16 ?_
    refine zz_callI (av := []) (wc := []) (wr := [(lc, .inr (5, [.ref ra, .ref sa, .ref fa, .ref ve, .ref lk, .ref jo, .ref ba, .ref ro, .int (nI nc), .int (nI rc)])), (fa, .inr (2, [.ref co, .int (nI gv), .int (nI ch), .int (nI dn)])), (co, .inl (cA, 8, .inl (aN fco)))]) hS hA hP hD [] [0, 1, 2] rfl rfl (by decide) (by decide) (va_runS (As := [.int (nI (fco (toN xx)))]) (rest := []) ⟨hx, hb, hml, hown, hts⟩ (kX3_versionOf l D cA H.size (nI (fco (toN xx))) ) (va_cwS 1 hts gX3_chosen_X3_versionOf rfl rfl rfl (by decide +kernel) ⟨Nat.le_of_ble_eq_true rfl, Nat.le_of_ble_eq_true rfl⟩) (zPreS (av := [.int (nI (fco (toN xx)))]) (wc := []) hK hP hD [] rfl (by decide) rfl) rfl rfl hl.1 rfl (lv_room (Nat.le_of_ble_eq_true rfl)) dX3_chosen_17 ⟨Nat.zero_le _, Nat.zero_le _⟩) (fun H locs hP hD hS => ?_)
    have hP : va_P D vwCl [(lc, .inr (5, [.ref ra, .ref sa, .ref fa, .ref ve, .ref lk, .ref jo, .ref ba, .ref ro, .int (nI nc), .int (nI rc)])), (fa, .inr (2, [.ref co, .int (nI gv), .int (nI ch), .int (nI dn)])), (co, .inl (cA, 8, .inl (aN fco)))] H := hP
    have hD : va_D A [(lc, .inr (5, [.ref ra, .ref sa, .ref fa, .ref ve, .ref lk, .ref jo, .ref ba, .ref ro, .int (nI nc), .int (nI rc)])), (fa, .inr (2, [.ref co, .int (nI gv), .int (nI ch), .int (nI dn)])), (co, .inl (cA, 8, .inl (aN fco)))] := hD
    refine lv_goto (tgt := 24) hx hb dX3_chosen_20 (by decide) ?_
    exact W.iret (v := ((nI (fco (toN xx))) - nI 1)) hx hb hr (fun t ht hW => ⟨⟨((nI (fco (toN xx))) - nI 1), (), rfl, (by first | (rw [if_pos c_5]; rfl) | (rw [if_neg c_5]; rfl)), by rw [ht]; exact hP, hD⟩, hS.F ht⟩) hS.2.2 dX3_chosen_24


/-- the i-th bit that is set: its place and 1, or 0 -/
def ithL (gv : Nat) (xx : Int32) : Nat → Nat → Nat → Nat
  | 0, _, _ => 0
  | k + 1, i, bf => if (gv >>> i) &&& 1 = 0 then ithL gv xx k (i + 1) bf else if nI bf = xx then i + 1 else ithL gv xx k (i + 1) (bf + 1)

set_option maxHeartbeats 4000000 in
set_option maxRecDepth 100000 in
theorem kX3_ithOf (l : Launch) (D : va_G) (cA : ClassId) (sz : Nat) (gv : Nat) (xx : Int32) (hgv : gv < 2147483648) : zMi l yX3_ithOf wsX3_ithOf ({ frames := 0, cells := 0, slots := 0, locals := 0 }) D cA [.int (nI gv), .int xx] sz [] [] (mI (ithL gv xx 8 0 0)) := by
  refine Met.ofW (cc := cX3_ithOf) (maxL := 4) (ret := (some .int)) (by decide) rfl ?_
  intro p e s m args below meth c s₁ B hml hv
  obtain ⟨rfl, hsz, hP, hK, hD0⟩ := hv
  have hx := B.exec
  have hb := B.bytes
  have hr := B.returns
  have hts := atoms_spec (ws := wsX3_ithOf) B.pre
  have hown : s.vm.findClass RX3 = some m.cls := findClass_of_methodNamed B.named
  have hlocks := B.notSynchronized
  subst hsz
  have hD := hD0.self (sz := s.heap.size)
  generalize hAe : va_A [] s.heap.size = A at hD ⊢
  have hA : ∀ q : Nat, s.heap.size ≤ q → A q := fun q h => by rw [← hAe]; exact Or.inr h
  have hS : va_S A s.heap s.heap [] := va_S.rf
  have hP : va_P D vwCl [] s.heap := hP
  have hl := lv_entry ([.int (nI gv), .int xx]) (n := 4) (Nat.le_of_ble_eq_true rfl)
  rw [lg_entry_eq]
  generalize (lg_sl ([.int (nI gv), .int xx]) ++ List.replicate (4 - (lg_sl ([.int (nI gv), .int xx])).length) Slot.unset).toArray = ls at hl ⊢
  have hl : lv_has ls 4 [(0, .int (nI gv)), (1, .int xx)] := hl
  refine lv_iconst (v := nI 0) hx hb dX3_ithOf_0 (by decide) ?_
  refine lv_istore_n (lv' := [(2, .int (nI 0)), (0, .int (nI gv)), (1, .int xx)]) hx hb dX3_ithOf_1 rfl hl (by decide) rfl (fun ls hl => ?_)
  refine lv_iconst (v := nI 0) hx hb dX3_ithOf_2 (by decide) ?_
  refine lv_istore_n (lv' := [(3, .int (nI 0)), (2, .int (nI 0)), (0, .int (nI gv)), (1, .int xx)]) hx hb dX3_ithOf_3 rfl hl (by decide) rfl (fun ls hl => ?_)
  suffices hgo : ∀ (k : Nat) (i : Nat) (bf : Nat), (i + k = 8) → (ithL gv xx k i bf = ithL gv xx 8 0 0) → ∀ (H : Heap) (locs : List Loc) (ls : Array Slot), va_P D vwCl [] H → va_D A [] → va_S A s.heap H locs → lv_has ls 4 [(0, .int (nI gv)), (1, .int xx), (2, .int (nI bf)), (3, .int (nI i))] → W p l e (headSpec wsX3_ithOf ({ frames := 0, cells := 0, slots := 0, locals := 0 })).room s m ([.int (nI gv), .int xx]).toArray below meth c H locs 0 0 (MQ below (va_Qi (fun r _ => r = (mI (ithL gv xx 8 0 0))) (zB D A []) A) ([.int (nI gv), .int xx]).toArray s 0 0 A) (F0 m 4 ls []) from hgo 8 0 0 (by omega) rfl _ _ ls hP hD hS (lv_sub hl [2, 3, 1, 0] rfl)
  clear hP hD hS hl
  intro k
  induction k with
  | zero =>
    intro i bf hi hE H locs ls hP hD hS hl
    refine lv_iload_n hx hb dX3_ithOf_4 rfl (lv_at hl 3 rfl) ?_
    refine lv_bipush (v := nI 8) hx hb dX3_ithOf_5 (by decide) ?_
    refine nn_icmp_ge (tgt := 34) hx hb dX3_ithOf_7 (by decide) (by omega) (by omega) (fun c_7 => ?_) (fun c_7 => ?_)
    · refine lv_iconst (v := -1) hx hb dX3_ithOf_34 (by decide) ?_
      exact W.iret (v := (-1)) hx hb hr (fun t ht hW => ⟨⟨(-1), (), rfl, (by rw [← hE]; rfl), by rw [ht]; exact hP, hD⟩, hS.F ht⟩) hS.2.2 dX3_ithOf_35
    · exfalso; omega
  | succ k ih =>
    intro i bf hi hE H locs ls hP hD hS hl
    refine lv_iload_n hx hb dX3_ithOf_4 rfl (lv_at hl 3 rfl) ?_
    refine lv_bipush (v := nI 8) hx hb dX3_ithOf_5 (by decide) ?_
    refine nn_icmp_ge (tgt := 34) hx hb dX3_ithOf_7 (by decide) (by omega) (by omega) (fun c_7 => ?_) (fun c_7 => ?_)
    · exfalso; omega
    · refine lv_iload_n hx hb dX3_ithOf_10 rfl (lv_at hl 0 rfl) ?_
      refine lv_iload_n hx hb dX3_ithOf_11 rfl (lv_at hl 3 rfl) ?_
      refine nn_ishr hx hb (by omega) (by omega) dX3_ithOf_12 ?_
      refine lv_iconst (v := nI 1) hx hb dX3_ithOf_13 (by decide) ?_
      refine nn_iand hx hb dX3_ithOf_14 ?_
      refine nn_if_eq (tgt := 28) hx hb dX3_ithOf_15 (by decide) (and1_lt _) (fun c_15 => ?_) (fun c_15 => ?_)
      · refine lv_iinc (v := (nI (i + 1))) (lv' := [(3, .int (nI (i + 1))), (0, .int (nI gv)), (1, .int xx), (2, .int (nI bf))]) hx hb dX3_ithOf_28 hl (k := 3) rfl (nI_add _ _) (by decide) rfl (fun ls hl => ?_)
        refine lv_goto (tgt := 4) hx hb dX3_ithOf_31 (by decide) ?_
        exact ih (i + 1) bf (by omega) (by first | (rw [← hE, ithL, if_pos c_15]; done) | (rw [← hE, ithL, if_neg c_15, if_neg c_20]; done)) _ _ _ hP hD hS (lv_sub hl [1, 2, 3, 0] rfl)
      · refine lv_iload_n hx hb dX3_ithOf_18 rfl (lv_at hl 2 rfl) ?_
        refine lv_iload_n hx hb dX3_ithOf_19 rfl (lv_at hl 1 rfl) ?_
        refine lv_icmp_ne (tgt := 25) hx hb dX3_ithOf_20 (by decide) (fun c_20 => ?_) (fun c_20 => ?_)
        · refine lv_iinc (v := (nI (bf + 1))) (lv' := [(2, .int (nI (bf + 1))), (0, .int (nI gv)), (1, .int xx), (3, .int (nI i))]) hx hb dX3_ithOf_25 hl (k := 2) rfl (nI_add _ _) (by decide) rfl (fun ls hl => ?_)
          refine lv_iinc (v := (nI (i + 1))) (lv' := [(3, .int (nI (i + 1))), (2, .int (nI (bf + 1))), (0, .int (nI gv)), (1, .int xx)]) hx hb dX3_ithOf_28 hl (k := 3) rfl (nI_add _ _) (by decide) rfl (fun ls hl => ?_)
          refine lv_goto (tgt := 4) hx hb dX3_ithOf_31 (by decide) ?_
          exact ih (i + 1) (bf + 1) (by omega) (by first | (rw [← hE, ithL, if_pos c_15]; done) | (rw [← hE, ithL, if_neg c_15, if_neg c_20]; done)) _ _ _ hP hD hS (lv_sub hl [2, 3, 1, 0] rfl)
        · refine lv_iload_n hx hb dX3_ithOf_23 rfl (lv_at hl 3 rfl) ?_
          exact W.iret (v := (nI i)) hx hb hr (fun t ht hW => ⟨⟨(nI i), (), rfl, (by rw [← hE, ithL, if_neg c_15, if_pos c_20]; exact nI_mI i), by rw [ht]; exact hP, hD⟩, hS.F ht⟩) hS.2.2 dX3_ithOf_24

theorem lkX3_down_28 : Cond.fieldLink RX3 28 "LeastChange" "found" "LLeastChange$Found;" ∈ wsX3_down := by decide +kernel
theorem inX3_down_X0 : ∀ w ∈ wsX00, w ∈ wsX3_down := by decide +kernel
theorem inX3_down_X3 : ∀ w ∈ wsX30, w ∈ wsX3_down := by decide +kernel
set_option maxHeartbeats 4000000 in
set_option maxRecDepth 100000 in
theorem kX3_down (l : Launch) (D : va_G) (cA : ClassId) (sz : Nat) (lc : Nat) (ra : Nat) (sa : Nat) (fa : Nat) (ve : Nat) (lk : Nat) (jo : Nat) (ba : Nat) (ro : Nat) (nc : Nat) (rc : Nat) (co : Nat) (gv : Nat) (ch : Nat) (dn : Nat) (xx : Int32) (hdn : dn < 2147483648) : zMi l yX3_down wsX3_down ({ frames := 1, cells := 0, slots := 0, locals := 23 }) D cA [.ref lc, .int xx] sz [(lc, .inr (5, [.ref ra, .ref sa, .ref fa, .ref ve, .ref lk, .ref jo, .ref ba, .ref ro, .int (nI nc), .int (nI rc)])), (fa, .inr (2, [.ref co, .int (nI gv), .int (nI ch), .int (nI dn)]))] [(lc, .inr (5, [.ref ra, .ref sa, .ref fa, .ref ve, .ref lk, .ref jo, .ref ba, .ref ro, .int (nI nc), .int (nI rc)])), (fa, .inr (2, [.ref co, .int (nI gv), .int (nI ch), .int (nI dn)]))] (mI (ithL dn xx 8 0 0)) := by
  refine Met.ofW (cc := cX3_down) (maxL := 2) (ret := (some .int)) (by decide) rfl ?_
  intro p e s m args below meth c s₁ B hml hv
  obtain ⟨rfl, hsz, hP, hK, hD0⟩ := hv
  have hx := B.exec
  have hb := B.bytes
  have hr := B.returns
  have hts := atoms_spec (ws := wsX3_down) B.pre
  have hown : s.vm.findClass RX3 = some m.cls := findClass_of_methodNamed B.named
  have hlocks := B.notSynchronized
  subst hsz
  have hD := hD0.self (sz := s.heap.size)
  generalize hAe : va_A [(lc, .inr (5, [.ref ra, .ref sa, .ref fa, .ref ve, .ref lk, .ref jo, .ref ba, .ref ro, .int (nI nc), .int (nI rc)])), (fa, .inr (2, [.ref co, .int (nI gv), .int (nI ch), .int (nI dn)]))] s.heap.size = A at hD ⊢
  have hA : ∀ q : Nat, s.heap.size ≤ q → A q := fun q h => by rw [← hAe]; exact Or.inr h
  have hS : va_S A s.heap s.heap [] := va_S.rf
  have hP : va_P D vwCl [(lc, .inr (5, [.ref ra, .ref sa, .ref fa, .ref ve, .ref lk, .ref jo, .ref ba, .ref ro, .int (nI nc), .int (nI rc)])), (fa, .inr (2, [.ref co, .int (nI gv), .int (nI ch), .int (nI dn)]))] s.heap := hP
  have hl := lv_entry ([.ref lc, .int xx]) (n := 2) (Nat.le_of_ble_eq_true rfl)
  rw [lg_entry_eq]
  generalize (lg_sl ([.ref lc, .int xx]) ++ List.replicate (2 - (lg_sl ([.ref lc, .int xx])).length) Slot.unset).toArray = ls at hl ⊢
  have hl : lv_has ls 2 [(0, .ref lc), (1, .int xx)] := hl
  refine lv_aload_n hx hb dX3_down_0 rfl (lv_at hl 0 rfl) ?_
  refine va_get (D := D) (ci := 5) (v := .ref fa) (C := RX3) (T := TX3) (N := 10) hx hb hts inX3_down_X3 hown hK.1 hP 0 rfl rfl 2 (by decide) (hts _ lkX3_down_28) (fun _ h9 => h9) rfl dX3_down_1 ?_
  refine va_getN (D := D) (ci := 2) (v := .int (nI dn)) (C := RX0) (T := TX0) (N := 4) hx hb hts inX3_down_X0 hown hK.1 hP 1 rfl rfl 3 (by decide) (va_Nw.use rfl (hK.2 _ nkX3_113)) (fun _ h9 => h9) rfl dX3_down_4 ?_
  refine lv_iload_n hx hb dX3_down_7 rfl (lv_at hl 1 rfl) ?_
  refine zz_callI (av := []) (wc := []) (wr := [(lc, .inr (5, [.ref ra, .ref sa, .ref fa, .ref ve, .ref lk, .ref jo, .ref ba, .ref ro, .int (nI nc), .int (nI rc)])), (fa, .inr (2, [.ref co, .int (nI gv), .int (nI ch), .int (nI dn)]))]) hS hA hP hD [] [0, 1] rfl rfl (by decide) (by decide) (va_runS (As := [.int (nI dn), .int xx]) (rest := []) ⟨hx, hb, hml, hown, hts⟩ (kX3_ithOf l D cA s.heap.size dn xx (by omega)) (va_cwS 2 hts gX3_down_X3_ithOf rfl rfl rfl (by decide +kernel) ⟨Nat.le_of_ble_eq_true rfl, Nat.le_of_ble_eq_true rfl⟩) (zPreS (av := [.int (nI dn), .int xx]) (wc := []) hK hP hD [] rfl (by decide) rfl) rfl rfl hl.1 rfl (lv_room (Nat.le_of_ble_eq_true rfl)) dX3_down_8 ⟨Nat.zero_le _, Nat.zero_le _⟩) (fun H locs hP hD hS => ?_)
  have hP : va_P D vwCl [(lc, .inr (5, [.ref ra, .ref sa, .ref fa, .ref ve, .ref lk, .ref jo, .ref ba, .ref ro, .int (nI nc), .int (nI rc)])), (fa, .inr (2, [.ref co, .int (nI gv), .int (nI ch), .int (nI dn)]))] H := hP
  have hD : va_D A [(lc, .inr (5, [.ref ra, .ref sa, .ref fa, .ref ve, .ref lk, .ref jo, .ref ba, .ref ro, .int (nI nc), .int (nI rc)])), (fa, .inr (2, [.ref co, .int (nI gv), .int (nI ch), .int (nI dn)]))] := hD
  exact W.iret (v := (mI (ithL dn xx 8 0 0))) hx hb hr (fun t ht hW => ⟨⟨(mI (ithL dn xx 8 0 0)), (), rfl, rfl, by rw [ht]; exact hP, hD⟩, hS.F ht⟩) hS.2.2 dX3_down_11


theorem isN_m {r n : Nat} (hr : r < 2147483648) (hn : n < 2147483647) : isN (mI r) n ↔ 0 < r ∧ r ≤ n := by
  constructor
  · intro h
    have h1 : ¬ r = 0 := fun q => h.1 ((mz_lt hr).mpr q)
    have h2 := h.2
    rw [nI_mI n] at h2
    have h3 := (mI_lt hr (by omega)).mp h2
    omega
  · intro h
    refine ⟨fun q => absurd ((mz_lt hr).mp q) (by omega), ?_⟩
    rw [nI_mI n]
    exact (mI_lt hr (by omega)).mpr (by omega)
theorem ithL_le (gv : Nat) (xx : Int32) : ∀ k i bf, ithL gv xx k i bf ≤ i + k := by
  intro k
  induction k with
  | zero => intro i bf; exact Nat.zero_le _
  | succ k ih =>
    intro i bf
    rw [ithL]
    have h1 := ih (i + 1) bf
    have h2 := ih (i + 1) (bf + 1)
    repeat' split
    all_goals omega
theorem sw4 {x : Int32} (h0 : ¬ x = 0) (h1 : ¬ x = 1) (h2 : ¬ x = 2) (h3 : ¬ x = 3) : x.toInt < 0 ∨ 3 < x.toInt := by
  have q0 : x.toInt ≠ 0 := fun q => h0 (Int32.toInt_inj.mp q)
  have q1 : x.toInt ≠ 1 := fun q => h1 (Int32.toInt_inj.mp q)
  have q2 : x.toInt ≠ 2 := fun q => h2 (Int32.toInt_inj.mp q)
  have q3 : x.toInt ≠ 3 := fun q => h3 (Int32.toInt_inj.mp q)
  omega
theorem mI_pos {r : Nat} (h : 0 < r) : mI r = nI (r - 1) := by
  obtain ⟨j, rfl⟩ : ∃ j, r = j + 1 := ⟨r - 1, by omega⟩
  rw [mI_succ]
  rfl
def dmod (x : Int64) : Int32 := (x - x / 2147483647 * 2147483647).toInt32
def lockF (r : Nat) (pw : Int32) (nc ch : Nat) (fco : Nat → Nat) : Int32 :=
  if 0 < r ∧ r ≤ nc then (if pw = 0 then nI (r - 1) else if pw = 1 then mI (fco (r - 1)) else if pw = 2 then dmod (dgN (nI (r - 1)) (mI (fco (r - 1)))) else if pw = 3 then nI ((ch >>> (r - 1)) &&& 1) else -2) else -1

theorem clX3_lock_126 : Cond.constantLong RX3 126 (2147483647) ∈ wsX3_lock := by decide +kernel
theorem lkX3_lock_28 : Cond.fieldLink RX3 28 "LeastChange" "found" "LLeastChange$Found;" ∈ wsX3_lock := by decide +kernel
theorem inX3_lock_X0 : ∀ w ∈ wsX00, w ∈ wsX3_lock := by decide +kernel
theorem inX3_lock_X3 : ∀ w ∈ wsX30, w ∈ wsX3_lock := by decide +kernel
set_option maxHeartbeats 4000000 in
set_option maxRecDepth 100000 in
theorem kX3_lock (l : Launch) (D : va_G) (cA : ClassId) (sz : Nat) (lc : Nat) (ra : Nat) (sa : Nat) (fa : Nat) (ve : Nat) (lk : Nat) (jo : Nat) (ba : Nat) (ro : Nat) (nc : Nat) (rc : Nat) (co : Nat) (gv : Nat) (ch : Nat) (dn : Nat) (fco : Nat → Nat) (xx : Int32) (pw : Int32) (hnc : nc ≤ 8) (hgv : gv < 2147483648) (hch : ch < 2147483648) : zMi l yX3_lock wsX3_lock ({ frames := 1, cells := 0, slots := 0, locals := 23 }) D cA [.ref lc, .int xx, .int pw] sz [(lc, .inr (5, [.ref ra, .ref sa, .ref fa, .ref ve, .ref lk, .ref jo, .ref ba, .ref ro, .int (nI nc), .int (nI rc)])), (fa, .inr (2, [.ref co, .int (nI gv), .int (nI ch), .int (nI dn)])), (co, .inl (cA, 8, .inl (aN fco)))] [(lc, .inr (5, [.ref ra, .ref sa, .ref fa, .ref ve, .ref lk, .ref jo, .ref ba, .ref ro, .int (nI nc), .int (nI rc)])), (fa, .inr (2, [.ref co, .int (nI gv), .int (nI ch), .int (nI dn)])), (co, .inl (cA, 8, .inl (aN fco)))] (lockF (ithL gv xx 8 0 0) pw nc ch fco) := by
  refine Met.ofW (cc := cX3_lock) (maxL := 5) (ret := (some .int)) (by decide) rfl ?_
  intro p e s m args below meth c s₁ B hml hv
  obtain ⟨rfl, hsz, hP, hK, hD0⟩ := hv
  have hx := B.exec
  have hb := B.bytes
  have hr := B.returns
  have hts := atoms_spec (ws := wsX3_lock) B.pre
  have hown : s.vm.findClass RX3 = some m.cls := findClass_of_methodNamed B.named
  have hlocks := B.notSynchronized
  subst hsz
  have hD := hD0.self (sz := s.heap.size)
  generalize hAe : va_A [(lc, .inr (5, [.ref ra, .ref sa, .ref fa, .ref ve, .ref lk, .ref jo, .ref ba, .ref ro, .int (nI nc), .int (nI rc)])), (fa, .inr (2, [.ref co, .int (nI gv), .int (nI ch), .int (nI dn)])), (co, .inl (cA, 8, .inl (aN fco)))] s.heap.size = A at hD ⊢
  have hA : ∀ q : Nat, s.heap.size ≤ q → A q := fun q h => by rw [← hAe]; exact Or.inr h
  have hS : va_S A s.heap s.heap [] := va_S.rf
  have hP : va_P D vwCl [(lc, .inr (5, [.ref ra, .ref sa, .ref fa, .ref ve, .ref lk, .ref jo, .ref ba, .ref ro, .int (nI nc), .int (nI rc)])), (fa, .inr (2, [.ref co, .int (nI gv), .int (nI ch), .int (nI dn)])), (co, .inl (cA, 8, .inl (aN fco)))] s.heap := hP
  have hl := lv_entry ([.ref lc, .int xx, .int pw]) (n := 5) (Nat.le_of_ble_eq_true rfl)
  rw [lg_entry_eq]
  generalize (lg_sl ([.ref lc, .int xx, .int pw]) ++ List.replicate (5 - (lg_sl ([.ref lc, .int xx, .int pw])).length) Slot.unset).toArray = ls at hl ⊢
  have hl : lv_has ls 5 [(0, .ref lc), (1, .int xx), (2, .int pw)] := hl
  refine lv_aload_n hx hb dX3_lock_0 rfl (lv_at hl 0 rfl) ?_
  refine va_get (D := D) (ci := 5) (v := .ref fa) (C := RX3) (T := TX3) (N := 10) hx hb hts inX3_lock_X3 hown hK.1 hP 0 rfl rfl 2 (by decide) (hts _ lkX3_lock_28) (fun _ h9 => h9) rfl dX3_lock_1 ?_
  refine va_getN (D := D) (ci := 2) (v := .int (nI gv)) (C := RX0) (T := TX0) (N := 4) hx hb hts inX3_lock_X0 hown hK.1 hP 1 rfl rfl 1 (by decide) (va_Nw.use rfl (hK.2 _ nkX3_119)) (fun _ h9 => h9) rfl dX3_lock_4 ?_
  refine lv_iload_n hx hb dX3_lock_7 rfl (lv_at hl 1 rfl) ?_
  refine zz_callI (av := []) (wc := []) (wr := [(lc, .inr (5, [.ref ra, .ref sa, .ref fa, .ref ve, .ref lk, .ref jo, .ref ba, .ref ro, .int (nI nc), .int (nI rc)])), (fa, .inr (2, [.ref co, .int (nI gv), .int (nI ch), .int (nI dn)])), (co, .inl (cA, 8, .inl (aN fco)))]) hS hA hP hD [] [0, 1, 2] rfl rfl (by decide) (by decide) (va_runS (As := [.int (nI gv), .int xx]) (rest := []) ⟨hx, hb, hml, hown, hts⟩ (kX3_ithOf l D cA s.heap.size gv xx (by omega)) (va_cwS 2 hts gX3_lock_X3_ithOf rfl rfl rfl (by decide +kernel) ⟨Nat.le_of_ble_eq_true rfl, Nat.le_of_ble_eq_true rfl⟩) (zPreS (av := [.int (nI gv), .int xx]) (wc := []) hK hP hD [] rfl (by decide) rfl) rfl rfl hl.1 rfl (lv_room (Nat.le_of_ble_eq_true rfl)) dX3_lock_8 ⟨Nat.zero_le _, Nat.zero_le _⟩) (fun H locs hP hD hS => ?_)
  have hP : va_P D vwCl [(lc, .inr (5, [.ref ra, .ref sa, .ref fa, .ref ve, .ref lk, .ref jo, .ref ba, .ref ro, .int (nI nc), .int (nI rc)])), (fa, .inr (2, [.ref co, .int (nI gv), .int (nI ch), .int (nI dn)])), (co, .inl (cA, 8, .inl (aN fco)))] H := hP
  have hD : va_D A [(lc, .inr (5, [.ref ra, .ref sa, .ref fa, .ref ve, .ref lk, .ref jo, .ref ba, .ref ro, .int (nI nc), .int (nI rc)])), (fa, .inr (2, [.ref co, .int (nI gv), .int (nI ch), .int (nI dn)])), (co, .inl (cA, 8, .inl (aN fco)))] := hD
  refine lv_istore_n (lv' := [(3, .int (mI (ithL gv xx 8 0 0))), (0, .ref lc), (1, .int xx), (2, .int pw)]) hx hb dX3_lock_11 rfl hl (by decide) rfl (fun ls hl => ?_)
  refine lv_aload_n hx hb dX3_lock_12 rfl (lv_at hl 1 rfl) ?_
  refine lv_iload_n hx hb dX3_lock_13 rfl (lv_at hl 0 rfl) ?_
  refine zz_callI (av := []) (wc := [(lc, .inr (5, [.ref ra, .ref sa, .ref fa, .ref ve, .ref lk, .ref jo, .ref ba, .ref ro, .int (nI nc), .int (nI rc)]))]) (wr := [(fa, .inr (2, [.ref co, .int (nI gv), .int (nI ch), .int (nI dn)])), (co, .inl (cA, 8, .inl (aN fco)))]) hS hA hP hD [0] [1, 2] rfl rfl (by decide) (by decide) (va_runV (As := [.int (mI (ithL gv xx 8 0 0))]) (rest := []) ⟨hx, hb, hml, hown, hts⟩ (kX3_isName l D cA H.size lc ra sa fa ve lk jo ba ro nc rc (mI (ithL gv xx 8 0 0)) (by omega)) (cwV 1 hts gX3_lock_X3_isName rfl rfl rfl (by decide +kernel) ⟨Nat.le_of_ble_eq_true rfl, Nat.le_of_ble_eq_true rfl⟩) ⟨(zPreS (av := [.ref lc, .int (mI (ithL gv xx 8 0 0))]) (wc := [(lc, .inr (5, [.ref ra, .ref sa, .ref fa, .ref ve, .ref lk, .ref jo, .ref ba, .ref ro, .int (nI nc), .int (nI rc)]))]) hK hP hD [0] rfl (by decide) rfl).1, (va_recv hK.1 hP (ci := 5) (q0 := 0) rfl rfl), (zPreS (av := [.ref lc, .int (mI (ithL gv xx 8 0 0))]) (wc := [(lc, .inr (5, [.ref ra, .ref sa, .ref fa, .ref ve, .ref lk, .ref jo, .ref ba, .ref ro, .int (nI nc), .int (nI rc)]))]) hK hP hD [0] rfl (by decide) rfl).2⟩ rfl rfl hl.1 rfl (lv_room (Nat.le_of_ble_eq_true rfl)) dX3_lock_14 ⟨Nat.zero_le _, Nat.zero_le _⟩) (fun H locs hP hD hS => ?_)
  have hP : va_P D vwCl [(fa, .inr (2, [.ref co, .int (nI gv), .int (nI ch), .int (nI dn)])), (co, .inl (cA, 8, .inl (aN fco))), (lc, .inr (5, [.ref ra, .ref sa, .ref fa, .ref ve, .ref lk, .ref jo, .ref ba, .ref ro, .int (nI nc), .int (nI rc)]))] H := hP
  have hD : va_D A [(fa, .inr (2, [.ref co, .int (nI gv), .int (nI ch), .int (nI dn)])), (co, .inl (cA, 8, .inl (aN fco))), (lc, .inr (5, [.ref ra, .ref sa, .ref fa, .ref ve, .ref lk, .ref jo, .ref ba, .ref ro, .int (nI nc), .int (nI rc)]))] := hD
  have hP : va_P D vwCl [(lc, .inr (5, [.ref ra, .ref sa, .ref fa, .ref ve, .ref lk, .ref jo, .ref ba, .ref ro, .int (nI nc), .int (nI rc)])), (fa, .inr (2, [.ref co, .int (nI gv), .int (nI ch), .int (nI dn)])), (co, .inl (cA, 8, .inl (aN fco)))] H := hP.sub [2, 0, 1] rfl
  have hD : va_D A [(lc, .inr (5, [.ref ra, .ref sa, .ref fa, .ref ve, .ref lk, .ref jo, .ref ba, .ref ro, .int (nI nc), .int (nI rc)])), (fa, .inr (2, [.ref co, .int (nI gv), .int (nI ch), .int (nI dn)])), (co, .inl (cA, 8, .inl (aN fco)))] := hD.sub [2, 0, 1] (by decide) rfl
  refine nn_if_ne (tgt := 22) hx hb dX3_lock_17 (by decide) if01_lt (fun c_17 => ?_) (fun c_17 => ?_)
  · have c_17 := if01_ne c_17
    have hr8 : (ithL gv xx 8 0 0) ≤ 0 + 8 := ithL_le gv xx 8 0 0
    have hq := (isN_m (by omega) (by omega)).mp c_17
    have e3 := mI_pos hq.1
    have hl : lv_has ls 5 [(3, .int (nI ((ithL gv xx 8 0 0) - 1))), (0, .ref lc), (1, .int xx), (2, .int pw)] := by rw [← e3]; exact hl
    refine lv_aload_n hx hb dX3_lock_22 rfl (lv_at hl 1 rfl) ?_
    refine va_get (D := D) (ci := 5) (v := .ref fa) (C := RX3) (T := TX3) (N := 10) hx hb hts inX3_lock_X3 hown hK.1 hP 0 rfl rfl 2 (by decide) (hts _ lkX3_lock_28) (fun _ h9 => h9) rfl dX3_lock_23 ?_
    refine va_getN (D := D) (ci := 2) (v := .ref co) (C := RX0) (T := TX0) (N := 4) hx hb hts inX3_lock_X0 hown hK.1 hP 1 rfl rfl 0 (by decide) (va_Nw.use rfl (hK.2 _ nkX3_107)) (fun _ h9 => h9) rfl dX3_lock_26 ?_
    refine lv_iload_n hx hb dX3_lock_29 rfl (lv_at hl 0 rfl) ?_
    refine nn_ald hx hb hK hP 2 rfl (by omega) (by decide) dX3_lock_30 ?_
    refine zz_callI (av := []) (wc := []) (wr := [(lc, .inr (5, [.ref ra, .ref sa, .ref fa, .ref ve, .ref lk, .ref jo, .ref ba, .ref ro, .int (nI nc), .int (nI rc)])), (fa, .inr (2, [.ref co, .int (nI gv), .int (nI ch), .int (nI dn)])), (co, .inl (cA, 8, .inl (aN fco)))]) hS hA hP hD [] [0, 1, 2] rfl rfl (by decide) (by decide) (va_runS (As := [.int (nI (fco ((ithL gv xx 8 0 0) - 1)))]) (rest := []) ⟨hx, hb, hml, hown, hts⟩ (kX3_versionOf l D cA H.size (nI (fco ((ithL gv xx 8 0 0) - 1))) ) (va_cwS 1 hts gX3_lock_X3_versionOf rfl rfl rfl (by decide +kernel) ⟨Nat.le_of_ble_eq_true rfl, Nat.le_of_ble_eq_true rfl⟩) (zPreS (av := [.int (nI (fco ((ithL gv xx 8 0 0) - 1)))]) (wc := []) hK hP hD [] rfl (by decide) rfl) rfl rfl hl.1 rfl (lv_room (Nat.le_of_ble_eq_true rfl)) dX3_lock_31 ⟨Nat.zero_le _, Nat.zero_le _⟩) (fun H locs hP hD hS => ?_)
    have hP : va_P D vwCl [(lc, .inr (5, [.ref ra, .ref sa, .ref fa, .ref ve, .ref lk, .ref jo, .ref ba, .ref ro, .int (nI nc), .int (nI rc)])), (fa, .inr (2, [.ref co, .int (nI gv), .int (nI ch), .int (nI dn)])), (co, .inl (cA, 8, .inl (aN fco)))] H := hP
    have hD : va_D A [(lc, .inr (5, [.ref ra, .ref sa, .ref fa, .ref ve, .ref lk, .ref jo, .ref ba, .ref ro, .int (nI nc), .int (nI rc)])), (fa, .inr (2, [.ref co, .int (nI gv), .int (nI ch), .int (nI dn)])), (co, .inl (cA, 8, .inl (aN fco)))] := hD
    refine zz_top (y := (mI (fco ((ithL gv xx 8 0 0) - 1)))) rfl ?_
    refine lv_istore (lv' := [(4, .int (mI (fco ((ithL gv xx 8 0 0) - 1)))), (3, .int (nI ((ithL gv xx 8 0 0) - 1))), (0, .ref lc), (1, .int xx), (2, .int pw)]) hx hb dX3_lock_34 hl (by decide) rfl (fun ls hl => ?_)
    refine lv_iload_n hx hb dX3_lock_36 rfl (lv_at hl 4 rfl) ?_
    by_cases s0 : pw = 0
    · refine zz_top (y := 0) s0 ?_
      refine lv_tableIn (off := 31) (tgt := 68) hx hb dX3_lock_37 (by decide) (by decide) (by decide) (by decide) ?_
      refine lv_iload_n hx hb dX3_lock_68 rfl (lv_at hl 1 rfl) ?_
      exact W.iret (v := (nI ((ithL gv xx 8 0 0) - 1))) hx hb hr (fun t ht hW => ⟨⟨(nI ((ithL gv xx 8 0 0) - 1)), (), rfl, (by unfold lockF; (repeat' (first | rfl | contradiction | split))), by rw [ht]; exact hP, hD⟩, hS.F ht⟩) hS.2.2 dX3_lock_69
    · skip
      by_cases s1 : pw = 1
      · refine zz_top (y := 1) s1 ?_
        refine lv_tableIn (off := 33) (tgt := 70) hx hb dX3_lock_37 (by decide) (by decide) (by decide) (by decide) ?_
        refine lv_iload hx hb dX3_lock_70 (lv_at hl 0 rfl) ?_
        exact W.iret (v := (mI (fco ((ithL gv xx 8 0 0) - 1)))) hx hb hr (fun t ht hW => ⟨⟨(mI (fco ((ithL gv xx 8 0 0) - 1))), (), rfl, (by unfold lockF; (repeat' (first | rfl | contradiction | split))), by rw [ht]; exact hP, hD⟩, hS.F ht⟩) hS.2.2 dX3_lock_72
      · skip
        by_cases s2 : pw = 2
        · refine zz_top (y := 2) s2 ?_
          refine lv_tableIn (off := 36) (tgt := 73) hx hb dX3_lock_37 (by decide) (by decide) (by decide) (by decide) ?_
          refine lv_iload_n hx hb dX3_lock_73 rfl (lv_at hl 1 rfl) ?_
          refine lv_iload hx hb dX3_lock_74 (lv_at hl 0 rfl) ?_
          refine zz_callL (av := []) (wc := []) (wr := [(lc, .inr (5, [.ref ra, .ref sa, .ref fa, .ref ve, .ref lk, .ref jo, .ref ba, .ref ro, .int (nI nc), .int (nI rc)])), (fa, .inr (2, [.ref co, .int (nI gv), .int (nI ch), .int (nI dn)])), (co, .inl (cA, 8, .inl (aN fco)))]) hS hA hP hD [] [0, 1, 2] rfl rfl (by decide) (by decide) (va_runS (As := [.int (nI ((ithL gv xx 8 0 0) - 1)), .int (mI (fco ((ithL gv xx 8 0 0) - 1)))]) (rest := []) ⟨hx, hb, hml, hown, hts⟩ (kX3_digestOf l D cA H.size (nI ((ithL gv xx 8 0 0) - 1)) (mI (fco ((ithL gv xx 8 0 0) - 1))) ) (va_cwS 2 hts gX3_lock_X3_digestOf rfl rfl rfl (by decide +kernel) ⟨Nat.le_of_ble_eq_true rfl, Nat.le_of_ble_eq_true rfl⟩) (zPreS (av := [.int (nI ((ithL gv xx 8 0 0) - 1)), .int (mI (fco ((ithL gv xx 8 0 0) - 1)))]) (wc := []) hK hP hD [] rfl (by decide) rfl) rfl rfl hl.1 rfl (lv_room (Nat.le_of_ble_eq_true rfl)) dX3_lock_76 ⟨Nat.zero_le _, Nat.zero_le _⟩) (fun H locs hP hD hS => ?_)
          have hP : va_P D vwCl [(lc, .inr (5, [.ref ra, .ref sa, .ref fa, .ref ve, .ref lk, .ref jo, .ref ba, .ref ro, .int (nI nc), .int (nI rc)])), (fa, .inr (2, [.ref co, .int (nI gv), .int (nI ch), .int (nI dn)])), (co, .inl (cA, 8, .inl (aN fco)))] H := hP
          have hD : va_D A [(lc, .inr (5, [.ref ra, .ref sa, .ref fa, .ref ve, .ref lk, .ref jo, .ref ba, .ref ro, .int (nI nc), .int (nI rc)])), (fa, .inr (2, [.ref co, .int (nI gv), .int (nI ch), .int (nI dn)])), (co, .inl (cA, 8, .inl (aN fco)))] := hD
          refine lv_ldc2 (v := 2147483647) hx hb hown (hts _ clX3_lock_126) dX3_lock_79 ?_
          refine lv_lrem hx hb dX3_lock_82 (by decide) ?_
          refine lv_l2i hx hb dX3_lock_83 rfl ?_
          exact W.iret (v := (((dgN (nI ((ithL gv xx 8 0 0) - 1)) (mI (fco ((ithL gv xx 8 0 0) - 1)))) - (dgN (nI ((ithL gv xx 8 0 0) - 1)) (mI (fco ((ithL gv xx 8 0 0) - 1)))) / (2147483647 : Int64) * (2147483647 : Int64)).toInt32)) hx hb hr (fun t ht hW => ⟨⟨(((dgN (nI ((ithL gv xx 8 0 0) - 1)) (mI (fco ((ithL gv xx 8 0 0) - 1)))) - (dgN (nI ((ithL gv xx 8 0 0) - 1)) (mI (fco ((ithL gv xx 8 0 0) - 1)))) / (2147483647 : Int64) * (2147483647 : Int64)).toInt32), (), rfl, (by unfold lockF; (repeat' (first | rfl | contradiction | split))), by rw [ht]; exact hP, hD⟩, hS.F ht⟩) hS.2.2 dX3_lock_84
        · skip
          by_cases s3 : pw = 3
          · refine zz_top (y := 3) s3 ?_
            refine lv_tableIn (off := 48) (tgt := 85) hx hb dX3_lock_37 (by decide) (by decide) (by decide) (by decide) ?_
            refine lv_aload_n hx hb dX3_lock_85 rfl (lv_at hl 2 rfl) ?_
            refine va_get (D := D) (ci := 5) (v := .ref fa) (C := RX3) (T := TX3) (N := 10) hx hb hts inX3_lock_X3 hown hK.1 hP 0 rfl rfl 2 (by decide) (hts _ lkX3_lock_28) (fun _ h9 => h9) rfl dX3_lock_86 ?_
            refine va_getN (D := D) (ci := 2) (v := .int (nI ch)) (C := RX0) (T := TX0) (N := 4) hx hb hts inX3_lock_X0 hown hK.1 hP 1 rfl rfl 2 (by decide) (va_Nw.use rfl (hK.2 _ nkX3_128)) (fun _ h9 => h9) rfl dX3_lock_89 ?_
            refine lv_iload_n hx hb dX3_lock_92 rfl (lv_at hl 1 rfl) ?_
            refine nn_ishr hx hb (by omega) (by omega) dX3_lock_93 ?_
            refine lv_iconst (v := nI 1) hx hb dX3_lock_94 (by decide) ?_
            refine nn_iand hx hb dX3_lock_95 ?_
            exact W.iret (v := (nI ((ch >>> ((ithL gv xx 8 0 0) - 1)) &&& 1))) hx hb hr (fun t ht hW => ⟨⟨(nI ((ch >>> ((ithL gv xx 8 0 0) - 1)) &&& 1)), (), rfl, (by unfold lockF; (repeat' (first | rfl | contradiction | split))), by rw [ht]; exact hP, hD⟩, hS.F ht⟩) hS.2.2 dX3_lock_96
          · refine lv_tableOut (tgt := 97) hx hb dX3_lock_37 (sw4 s0 s1 s2 s3) (by decide) ?_
            refine lv_bipush (v := -2) hx hb dX3_lock_97 (by decide) ?_
            exact W.iret (v := (-2)) hx hb hr (fun t ht hW => ⟨⟨(-2), (), rfl, (by unfold lockF; (repeat' (first | rfl | contradiction | split))), by rw [ht]; exact hP, hD⟩, hS.F ht⟩) hS.2.2 dX3_lock_99
  · have c_17 := if01_eq c_17
    have hr8 : (ithL gv xx 8 0 0) ≤ 0 + 8 := ithL_le gv xx 8 0 0
    have hq : ¬ (0 < (ithL gv xx 8 0 0) ∧ (ithL gv xx 8 0 0) ≤ nc) := fun q => c_17 ((isN_m (by omega) (by omega)).mpr q)
    refine lv_iconst (v := -1) hx hb dX3_lock_20 (by decide) ?_
    exact W.iret (v := (-1)) hx hb hr (fun t ht hW => ⟨⟨(-1), (), rfl, (by unfold lockF; (repeat' (first | rfl | contradiction | split))), by rw [ht]; exact hP, hD⟩, hS.F ht⟩) hS.2.2 dX3_lock_21


def digF (xx : Int32) (dd : Int64) (nc : Nat) (fve flk fba : Nat → Nat) : Int64 × (Nat → Nat) :=
  if isN xx nc then (if flk (toN xx) = 0 then (-3, fba) else (if flk (toN xx) ≤ fve (toN xx) then (dgN (nI (toN xx)) (mI (flk (toN xx))), if lg_cmp dd (dgN (nI (toN xx)) (mI (flk (toN xx)))) = 0 then va_up fba (toN xx) ((fba (toN xx)) &&& ((1 <<< (flk (toN xx))) ^^^ 4294967295)) else va_up fba (toN xx) ((fba (toN xx)) ||| (1 <<< (flk (toN xx))))) else (-3, fba))) else (-1, fba)

theorem clX3_digest_131 : Cond.constantLong RX3 131 (-1) ∈ wsX3_digest := by decide +kernel
theorem clX3_digest_133 : Cond.constantLong RX3 133 (-3) ∈ wsX3_digest := by decide +kernel
theorem lkX3_digest_32 : Cond.fieldLink RX3 32 "LeastChange" "versions" "[I" ∈ wsX3_digest := by decide +kernel
theorem lkX3_digest_36 : Cond.fieldLink RX3 36 "LeastChange" "locked" "[I" ∈ wsX3_digest := by decide +kernel
theorem lkX3_digest_42 : Cond.fieldLink RX3 42 "LeastChange" "barred" "[I" ∈ wsX3_digest := by decide +kernel
theorem inX3_digest_X3 : ∀ w ∈ wsX30, w ∈ wsX3_digest := by decide +kernel
set_option maxHeartbeats 4000000 in
set_option maxRecDepth 100000 in
theorem kX3_digest (l : Launch) (D : va_G) (cA : ClassId) (sz : Nat) (lc : Nat) (ra : Nat) (sa : Nat) (fa : Nat) (ve : Nat) (lk : Nat) (jo : Nat) (ba : Nat) (ro : Nat) (nc : Nat) (rc : Nat) (fve : Nat → Nat) (flk : Nat → Nat) (fba : Nat → Nat) (xx : Int32) (dd : Int64) (hnc : nc ≤ 8) (hve : ∀ j, fve j ≤ 6) (hlk : ∀ j, flk j < 32) : zMl l yX3_digest wsX3_digest ({ frames := 1, cells := 0, slots := 0, locals := 21 }) D cA [.ref lc, .int xx, .long dd] sz [(lc, .inr (5, [.ref ra, .ref sa, .ref fa, .ref ve, .ref lk, .ref jo, .ref ba, .ref ro, .int (nI nc), .int (nI rc)])), (ve, .inl (cA, 8, .inl (aN fve))), (lk, .inl (cA, 8, .inl (aN flk))), (ba, .inl (cA, 8, .inl (aN fba)))] [(lc, .inr (5, [.ref ra, .ref sa, .ref fa, .ref ve, .ref lk, .ref jo, .ref ba, .ref ro, .int (nI nc), .int (nI rc)])), (ve, .inl (cA, 8, .inl (aN fve))), (lk, .inl (cA, 8, .inl (aN flk))), (ba, .inl (cA, 8, .inl (aN ((digF xx dd nc fve flk fba).2))))] ((digF xx dd nc fve flk fba).1) := by
  refine Met.ofW (cc := cX3_digest) (maxL := 7) (ret := (some .long)) (by decide) rfl ?_
  intro p e s m args below meth c s₁ B hml hv
  obtain ⟨rfl, hsz, hP, hK, hD0⟩ := hv
  have hx := B.exec
  have hb := B.bytes
  have hr := B.returns
  have hts := atoms_spec (ws := wsX3_digest) B.pre
  have hown : s.vm.findClass RX3 = some m.cls := findClass_of_methodNamed B.named
  have hlocks := B.notSynchronized
  subst hsz
  have hD := hD0.self (sz := s.heap.size)
  generalize hAe : va_A [(lc, .inr (5, [.ref ra, .ref sa, .ref fa, .ref ve, .ref lk, .ref jo, .ref ba, .ref ro, .int (nI nc), .int (nI rc)])), (ve, .inl (cA, 8, .inl (aN fve))), (lk, .inl (cA, 8, .inl (aN flk))), (ba, .inl (cA, 8, .inl (aN fba)))] s.heap.size = A at hD ⊢
  have hA : ∀ q : Nat, s.heap.size ≤ q → A q := fun q h => by rw [← hAe]; exact Or.inr h
  have hS : va_S A s.heap s.heap [] := va_S.rf
  have hP : va_P D vwCl [(lc, .inr (5, [.ref ra, .ref sa, .ref fa, .ref ve, .ref lk, .ref jo, .ref ba, .ref ro, .int (nI nc), .int (nI rc)])), (ve, .inl (cA, 8, .inl (aN fve))), (lk, .inl (cA, 8, .inl (aN flk))), (ba, .inl (cA, 8, .inl (aN fba)))] s.heap := hP
  have hl := lv_entry ([.ref lc, .int xx, .long dd]) (n := 7) (Nat.le_of_ble_eq_true rfl)
  rw [lg_entry_eq]
  generalize (lg_sl ([.ref lc, .int xx, .long dd]) ++ List.replicate (7 - (lg_sl ([.ref lc, .int xx, .long dd])).length) Slot.unset).toArray = ls at hl ⊢
  have hl : lv_has ls 7 [(0, .ref lc), (1, .int xx), (2, .long dd)] := hl
  refine lv_aload_n hx hb dX3_digest_0 rfl (lv_at hl 0 rfl) ?_
  refine lv_iload_n hx hb dX3_digest_1 rfl (lv_at hl 1 rfl) ?_
  refine zz_callI (av := []) (wc := [(lc, .inr (5, [.ref ra, .ref sa, .ref fa, .ref ve, .ref lk, .ref jo, .ref ba, .ref ro, .int (nI nc), .int (nI rc)]))]) (wr := [(ve, .inl (cA, 8, .inl (aN fve))), (lk, .inl (cA, 8, .inl (aN flk))), (ba, .inl (cA, 8, .inl (aN fba)))]) hS hA hP hD [0] [1, 2, 3] rfl rfl (by decide) (by decide) (va_runV (As := [.int xx]) (rest := []) ⟨hx, hb, hml, hown, hts⟩ (kX3_isName l D cA s.heap.size lc ra sa fa ve lk jo ba ro nc rc xx (by omega)) (cwV 1 hts gX3_digest_X3_isName rfl rfl rfl (by decide +kernel) ⟨Nat.le_of_ble_eq_true rfl, Nat.le_of_ble_eq_true rfl⟩) ⟨(zPreS (av := [.ref lc, .int xx]) (wc := [(lc, .inr (5, [.ref ra, .ref sa, .ref fa, .ref ve, .ref lk, .ref jo, .ref ba, .ref ro, .int (nI nc), .int (nI rc)]))]) hK hP hD [0] rfl (by decide) rfl).1, (va_recv hK.1 hP (ci := 5) (q0 := 0) rfl rfl), (zPreS (av := [.ref lc, .int xx]) (wc := [(lc, .inr (5, [.ref ra, .ref sa, .ref fa, .ref ve, .ref lk, .ref jo, .ref ba, .ref ro, .int (nI nc), .int (nI rc)]))]) hK hP hD [0] rfl (by decide) rfl).2⟩ rfl rfl hl.1 rfl (lv_room (Nat.le_of_ble_eq_true rfl)) dX3_digest_2 ⟨Nat.zero_le _, Nat.zero_le _⟩) (fun H locs hP hD hS => ?_)
  have hP : va_P D vwCl [(ve, .inl (cA, 8, .inl (aN fve))), (lk, .inl (cA, 8, .inl (aN flk))), (ba, .inl (cA, 8, .inl (aN fba))), (lc, .inr (5, [.ref ra, .ref sa, .ref fa, .ref ve, .ref lk, .ref jo, .ref ba, .ref ro, .int (nI nc), .int (nI rc)]))] H := hP
  have hD : va_D A [(ve, .inl (cA, 8, .inl (aN fve))), (lk, .inl (cA, 8, .inl (aN flk))), (ba, .inl (cA, 8, .inl (aN fba))), (lc, .inr (5, [.ref ra, .ref sa, .ref fa, .ref ve, .ref lk, .ref jo, .ref ba, .ref ro, .int (nI nc), .int (nI rc)]))] := hD
  have hP : va_P D vwCl [(lc, .inr (5, [.ref ra, .ref sa, .ref fa, .ref ve, .ref lk, .ref jo, .ref ba, .ref ro, .int (nI nc), .int (nI rc)])), (ve, .inl (cA, 8, .inl (aN fve))), (lk, .inl (cA, 8, .inl (aN flk))), (ba, .inl (cA, 8, .inl (aN fba)))] H := hP.sub [3, 0, 1, 2] rfl
  have hD : va_D A [(lc, .inr (5, [.ref ra, .ref sa, .ref fa, .ref ve, .ref lk, .ref jo, .ref ba, .ref ro, .int (nI nc), .int (nI rc)])), (ve, .inl (cA, 8, .inl (aN fve))), (lk, .inl (cA, 8, .inl (aN flk))), (ba, .inl (cA, 8, .inl (aN fba)))] := hD.sub [3, 0, 1, 2] (by decide) rfl
  refine nn_if_ne (tgt := 12) hx hb dX3_digest_5 (by decide) if01_lt (fun c_5 => ?_) (fun c_5 => ?_)
  · have c_5 := if01_ne c_5
    have e1 := toN_eq (c_5).1
    have b1 : toN xx < nc := isN_lt (by omega) c_5
    have hl : lv_has ls 7 [(0, .ref lc), (1, .int (nI (toN xx))), (2, .long dd)] := by rw [← e1]; exact hl
    refine lv_aload_n hx hb dX3_digest_12 rfl (lv_at hl 0 rfl) ?_
    refine va_get (D := D) (ci := 5) (v := .ref lk) (C := RX3) (T := TX3) (N := 10) hx hb hts inX3_digest_X3 hown hK.1 hP 0 rfl rfl 4 (by decide) (hts _ lkX3_digest_36) (fun _ h9 => h9) rfl dX3_digest_13 ?_
    refine lv_iload_n hx hb dX3_digest_16 rfl (lv_at hl 1 rfl) ?_
    refine nn_ald hx hb hK hP 2 rfl (by omega) (by decide) dX3_digest_17 ?_
    refine lv_istore (lv' := [(4, .int (nI (flk (toN xx)))), (0, .ref lc), (1, .int (nI (toN xx))), (2, .long dd)]) hx hb dX3_digest_18 hl (by decide) rfl (fun ls hl => ?_)
    refine lv_iload hx hb dX3_digest_20 (lv_at hl 0 rfl) ?_
    refine nn_if_eq (tgt := 36) hx hb dX3_digest_22 (by decide) (Nat.lt_trans (hlk _) (by decide)) (fun c_22 => ?_) (fun c_22 => ?_)
    · refine lv_ldc2 (v := (-3)) hx hb hown (hts _ clX3_digest_133) dX3_digest_36 ?_
      have eF : (digF xx dd nc fve flk fba) = ((-3 : Int64), fba) := by unfold digF; (repeat' (first | rfl | contradiction | split))
      have eW : ([(lc, .inr (5, [.ref ra, .ref sa, .ref fa, .ref ve, .ref lk, .ref jo, .ref ba, .ref ro, .int (nI nc), .int (nI rc)])), (ve, .inl (cA, 8, .inl (aN fve))), (lk, .inl (cA, 8, .inl (aN flk))), (ba, .inl (cA, 8, .inl (aN fba)))] : va_W) = [(lc, .inr (5, [.ref ra, .ref sa, .ref fa, .ref ve, .ref lk, .ref jo, .ref ba, .ref ro, .int (nI nc), .int (nI rc)])), (ve, .inl (cA, 8, .inl (aN fve))), (lk, .inl (cA, 8, .inl (aN flk))), (ba, .inl (cA, 8, .inl (aN ((digF xx dd nc fve flk fba).2))))] := by rw [eF]
      rw [eW] at hP hD
      exact W.lret (v := (-3 : Int64)) hx hb hr (fun t ht hW => ⟨⟨(-3 : Int64), (), rfl, (by rw [eF]), by rw [ht]; exact hP, hD⟩, hS.F ht⟩) hS.2.2 dX3_digest_39
    · refine lv_iload hx hb dX3_digest_25 (lv_at hl 0 rfl) ?_
      refine lv_aload_n hx hb dX3_digest_27 rfl (lv_at hl 1 rfl) ?_
      refine va_get (D := D) (ci := 5) (v := .ref ve) (C := RX3) (T := TX3) (N := 10) hx hb hts inX3_digest_X3 hown hK.1 hP 0 rfl rfl 3 (by decide) (hts _ lkX3_digest_32) (fun _ h9 => h9) rfl dX3_digest_28 ?_
      refine lv_iload_n hx hb dX3_digest_31 rfl (lv_at hl 2 rfl) ?_
      refine nn_ald hx hb hK hP 1 rfl (by omega) (by decide) dX3_digest_32 ?_
      refine nn_icmp_le (tgt := 40) hx hb dX3_digest_33 (by decide) (Nat.lt_trans (hlk _) (by decide)) (Nat.lt_of_le_of_lt (hve _) (by decide)) (fun c_33 => ?_) (fun c_33 => ?_)
      · refine lv_iload_n hx hb dX3_digest_40 rfl (lv_at hl 2 rfl) ?_
        refine lv_iload hx hb dX3_digest_41 (lv_at hl 0 rfl) ?_
        refine zz_callI (av := []) (wc := []) (wr := [(lc, .inr (5, [.ref ra, .ref sa, .ref fa, .ref ve, .ref lk, .ref jo, .ref ba, .ref ro, .int (nI nc), .int (nI rc)])), (ve, .inl (cA, 8, .inl (aN fve))), (lk, .inl (cA, 8, .inl (aN flk))), (ba, .inl (cA, 8, .inl (aN fba)))]) hS hA hP hD [] [0, 1, 2, 3] rfl rfl (by decide) (by decide) (va_runS (As := [.int (nI (flk (toN xx)))]) (rest := [.int (nI (toN xx))]) ⟨hx, hb, hml, hown, hts⟩ (kX3_versionOf l D cA H.size (nI (flk (toN xx))) ) (va_cwS 1 hts gX3_digest_X3_versionOf rfl rfl rfl (by decide +kernel) ⟨Nat.le_of_ble_eq_true rfl, Nat.le_of_ble_eq_true rfl⟩) (zPreS (av := [.int (nI (flk (toN xx)))]) (wc := []) hK hP hD [] rfl (by decide) rfl) rfl rfl hl.1 rfl (lv_room (Nat.le_of_ble_eq_true rfl)) dX3_digest_43 ⟨Nat.zero_le _, Nat.zero_le _⟩) (fun H locs hP hD hS => ?_)
        have hP : va_P D vwCl [(lc, .inr (5, [.ref ra, .ref sa, .ref fa, .ref ve, .ref lk, .ref jo, .ref ba, .ref ro, .int (nI nc), .int (nI rc)])), (ve, .inl (cA, 8, .inl (aN fve))), (lk, .inl (cA, 8, .inl (aN flk))), (ba, .inl (cA, 8, .inl (aN fba)))] H := hP
        have hD : va_D A [(lc, .inr (5, [.ref ra, .ref sa, .ref fa, .ref ve, .ref lk, .ref jo, .ref ba, .ref ro, .int (nI nc), .int (nI rc)])), (ve, .inl (cA, 8, .inl (aN fve))), (lk, .inl (cA, 8, .inl (aN flk))), (ba, .inl (cA, 8, .inl (aN fba)))] := hD
        refine zz_top (y := (mI (flk (toN xx)))) rfl ?_
        refine zz_callL (av := []) (wc := []) (wr := [(lc, .inr (5, [.ref ra, .ref sa, .ref fa, .ref ve, .ref lk, .ref jo, .ref ba, .ref ro, .int (nI nc), .int (nI rc)])), (ve, .inl (cA, 8, .inl (aN fve))), (lk, .inl (cA, 8, .inl (aN flk))), (ba, .inl (cA, 8, .inl (aN fba)))]) hS hA hP hD [] [0, 1, 2, 3] rfl rfl (by decide) (by decide) (va_runS (As := [.int (nI (toN xx)), .int (mI (flk (toN xx)))]) (rest := []) ⟨hx, hb, hml, hown, hts⟩ (kX3_digestOf l D cA H.size (nI (toN xx)) (mI (flk (toN xx))) ) (va_cwS 2 hts gX3_digest_X3_digestOf rfl rfl rfl (by decide +kernel) ⟨Nat.le_of_ble_eq_true rfl, Nat.le_of_ble_eq_true rfl⟩) (zPreS (av := [.int (nI (toN xx)), .int (mI (flk (toN xx)))]) (wc := []) hK hP hD [] rfl (by decide) rfl) rfl rfl hl.1 rfl (lv_room (Nat.le_of_ble_eq_true rfl)) dX3_digest_46 ⟨Nat.zero_le _, Nat.zero_le _⟩) (fun H locs hP hD hS => ?_)
        have hP : va_P D vwCl [(lc, .inr (5, [.ref ra, .ref sa, .ref fa, .ref ve, .ref lk, .ref jo, .ref ba, .ref ro, .int (nI nc), .int (nI rc)])), (ve, .inl (cA, 8, .inl (aN fve))), (lk, .inl (cA, 8, .inl (aN flk))), (ba, .inl (cA, 8, .inl (aN fba)))] H := hP
        have hD : va_D A [(lc, .inr (5, [.ref ra, .ref sa, .ref fa, .ref ve, .ref lk, .ref jo, .ref ba, .ref ro, .int (nI nc), .int (nI rc)])), (ve, .inl (cA, 8, .inl (aN fve))), (lk, .inl (cA, 8, .inl (aN flk))), (ba, .inl (cA, 8, .inl (aN fba)))] := hD
        refine lv_lstore (lv' := [(5, .long (dgN (nI (toN xx)) (mI (flk (toN xx))))), (4, .int (nI (flk (toN xx)))), (0, .ref lc), (1, .int (nI (toN xx))), (2, .long dd)]) hx hb dX3_digest_49 hl (by decide) rfl (fun ls hl => ?_)
        refine lv_lload_n hx hb dX3_digest_51 rfl (lv_at hl 4 rfl) ?_
        refine lv_lload hx hb dX3_digest_52 (lv_at hl 0 rfl) ?_
        refine W.lcmp hx hb dX3_digest_54 ?_
        refine lv_if_ne (tgt := 76) hx hb dX3_digest_55 (by decide) (fun c_55 => ?_) (fun c_55 => ?_)
        · refine lv_aload_n hx hb dX3_digest_76 rfl (lv_at hl 2 rfl) ?_
          refine va_get (D := D) (ci := 5) (v := .ref ba) (C := RX3) (T := TX3) (N := 10) hx hb hts inX3_digest_X3 hown hK.1 hP 0 rfl rfl 6 (by decide) (hts _ lkX3_digest_42) (fun _ h9 => h9) rfl dX3_digest_77 ?_
          refine lv_iload_n hx hb dX3_digest_80 rfl (lv_at hl 3 rfl) ?_
          refine lv_dup2_11 hx hb dX3_digest_81 rfl rfl ?_
          refine nn_ald hx hb hK hP 3 rfl (by omega) (by decide) dX3_digest_82 ?_
          refine lv_iconst (v := nI 1) hx hb dX3_digest_83 (by decide) ?_
          refine lv_iload hx hb dX3_digest_84 (lv_at hl 1 rfl) ?_
          refine nn_ishl hx hb (hlk _) dX3_digest_86 ?_
          refine nn_ior hx hb dX3_digest_87 ?_
          refine nn_ast hx hb hK hP hD hS 3 rfl (by omega) (by decide) dX3_digest_88 (fun H locs hP hD hS => ?_)
          have hP : va_P D vwCl [(lc, .inr (5, [.ref ra, .ref sa, .ref fa, .ref ve, .ref lk, .ref jo, .ref ba, .ref ro, .int (nI nc), .int (nI rc)])), (ve, .inl (cA, 8, .inl (aN fve))), (lk, .inl (cA, 8, .inl (aN flk))), (ba, .inl (cA, 8, .inl (aN (va_up fba (toN xx) ((fba (toN xx)) ||| (1 <<< (flk (toN xx))))))))] H := hP
          have hD : va_D A [(lc, .inr (5, [.ref ra, .ref sa, .ref fa, .ref ve, .ref lk, .ref jo, .ref ba, .ref ro, .int (nI nc), .int (nI rc)])), (ve, .inl (cA, 8, .inl (aN fve))), (lk, .inl (cA, 8, .inl (aN flk))), (ba, .inl (cA, 8, .inl (aN (va_up fba (toN xx) ((fba (toN xx)) ||| (1 <<< (flk (toN xx))))))))] := hD
          refine lv_lload hx hb dX3_digest_89 (lv_at hl 0 rfl) ?_
          have eF : (digF xx dd nc fve flk fba) = (dgN (nI (toN xx)) (mI (flk (toN xx))), va_up fba (toN xx) ((fba (toN xx)) ||| (1 <<< (flk (toN xx))))) := by unfold digF; (repeat' (first | rfl | contradiction | split))
          have eW : ([(lc, .inr (5, [.ref ra, .ref sa, .ref fa, .ref ve, .ref lk, .ref jo, .ref ba, .ref ro, .int (nI nc), .int (nI rc)])), (ve, .inl (cA, 8, .inl (aN fve))), (lk, .inl (cA, 8, .inl (aN flk))), (ba, .inl (cA, 8, .inl (aN (va_up fba (toN xx) ((fba (toN xx)) ||| (1 <<< (flk (toN xx))))))))] : va_W) = [(lc, .inr (5, [.ref ra, .ref sa, .ref fa, .ref ve, .ref lk, .ref jo, .ref ba, .ref ro, .int (nI nc), .int (nI rc)])), (ve, .inl (cA, 8, .inl (aN fve))), (lk, .inl (cA, 8, .inl (aN flk))), (ba, .inl (cA, 8, .inl (aN ((digF xx dd nc fve flk fba).2))))] := by rw [eF]
          rw [eW] at hP hD
          exact W.lret (v := (dgN (nI (toN xx)) (mI (flk (toN xx))))) hx hb hr (fun t ht hW => ⟨⟨(dgN (nI (toN xx)) (mI (flk (toN xx)))), (), rfl, (by rw [eF]), by rw [ht]; exact hP, hD⟩, hS.F ht⟩) hS.2.2 dX3_digest_91
        · refine lv_aload_n hx hb dX3_digest_58 rfl (lv_at hl 2 rfl) ?_
          refine va_get (D := D) (ci := 5) (v := .ref ba) (C := RX3) (T := TX3) (N := 10) hx hb hts inX3_digest_X3 hown hK.1 hP 0 rfl rfl 6 (by decide) (hts _ lkX3_digest_42) (fun _ h9 => h9) rfl dX3_digest_59 ?_
          refine lv_iload_n hx hb dX3_digest_62 rfl (lv_at hl 3 rfl) ?_
          refine lv_dup2_11 hx hb dX3_digest_63 rfl rfl ?_
          refine nn_ald hx hb hK hP 3 rfl (by omega) (by decide) dX3_digest_64 ?_
          refine lv_iconst (v := nI 1) hx hb dX3_digest_65 (by decide) ?_
          refine lv_iload hx hb dX3_digest_66 (lv_at hl 1 rfl) ?_
          refine nn_ishl hx hb (hlk _) dX3_digest_68 ?_
          refine lv_iconst (v := -1) hx hb dX3_digest_69 (by decide) ?_
          refine nn_inot hx hb dX3_digest_70 ?_
          refine nn_iand hx hb dX3_digest_71 ?_
          refine nn_ast hx hb hK hP hD hS 3 rfl (by omega) (by decide) dX3_digest_72 (fun H locs hP hD hS => ?_)
          have hP : va_P D vwCl [(lc, .inr (5, [.ref ra, .ref sa, .ref fa, .ref ve, .ref lk, .ref jo, .ref ba, .ref ro, .int (nI nc), .int (nI rc)])), (ve, .inl (cA, 8, .inl (aN fve))), (lk, .inl (cA, 8, .inl (aN flk))), (ba, .inl (cA, 8, .inl (aN (va_up fba (toN xx) ((fba (toN xx)) &&& ((1 <<< (flk (toN xx))) ^^^ 4294967295))))))] H := hP
          have hD : va_D A [(lc, .inr (5, [.ref ra, .ref sa, .ref fa, .ref ve, .ref lk, .ref jo, .ref ba, .ref ro, .int (nI nc), .int (nI rc)])), (ve, .inl (cA, 8, .inl (aN fve))), (lk, .inl (cA, 8, .inl (aN flk))), (ba, .inl (cA, 8, .inl (aN (va_up fba (toN xx) ((fba (toN xx)) &&& ((1 <<< (flk (toN xx))) ^^^ 4294967295))))))] := hD
          refine lv_goto (tgt := 89) hx hb dX3_digest_73 (by decide) ?_
          refine lv_lload hx hb dX3_digest_89 (lv_at hl 0 rfl) ?_
          have eF : (digF xx dd nc fve flk fba) = (dgN (nI (toN xx)) (mI (flk (toN xx))), va_up fba (toN xx) ((fba (toN xx)) &&& ((1 <<< (flk (toN xx))) ^^^ 4294967295))) := by unfold digF; (repeat' (first | rfl | contradiction | split))
          have eW : ([(lc, .inr (5, [.ref ra, .ref sa, .ref fa, .ref ve, .ref lk, .ref jo, .ref ba, .ref ro, .int (nI nc), .int (nI rc)])), (ve, .inl (cA, 8, .inl (aN fve))), (lk, .inl (cA, 8, .inl (aN flk))), (ba, .inl (cA, 8, .inl (aN (va_up fba (toN xx) ((fba (toN xx)) &&& ((1 <<< (flk (toN xx))) ^^^ 4294967295))))))] : va_W) = [(lc, .inr (5, [.ref ra, .ref sa, .ref fa, .ref ve, .ref lk, .ref jo, .ref ba, .ref ro, .int (nI nc), .int (nI rc)])), (ve, .inl (cA, 8, .inl (aN fve))), (lk, .inl (cA, 8, .inl (aN flk))), (ba, .inl (cA, 8, .inl (aN ((digF xx dd nc fve flk fba).2))))] := by rw [eF]
          rw [eW] at hP hD
          exact W.lret (v := (dgN (nI (toN xx)) (mI (flk (toN xx))))) hx hb hr (fun t ht hW => ⟨⟨(dgN (nI (toN xx)) (mI (flk (toN xx)))), (), rfl, (by rw [eF]), by rw [ht]; exact hP, hD⟩, hS.F ht⟩) hS.2.2 dX3_digest_91
      · refine lv_ldc2 (v := (-3)) hx hb hown (hts _ clX3_digest_133) dX3_digest_36 ?_
        have eF : (digF xx dd nc fve flk fba) = ((-3 : Int64), fba) := by unfold digF; (repeat' (first | rfl | contradiction | split))
        have eW : ([(lc, .inr (5, [.ref ra, .ref sa, .ref fa, .ref ve, .ref lk, .ref jo, .ref ba, .ref ro, .int (nI nc), .int (nI rc)])), (ve, .inl (cA, 8, .inl (aN fve))), (lk, .inl (cA, 8, .inl (aN flk))), (ba, .inl (cA, 8, .inl (aN fba)))] : va_W) = [(lc, .inr (5, [.ref ra, .ref sa, .ref fa, .ref ve, .ref lk, .ref jo, .ref ba, .ref ro, .int (nI nc), .int (nI rc)])), (ve, .inl (cA, 8, .inl (aN fve))), (lk, .inl (cA, 8, .inl (aN flk))), (ba, .inl (cA, 8, .inl (aN ((digF xx dd nc fve flk fba).2))))] := by rw [eF]
        rw [eW] at hP hD
        exact W.lret (v := (-3 : Int64)) hx hb hr (fun t ht hW => ⟨⟨(-3 : Int64), (), rfl, (by rw [eF]), by rw [ht]; exact hP, hD⟩, hS.F ht⟩) hS.2.2 dX3_digest_39
  · have c_5 := if01_eq c_5
    refine lv_ldc2 (v := (-1)) hx hb hown (hts _ clX3_digest_131) dX3_digest_8 ?_
    have eF : (digF xx dd nc fve flk fba) = ((-1 : Int64), fba) := by unfold digF; (repeat' (first | rfl | contradiction | split))
    have eW : ([(lc, .inr (5, [.ref ra, .ref sa, .ref fa, .ref ve, .ref lk, .ref jo, .ref ba, .ref ro, .int (nI nc), .int (nI rc)])), (ve, .inl (cA, 8, .inl (aN fve))), (lk, .inl (cA, 8, .inl (aN flk))), (ba, .inl (cA, 8, .inl (aN fba)))] : va_W) = [(lc, .inr (5, [.ref ra, .ref sa, .ref fa, .ref ve, .ref lk, .ref jo, .ref ba, .ref ro, .int (nI nc), .int (nI rc)])), (ve, .inl (cA, 8, .inl (aN fve))), (lk, .inl (cA, 8, .inl (aN flk))), (ba, .inl (cA, 8, .inl (aN ((digF xx dd nc fve flk fba).2))))] := by rw [eF]
    rw [eW] at hP hD
    exact W.lret (v := (-1 : Int64)) hx hb hr (fun t ht hW => ⟨⟨(-1 : Int64), (), rfl, (by rw [eF]), by rw [ht]; exact hP, hD⟩, hS.F ht⟩) hS.2.2 dX3_digest_11


def wtBody (nc : Nat) : Nat → (Nat × Nat) → Nat × Nat := fun t y => (y.1 * (nc - t + 1) / t, y.2 + y.1 * (nc - t + 1) / t)
def wtF (nc mo : Nat) : Nat := (zlp (wtBody nc) mo 1 (1, 1)).2
theorem wt_b {a nc t k : Nat} (h : a * 8 ^ (k + 1) ≤ 16777216) (hn : nc ≤ 8) (ht : 1 ≤ t) (htn : t ≤ nc) : a * (nc - t + 1) < 2147483648 ∧ a * (nc - t + 1) / t * 8 ^ k ≤ 16777216 := by
  have h1 : a * (nc - t + 1) ≤ a * 8 := Nat.mul_le_mul (Nat.le_refl _) (by omega)
  have h2 : a ≤ a * 8 ^ (k + 1) := Nat.le_mul_of_pos_right _ (Nat.pow_pos (by decide))
  refine ⟨by omega, ?_⟩
  have h3 : a * (nc - t + 1) / t ≤ a * 8 := Nat.le_trans (Nat.div_le_self _ _) h1
  have h4 : a * (nc - t + 1) / t * 8 ^ k ≤ a * 8 * 8 ^ k := Nat.mul_le_mul h3 (Nat.le_refl _)
  have h5 : a * 8 * 8 ^ k = a * 8 ^ (k + 1) := by rw [Nat.pow_succ, Nat.mul_assoc, Nat.mul_comm 8]
  omega

theorem lkX3_waysToTry_48 : Cond.fieldLink RX3 48 "LeastChange" "nameCount" "I" ∈ wsX3_waysToTry := by decide +kernel
theorem inX3_waysToTry_X3 : ∀ w ∈ wsX30, w ∈ wsX3_waysToTry := by decide +kernel
set_option maxHeartbeats 4000000 in
set_option maxRecDepth 100000 in
theorem bX3_ways {p : Program} {l : Launch} {e : Env} {R : Room} {s : State} {m : MethodId} {args : Array Value} {below : List Frame} {meth : Method} {c : Code} {Q : State → Prop} {A : Nat → Prop} {H0 : Heap} {D : va_G} {cA : ClassId} (hx : p.tables.exec = Jvm.exec) (hb : c.code = cX3_waysToTry) (hml : c.maxLocals = 5) (hown : s.vm.findClass RX3 = some m.cls) (hts : ∀ w ∈ wsX3_waysToTry, w.before args s = true) (hK : zK D cA s) (hA : ∀ q, H0.size ≤ q → A q) (lc : Nat) (ra : Nat) (sa : Nat) (fa : Nat) (ve : Nat) (lk : Nat) (jo : Nat) (ba : Nat) (ro : Nat) (nc : Nat) (rc : Nat) (mo : Nat) (hnc : nc ≤ 8) (hmo : mo ≤ nc) : ∀ (k : Nat) (t : Nat) (y : Nat × Nat), (t + k = mo + 1) → (1 ≤ t) → (y.1 * 8 ^ k ≤ 16777216) → ∀ (H : Heap) (locs : List Loc) (ls : Array Slot), va_P D vwCl [(lc, .inr (5, [.ref ra, .ref sa, .ref fa, .ref ve, .ref lk, .ref jo, .ref ba, .ref ro, .int (nI nc), .int (nI rc)]))] H → va_D A [(lc, .inr (5, [.ref ra, .ref sa, .ref fa, .ref ve, .ref lk, .ref jo, .ref ba, .ref ro, .int (nI nc), .int (nI rc)]))] → va_S A H0 H locs → lv_has ls 5 [(0, .ref lc), (1, .int (nI mo)), (2, .int (nI y.2)), (3, .int (nI y.1)), (4, .int (nI t))] → (∀ (H : Heap) (locs : List Loc) (ls : Array Slot), va_P D vwCl [(lc, .inr (5, [.ref ra, .ref sa, .ref fa, .ref ve, .ref lk, .ref jo, .ref ba, .ref ro, .int (nI nc), .int (nI rc)]))] H → va_D A [(lc, .inr (5, [.ref ra, .ref sa, .ref fa, .ref ve, .ref lk, .ref jo, .ref ba, .ref ro, .int (nI nc), .int (nI rc)]))] → va_S A H0 H locs → lv_has ls 5 [(0, .ref lc), (2, .int (nI ((zlp (wtBody nc) k t y).2)))] → W p l e R s m args below meth c H locs 0 0 Q (F0 m 38 ls [])) → W p l e R s m args below meth c H locs 0 0 Q (F0 m 7 ls []) := by
  intro k
  induction k with
  | zero =>
    intro t y hi ht hw H locs ls hP hD hS hl kk
    refine lv_iload hx hb dX3_waysToTry_7 (lv_at hl 4 rfl) ?_
    refine lv_iload_n hx hb dX3_waysToTry_9 rfl (lv_at hl 1 rfl) ?_
    refine nn_icmp_gt (tgt := 38) hx hb dX3_waysToTry_10 (by decide) (by omega) (by omega) (fun c_10 => ?_) (fun c_10 => ?_)
    · exact kk _ _ _ hP hD hS (lv_sub hl [0, 2] rfl)
    · exfalso; omega
  | succ k ih =>
    intro t y hi ht hw H locs ls hP hD hS hl kk
    refine lv_iload hx hb dX3_waysToTry_7 (lv_at hl 4 rfl) ?_
    refine lv_iload_n hx hb dX3_waysToTry_9 rfl (lv_at hl 1 rfl) ?_
    refine nn_icmp_gt (tgt := 38) hx hb dX3_waysToTry_10 (by decide) (by omega) (by omega) (fun c_10 => ?_) (fun c_10 => ?_)
    · exfalso; omega
    · refine lv_iload_n hx hb dX3_waysToTry_13 rfl (lv_at hl 3 rfl) ?_
      refine lv_aload_n hx hb dX3_waysToTry_14 rfl (lv_at hl 0 rfl) ?_
      refine va_get (D := D) (ci := 5) (v := .int (nI nc)) (C := RX3) (T := TX3) (N := 10) hx hb hts inX3_waysToTry_X3 hown hK.1 hP 0 rfl rfl 8 (by decide) (hts _ lkX3_waysToTry_48) (fun _ h9 => h9) rfl dX3_waysToTry_15 ?_
      refine lv_iload hx hb dX3_waysToTry_18 (lv_at hl 4 rfl) ?_
      refine nn_isub hx hb (by omega) dX3_waysToTry_20 ?_
      refine lv_iconst (v := nI 1) hx hb dX3_waysToTry_21 (by decide) ?_
      refine nn_iadd hx hb dX3_waysToTry_22 ?_
      refine nn_imul hx hb dX3_waysToTry_23 ?_
      refine lv_iload hx hb dX3_waysToTry_24 (lv_at hl 4 rfl) ?_
      refine nn_idiv hx hb (wt_b hw hnc ht (by omega)).1 (by omega) (by omega) dX3_waysToTry_26 ?_
      refine lv_istore_n (lv' := [(3, .int (nI ((y.1 * ((nc - t) + 1)) / t))), (0, .ref lc), (1, .int (nI mo)), (2, .int (nI y.2)), (4, .int (nI t))]) hx hb dX3_waysToTry_27 rfl hl (by decide) rfl (fun ls hl => ?_)
      refine lv_iload_n hx hb dX3_waysToTry_28 rfl (lv_at hl 3 rfl) ?_
      refine lv_iload_n hx hb dX3_waysToTry_29 rfl (lv_at hl 0 rfl) ?_
      refine nn_iadd hx hb dX3_waysToTry_30 ?_
      refine lv_istore_n (lv' := [(2, .int (nI (y.2 + ((y.1 * ((nc - t) + 1)) / t)))), (3, .int (nI ((y.1 * ((nc - t) + 1)) / t))), (0, .ref lc), (1, .int (nI mo)), (4, .int (nI t))]) hx hb dX3_waysToTry_31 rfl hl (by decide) rfl (fun ls hl => ?_)
      refine lv_iinc (v := (nI (t + 1))) (lv' := [(4, .int (nI (t + 1))), (2, .int (nI (y.2 + ((y.1 * ((nc - t) + 1)) / t)))), (3, .int (nI ((y.1 * ((nc - t) + 1)) / t))), (0, .ref lc), (1, .int (nI mo))]) hx hb dX3_waysToTry_32 hl (k := 4) rfl (nI_add _ _) (by decide) rfl (fun ls hl => ?_)
      refine lv_goto (tgt := 7) hx hb dX3_waysToTry_35 (by decide) ?_
      exact ih (t + 1) (wtBody nc t y) (by omega) (by omega) (wt_b hw hnc ht (by omega)).2 _ _ _ hP hD hS (lv_sub hl [3, 4, 1, 2, 0] rfl) kk

set_option maxHeartbeats 4000000 in
set_option maxRecDepth 100000 in
theorem kX3_waysToTry (l : Launch) (D : va_G) (cA : ClassId) (sz : Nat) (lc : Nat) (ra : Nat) (sa : Nat) (fa : Nat) (ve : Nat) (lk : Nat) (jo : Nat) (ba : Nat) (ro : Nat) (nc : Nat) (rc : Nat) (mo : Nat) (hnc : nc ≤ 8) (hmo : mo ≤ nc) : zMi l yX3_waysToTry wsX3_waysToTry ({ frames := 0, cells := 0, slots := 0, locals := 0 }) D cA [.ref lc, .int (nI mo)] sz [(lc, .inr (5, [.ref ra, .ref sa, .ref fa, .ref ve, .ref lk, .ref jo, .ref ba, .ref ro, .int (nI nc), .int (nI rc)]))] [(lc, .inr (5, [.ref ra, .ref sa, .ref fa, .ref ve, .ref lk, .ref jo, .ref ba, .ref ro, .int (nI nc), .int (nI rc)]))] (nI (wtF nc mo)) := by
  refine Met.ofW (cc := cX3_waysToTry) (maxL := 5) (ret := (some .int)) (by decide) rfl ?_
  intro p e s m args below meth c s₁ B hml hv
  obtain ⟨rfl, hsz, hP, hK, hD0⟩ := hv
  have hx := B.exec
  have hb := B.bytes
  have hr := B.returns
  have hts := atoms_spec (ws := wsX3_waysToTry) B.pre
  have hown : s.vm.findClass RX3 = some m.cls := findClass_of_methodNamed B.named
  have hlocks := B.notSynchronized
  subst hsz
  have hD := hD0.self (sz := s.heap.size)
  generalize hAe : va_A [(lc, .inr (5, [.ref ra, .ref sa, .ref fa, .ref ve, .ref lk, .ref jo, .ref ba, .ref ro, .int (nI nc), .int (nI rc)]))] s.heap.size = A at hD ⊢
  have hA : ∀ q : Nat, s.heap.size ≤ q → A q := fun q h => by rw [← hAe]; exact Or.inr h
  have hS : va_S A s.heap s.heap [] := va_S.rf
  have hP : va_P D vwCl [(lc, .inr (5, [.ref ra, .ref sa, .ref fa, .ref ve, .ref lk, .ref jo, .ref ba, .ref ro, .int (nI nc), .int (nI rc)]))] s.heap := hP
  have hl := lv_entry ([.ref lc, .int (nI mo)]) (n := 5) (Nat.le_of_ble_eq_true rfl)
  rw [lg_entry_eq]
  generalize (lg_sl ([.ref lc, .int (nI mo)]) ++ List.replicate (5 - (lg_sl ([.ref lc, .int (nI mo)])).length) Slot.unset).toArray = ls at hl ⊢
  have hl : lv_has ls 5 [(0, .ref lc), (1, .int (nI mo))] := hl
  refine lv_iconst (v := nI 1) hx hb dX3_waysToTry_0 (by decide) ?_
  refine lv_istore_n (lv' := [(2, .int (nI 1)), (0, .ref lc), (1, .int (nI mo))]) hx hb dX3_waysToTry_1 rfl hl (by decide) rfl (fun ls hl => ?_)
  refine lv_iconst (v := nI 1) hx hb dX3_waysToTry_2 (by decide) ?_
  refine lv_istore_n (lv' := [(3, .int (nI 1)), (2, .int (nI 1)), (0, .ref lc), (1, .int (nI mo))]) hx hb dX3_waysToTry_3 rfl hl (by decide) rfl (fun ls hl => ?_)
  refine lv_iconst (v := nI 1) hx hb dX3_waysToTry_4 (by decide) ?_
  refine lv_istore (lv' := [(4, .int (nI 1)), (3, .int (nI 1)), (2, .int (nI 1)), (0, .ref lc), (1, .int (nI mo))]) hx hb dX3_waysToTry_5 hl (by decide) rfl (fun ls hl => ?_)
  refine bX3_ways hx hb hml hown hts hK hA lc ra sa fa ve lk jo ba ro nc rc mo hnc hmo  mo 1 (1, 1) (by omega) (by omega) (by show 1 * 8 ^ mo ≤ 8 ^ 8; rw [Nat.one_mul]; exact Nat.pow_le_pow_right (by decide) (by omega)) _ _ ls hP hD hS (lv_sub hl [3, 4, 2, 1, 0] rfl) (fun H locs ls hP hD hS hl => ?_)
  refine lv_iload_n hx hb dX3_waysToTry_38 rfl (lv_at hl 1 rfl) ?_
  exact W.iret (v := (nI ((zlp (wtBody nc) mo 1 (1, 1)).2))) hx hb hr (fun t ht hW => ⟨⟨(nI ((zlp (wtBody nc) mo 1 (1, 1)).2)), (), rfl, (by rfl), by rw [ht]; exact hP, hD⟩, hS.F ht⟩) hS.2.2 dX3_waysToTry_39


def ltBody (fco : Nat → Nat) : Nat → ((Nat → Nat) × (Nat → Nat)) → (Nat → Nat) × (Nat → Nat) := fun i y => if fco i = y.1 i then y else (va_up y.1 i (fco i), va_up y.2 i 0)


theorem ltBody_lt {fco : Nat → Nat} {i : Nat} {y : (Nat → Nat) × (Nat → Nat)} (h1 : ∀ j, fco j < 32) (h2 : ∀ j, y.1 j < 32) : ∀ j, (ltBody fco i y).1 j < 32 := by
  unfold ltBody
  split
  · exact h2
  · exact up_lt h2 (h1 i)

theorem lkX3_lockToFound_28 : Cond.fieldLink RX3 28 "LeastChange" "found" "LLeastChange$Found;" ∈ wsX3_lockToFound := by decide +kernel
theorem lkX3_lockToFound_36 : Cond.fieldLink RX3 36 "LeastChange" "locked" "[I" ∈ wsX3_lockToFound := by decide +kernel
theorem lkX3_lockToFound_42 : Cond.fieldLink RX3 42 "LeastChange" "barred" "[I" ∈ wsX3_lockToFound := by decide +kernel
theorem lkX3_lockToFound_48 : Cond.fieldLink RX3 48 "LeastChange" "nameCount" "I" ∈ wsX3_lockToFound := by decide +kernel
theorem inX3_lockToFound_X0 : ∀ w ∈ wsX00, w ∈ wsX3_lockToFound := by decide +kernel
theorem inX3_lockToFound_X3 : ∀ w ∈ wsX30, w ∈ wsX3_lockToFound := by decide +kernel
set_option maxHeartbeats 4000000 in
set_option maxRecDepth 100000 in
theorem bX3_ltf {p : Program} {l : Launch} {e : Env} {R : Room} {s : State} {m : MethodId} {args : Array Value} {below : List Frame} {meth : Method} {c : Code} {Q : State → Prop} {A : Nat → Prop} {H0 : Heap} {D : va_G} {cA : ClassId} (hx : p.tables.exec = Jvm.exec) (hb : c.code = cX3_lockToFound) (hml : c.maxLocals = 2) (hown : s.vm.findClass RX3 = some m.cls) (hts : ∀ w ∈ wsX3_lockToFound, w.before args s = true) (hK : zK D cA s) (hA : ∀ q, H0.size ≤ q → A q) (lc : Nat) (ra : Nat) (sa : Nat) (fa : Nat) (ve : Nat) (lk : Nat) (jo : Nat) (ba : Nat) (ro : Nat) (nc : Nat) (rc : Nat) (co : Nat) (gv : Nat) (ch : Nat) (dn : Nat) (fco : Nat → Nat) (hnc : nc ≤ 8) (hco : ∀ j, fco j < 32) : ∀ (k : Nat) (i : Nat) (y : (Nat → Nat) × (Nat → Nat)), (i + k = nc) → (∀ j, y.1 j < 32) → ∀ (H : Heap) (locs : List Loc) (ls : Array Slot), va_P D vwCl [(lc, .inr (5, [.ref ra, .ref sa, .ref fa, .ref ve, .ref lk, .ref jo, .ref ba, .ref ro, .int (nI nc), .int (nI rc)])), (lk, .inl (cA, 8, .inl (aN y.1))), (ba, .inl (cA, 8, .inl (aN y.2))), (fa, .inr (2, [.ref co, .int (nI gv), .int (nI ch), .int (nI dn)])), (co, .inl (cA, 8, .inl (aN fco)))] H → va_D A [(lc, .inr (5, [.ref ra, .ref sa, .ref fa, .ref ve, .ref lk, .ref jo, .ref ba, .ref ro, .int (nI nc), .int (nI rc)])), (lk, .inl (cA, 8, .inl (aN y.1))), (ba, .inl (cA, 8, .inl (aN y.2))), (fa, .inr (2, [.ref co, .int (nI gv), .int (nI ch), .int (nI dn)])), (co, .inl (cA, 8, .inl (aN fco)))] → va_S A H0 H locs → lv_has ls 2 [(0, .ref lc), (1, .int (nI i))] → (∀ (H : Heap) (locs : List Loc) (ls : Array Slot), va_P D vwCl [(lc, .inr (5, [.ref ra, .ref sa, .ref fa, .ref ve, .ref lk, .ref jo, .ref ba, .ref ro, .int (nI nc), .int (nI rc)])), (lk, .inl (cA, 8, .inl (aN ((zlp (ltBody fco) k i y).1)))), (ba, .inl (cA, 8, .inl (aN ((zlp (ltBody fco) k i y).2)))), (fa, .inr (2, [.ref co, .int (nI gv), .int (nI ch), .int (nI dn)])), (co, .inl (cA, 8, .inl (aN fco)))] H → va_D A [(lc, .inr (5, [.ref ra, .ref sa, .ref fa, .ref ve, .ref lk, .ref jo, .ref ba, .ref ro, .int (nI nc), .int (nI rc)])), (lk, .inl (cA, 8, .inl (aN ((zlp (ltBody fco) k i y).1)))), (ba, .inl (cA, 8, .inl (aN ((zlp (ltBody fco) k i y).2)))), (fa, .inr (2, [.ref co, .int (nI gv), .int (nI ch), .int (nI dn)])), (co, .inl (cA, 8, .inl (aN fco)))] → va_S A H0 H locs → lv_has ls 2 [(0, .ref lc)] → W p l e R s m args below meth c H locs 0 0 Q (F0 m 56 ls [])) → W p l e R s m args below meth c H locs 0 0 Q (F0 m 2 ls []) := by
  intro k
  induction k with
  | zero =>
    intro i y hi hy H locs ls hP hD hS hl kk
    refine lv_iload_n hx hb dX3_lockToFound_2 rfl (lv_at hl 1 rfl) ?_
    refine lv_aload_n hx hb dX3_lockToFound_3 rfl (lv_at hl 0 rfl) ?_
    refine va_get (D := D) (ci := 5) (v := .int (nI nc)) (C := RX3) (T := TX3) (N := 10) hx hb hts inX3_lockToFound_X3 hown hK.1 hP 0 rfl rfl 8 (by decide) (hts _ lkX3_lockToFound_48) (fun _ h9 => h9) rfl dX3_lockToFound_4 ?_
    refine nn_icmp_ge (tgt := 56) hx hb dX3_lockToFound_7 (by decide) (by omega) (by omega) (fun c_7 => ?_) (fun c_7 => ?_)
    · exact kk _ _ _ hP hD hS (lv_sub hl [0] rfl)
    · exfalso; omega
  | succ k ih =>
    intro i y hi hy H locs ls hP hD hS hl kk
    refine lv_iload_n hx hb dX3_lockToFound_2 rfl (lv_at hl 1 rfl) ?_
    refine lv_aload_n hx hb dX3_lockToFound_3 rfl (lv_at hl 0 rfl) ?_
    refine va_get (D := D) (ci := 5) (v := .int (nI nc)) (C := RX3) (T := TX3) (N := 10) hx hb hts inX3_lockToFound_X3 hown hK.1 hP 0 rfl rfl 8 (by decide) (hts _ lkX3_lockToFound_48) (fun _ h9 => h9) rfl dX3_lockToFound_4 ?_
    refine nn_icmp_ge (tgt := 56) hx hb dX3_lockToFound_7 (by decide) (by omega) (by omega) (fun c_7 => ?_) (fun c_7 => ?_)
    · exfalso; omega
    · refine lv_aload_n hx hb dX3_lockToFound_10 rfl (lv_at hl 0 rfl) ?_
      refine va_get (D := D) (ci := 5) (v := .ref fa) (C := RX3) (T := TX3) (N := 10) hx hb hts inX3_lockToFound_X3 hown hK.1 hP 0 rfl rfl 2 (by decide) (hts _ lkX3_lockToFound_28) (fun _ h9 => h9) rfl dX3_lockToFound_11 ?_
      refine va_getN (D := D) (ci := 2) (v := .ref co) (C := RX0) (T := TX0) (N := 4) hx hb hts inX3_lockToFound_X0 hown hK.1 hP 3 rfl rfl 0 (by decide) (va_Nw.use rfl (hK.2 _ nkX3_107)) (fun _ h9 => h9) rfl dX3_lockToFound_14 ?_
      refine lv_iload_n hx hb dX3_lockToFound_17 rfl (lv_at hl 1 rfl) ?_
      refine nn_ald hx hb hK hP 4 rfl (by omega) (by decide) dX3_lockToFound_18 ?_
      refine lv_aload_n hx hb dX3_lockToFound_19 rfl (lv_at hl 0 rfl) ?_
      refine va_get (D := D) (ci := 5) (v := .ref lk) (C := RX3) (T := TX3) (N := 10) hx hb hts inX3_lockToFound_X3 hown hK.1 hP 0 rfl rfl 4 (by decide) (hts _ lkX3_lockToFound_36) (fun _ h9 => h9) rfl dX3_lockToFound_20 ?_
      refine lv_iload_n hx hb dX3_lockToFound_23 rfl (lv_at hl 1 rfl) ?_
      refine nn_ald hx hb hK hP 1 rfl (by omega) (by decide) dX3_lockToFound_24 ?_
      refine nn_icmp_eq (tgt := 50) hx hb dX3_lockToFound_25 (by decide) (Nat.lt_trans (hco _) (by decide)) (Nat.lt_trans (hy _) (by decide)) (fun c_25 => ?_) (fun c_25 => ?_)
      · refine lv_iinc (v := (nI (i + 1))) (lv' := [(1, .int (nI (i + 1))), (0, .ref lc)]) hx hb dX3_lockToFound_50 hl (k := 1) rfl (nI_add _ _) (by decide) rfl (fun ls hl => ?_)
        refine lv_goto (tgt := 2) hx hb dX3_lockToFound_53 (by decide) ?_
        have eB : ltBody fco i y = (y.1, y.2) := by unfold ltBody; first | exact if_pos c_25 | exact if_neg c_25
        have hP : va_P D vwCl [(lc, .inr (5, [.ref ra, .ref sa, .ref fa, .ref ve, .ref lk, .ref jo, .ref ba, .ref ro, .int (nI nc), .int (nI rc)])), (lk, .inl (cA, 8, .inl (aN ((ltBody fco i y).1)))), (ba, .inl (cA, 8, .inl (aN ((ltBody fco i y).2)))), (fa, .inr (2, [.ref co, .int (nI gv), .int (nI ch), .int (nI dn)])), (co, .inl (cA, 8, .inl (aN fco)))] H := by rw [eB]; exact hP
        have hD : va_D A [(lc, .inr (5, [.ref ra, .ref sa, .ref fa, .ref ve, .ref lk, .ref jo, .ref ba, .ref ro, .int (nI nc), .int (nI rc)])), (lk, .inl (cA, 8, .inl (aN ((ltBody fco i y).1)))), (ba, .inl (cA, 8, .inl (aN ((ltBody fco i y).2)))), (fa, .inr (2, [.ref co, .int (nI gv), .int (nI ch), .int (nI dn)])), (co, .inl (cA, 8, .inl (aN fco)))] := by rw [eB]; exact hD
        exact ih (i + 1) (ltBody fco i y) (by omega) (ltBody_lt hco hy) _ _ _ hP hD hS (lv_sub hl [1, 0] rfl) kk
      · refine lv_aload_n hx hb dX3_lockToFound_28 rfl (lv_at hl 0 rfl) ?_
        refine va_get (D := D) (ci := 5) (v := .ref lk) (C := RX3) (T := TX3) (N := 10) hx hb hts inX3_lockToFound_X3 hown hK.1 hP 0 rfl rfl 4 (by decide) (hts _ lkX3_lockToFound_36) (fun _ h9 => h9) rfl dX3_lockToFound_29 ?_
        refine lv_iload_n hx hb dX3_lockToFound_32 rfl (lv_at hl 1 rfl) ?_
        refine lv_aload_n hx hb dX3_lockToFound_33 rfl (lv_at hl 0 rfl) ?_
        refine va_get (D := D) (ci := 5) (v := .ref fa) (C := RX3) (T := TX3) (N := 10) hx hb hts inX3_lockToFound_X3 hown hK.1 hP 0 rfl rfl 2 (by decide) (hts _ lkX3_lockToFound_28) (fun _ h9 => h9) rfl dX3_lockToFound_34 ?_
        refine va_getN (D := D) (ci := 2) (v := .ref co) (C := RX0) (T := TX0) (N := 4) hx hb hts inX3_lockToFound_X0 hown hK.1 hP 3 rfl rfl 0 (by decide) (va_Nw.use rfl (hK.2 _ nkX3_107)) (fun _ h9 => h9) rfl dX3_lockToFound_37 ?_
        refine lv_iload_n hx hb dX3_lockToFound_40 rfl (lv_at hl 1 rfl) ?_
        refine nn_ald hx hb hK hP 4 rfl (by omega) (by decide) dX3_lockToFound_41 ?_
        refine nn_ast hx hb hK hP hD hS 1 rfl (by omega) (by decide) dX3_lockToFound_42 (fun H locs hP hD hS => ?_)
        have hP : va_P D vwCl [(lc, .inr (5, [.ref ra, .ref sa, .ref fa, .ref ve, .ref lk, .ref jo, .ref ba, .ref ro, .int (nI nc), .int (nI rc)])), (lk, .inl (cA, 8, .inl (aN (va_up y.1 i (fco i))))), (ba, .inl (cA, 8, .inl (aN y.2))), (fa, .inr (2, [.ref co, .int (nI gv), .int (nI ch), .int (nI dn)])), (co, .inl (cA, 8, .inl (aN fco)))] H := hP
        have hD : va_D A [(lc, .inr (5, [.ref ra, .ref sa, .ref fa, .ref ve, .ref lk, .ref jo, .ref ba, .ref ro, .int (nI nc), .int (nI rc)])), (lk, .inl (cA, 8, .inl (aN (va_up y.1 i (fco i))))), (ba, .inl (cA, 8, .inl (aN y.2))), (fa, .inr (2, [.ref co, .int (nI gv), .int (nI ch), .int (nI dn)])), (co, .inl (cA, 8, .inl (aN fco)))] := hD
        refine lv_aload_n hx hb dX3_lockToFound_43 rfl (lv_at hl 0 rfl) ?_
        refine va_get (D := D) (ci := 5) (v := .ref ba) (C := RX3) (T := TX3) (N := 10) hx hb hts inX3_lockToFound_X3 hown hK.1 hP 0 rfl rfl 6 (by decide) (hts _ lkX3_lockToFound_42) (fun _ h9 => h9) rfl dX3_lockToFound_44 ?_
        refine lv_iload_n hx hb dX3_lockToFound_47 rfl (lv_at hl 1 rfl) ?_
        refine lv_iconst (v := nI 0) hx hb dX3_lockToFound_48 (by decide) ?_
        refine nn_ast hx hb hK hP hD hS 2 rfl (by omega) (by decide) dX3_lockToFound_49 (fun H locs hP hD hS => ?_)
        have hP : va_P D vwCl [(lc, .inr (5, [.ref ra, .ref sa, .ref fa, .ref ve, .ref lk, .ref jo, .ref ba, .ref ro, .int (nI nc), .int (nI rc)])), (lk, .inl (cA, 8, .inl (aN (va_up y.1 i (fco i))))), (ba, .inl (cA, 8, .inl (aN (va_up y.2 i 0)))), (fa, .inr (2, [.ref co, .int (nI gv), .int (nI ch), .int (nI dn)])), (co, .inl (cA, 8, .inl (aN fco)))] H := hP
        have hD : va_D A [(lc, .inr (5, [.ref ra, .ref sa, .ref fa, .ref ve, .ref lk, .ref jo, .ref ba, .ref ro, .int (nI nc), .int (nI rc)])), (lk, .inl (cA, 8, .inl (aN (va_up y.1 i (fco i))))), (ba, .inl (cA, 8, .inl (aN (va_up y.2 i 0)))), (fa, .inr (2, [.ref co, .int (nI gv), .int (nI ch), .int (nI dn)])), (co, .inl (cA, 8, .inl (aN fco)))] := hD
        refine lv_iinc (v := (nI (i + 1))) (lv' := [(1, .int (nI (i + 1))), (0, .ref lc)]) hx hb dX3_lockToFound_50 hl (k := 1) rfl (nI_add _ _) (by decide) rfl (fun ls hl => ?_)
        refine lv_goto (tgt := 2) hx hb dX3_lockToFound_53 (by decide) ?_
        have eB : ltBody fco i y = (va_up y.1 i (fco i), va_up y.2 i 0) := by unfold ltBody; first | exact if_pos c_25 | exact if_neg c_25
        have hP : va_P D vwCl [(lc, .inr (5, [.ref ra, .ref sa, .ref fa, .ref ve, .ref lk, .ref jo, .ref ba, .ref ro, .int (nI nc), .int (nI rc)])), (lk, .inl (cA, 8, .inl (aN ((ltBody fco i y).1)))), (ba, .inl (cA, 8, .inl (aN ((ltBody fco i y).2)))), (fa, .inr (2, [.ref co, .int (nI gv), .int (nI ch), .int (nI dn)])), (co, .inl (cA, 8, .inl (aN fco)))] H := by rw [eB]; exact hP
        have hD : va_D A [(lc, .inr (5, [.ref ra, .ref sa, .ref fa, .ref ve, .ref lk, .ref jo, .ref ba, .ref ro, .int (nI nc), .int (nI rc)])), (lk, .inl (cA, 8, .inl (aN ((ltBody fco i y).1)))), (ba, .inl (cA, 8, .inl (aN ((ltBody fco i y).2)))), (fa, .inr (2, [.ref co, .int (nI gv), .int (nI ch), .int (nI dn)])), (co, .inl (cA, 8, .inl (aN fco)))] := by rw [eB]; exact hD
        exact ih (i + 1) (ltBody fco i y) (by omega) (ltBody_lt hco hy) _ _ _ hP hD hS (lv_sub hl [1, 0] rfl) kk

set_option maxHeartbeats 4000000 in
set_option maxRecDepth 100000 in
theorem kX3_lockToFound (l : Launch) (D : va_G) (cA : ClassId) (sz : Nat) (lc : Nat) (ra : Nat) (sa : Nat) (fa : Nat) (ve : Nat) (lk : Nat) (jo : Nat) (ba : Nat) (ro : Nat) (nc : Nat) (rc : Nat) (co : Nat) (gv : Nat) (ch : Nat) (dn : Nat) (flk : Nat → Nat) (fba : Nat → Nat) (fco : Nat → Nat) (hnc : nc ≤ 8) (hco : ∀ j, fco j < 32) (hlk : ∀ j, flk j < 32) : zMv l yX3_lockToFound wsX3_lockToFound ({ frames := 0, cells := 0, slots := 0, locals := 0 }) D cA [.ref lc] sz [(lc, .inr (5, [.ref ra, .ref sa, .ref fa, .ref ve, .ref lk, .ref jo, .ref ba, .ref ro, .int (nI nc), .int (nI rc)])), (lk, .inl (cA, 8, .inl (aN flk))), (ba, .inl (cA, 8, .inl (aN fba))), (fa, .inr (2, [.ref co, .int (nI gv), .int (nI ch), .int (nI dn)])), (co, .inl (cA, 8, .inl (aN fco)))] [(lc, .inr (5, [.ref ra, .ref sa, .ref fa, .ref ve, .ref lk, .ref jo, .ref ba, .ref ro, .int (nI nc), .int (nI rc)])), (lk, .inl (cA, 8, .inl (aN ((zlp (ltBody fco) nc 0 (flk, fba)).1)))), (ba, .inl (cA, 8, .inl (aN ((zlp (ltBody fco) nc 0 (flk, fba)).2)))), (fa, .inr (2, [.ref co, .int (nI gv), .int (nI ch), .int (nI dn)])), (co, .inl (cA, 8, .inl (aN fco)))] := by
  refine Met.ofW (cc := cX3_lockToFound) (maxL := 2) (ret := none) (by decide) rfl ?_
  intro p e s m args below meth c s₁ B hml hv
  obtain ⟨rfl, hsz, hP, hK, hD0⟩ := hv
  have hx := B.exec
  have hb := B.bytes
  have hr := B.returns
  have hts := atoms_spec (ws := wsX3_lockToFound) B.pre
  have hown : s.vm.findClass RX3 = some m.cls := findClass_of_methodNamed B.named
  have hlocks := B.notSynchronized
  subst hsz
  have hD := hD0.self (sz := s.heap.size)
  generalize hAe : va_A [(lc, .inr (5, [.ref ra, .ref sa, .ref fa, .ref ve, .ref lk, .ref jo, .ref ba, .ref ro, .int (nI nc), .int (nI rc)])), (lk, .inl (cA, 8, .inl (aN flk))), (ba, .inl (cA, 8, .inl (aN fba))), (fa, .inr (2, [.ref co, .int (nI gv), .int (nI ch), .int (nI dn)])), (co, .inl (cA, 8, .inl (aN fco)))] s.heap.size = A at hD ⊢
  have hA : ∀ q : Nat, s.heap.size ≤ q → A q := fun q h => by rw [← hAe]; exact Or.inr h
  have hS : va_S A s.heap s.heap [] := va_S.rf
  have hP : va_P D vwCl [(lc, .inr (5, [.ref ra, .ref sa, .ref fa, .ref ve, .ref lk, .ref jo, .ref ba, .ref ro, .int (nI nc), .int (nI rc)])), (lk, .inl (cA, 8, .inl (aN flk))), (ba, .inl (cA, 8, .inl (aN fba))), (fa, .inr (2, [.ref co, .int (nI gv), .int (nI ch), .int (nI dn)])), (co, .inl (cA, 8, .inl (aN fco)))] s.heap := hP
  have hl := lv_entry ([.ref lc]) (n := 2) (Nat.le_of_ble_eq_true rfl)
  rw [lg_entry_eq]
  generalize (lg_sl ([.ref lc]) ++ List.replicate (2 - (lg_sl ([.ref lc])).length) Slot.unset).toArray = ls at hl ⊢
  have hl : lv_has ls 2 [(0, .ref lc)] := hl
  refine lv_iconst (v := nI 0) hx hb dX3_lockToFound_0 (by decide) ?_
  refine lv_istore_n (lv' := [(1, .int (nI 0)), (0, .ref lc)]) hx hb dX3_lockToFound_1 rfl hl (by decide) rfl (fun ls hl => ?_)
  refine bX3_ltf hx hb hml hown hts hK hA lc ra sa fa ve lk jo ba ro nc rc co gv ch dn fco hnc hco  nc 0 (flk, fba) (by omega) hlk _ _ ls hP hD hS (lv_sub hl [1, 0] rfl) (fun H locs ls hP hD hS hl => ?_)
  exact W.vret hx hb hr (fun t ht hW => ⟨⟨(), rfl, trivial, by rw [ht]; exact hP, hD⟩, hS.F ht⟩) hS.2.2 dX3_lockToFound_56

