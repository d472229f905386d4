/-! the row that may throw: what a throw asks of the state, the class's row, the law's row -/
abbrev nmR : List String := ["java/lang/IndexOutOfBoundsException", "java/lang/RuntimeException", "java/lang/Exception"]
def xxW : List Cond := [.declares ⟨"java/lang/IndexOutOfBoundsException", "<init>", "(Ljava/lang/String;)V"⟩, .declares ⟨"java/lang/RuntimeException", "<init>", "(Ljava/lang/String;)V"⟩, .declares ⟨"java/lang/Exception", "<init>", "(Ljava/lang/String;)V"⟩, .declares ⟨"java/lang/Throwable", "<init>", "(Ljava/lang/String;)V"⟩, .castable RJx00060 RJx00060, .methodLink RX3 145 yJx00060_init_a7421]
theorem xxW_on : ∀ w ∈ xxW, w.onTables = true := by decide +kernel
theorem xxW_in : ∀ w ∈ xxW, w ∈ lw_tbl := by decide +kernel
theorem xxW_at : ∀ w ∈ vx_atS RX3 145 RJx00060 nmR, w ∈ wsX3_row ∨ w ∈ xxW := by decide +kernel
theorem xx_good : ∀ w ∈ Cond.classLink RX3 141 RJx00060 :: Cond.initialized RJx00060 :: vx_atS RX3 145 RJx00060 nmR, vx_ot w = true := by decide +kernel
theorem xx_fit : Bundle.fit RJx00060 = true := by decide +kernel
theorem xx_fits : ∀ n ∈ nmR, Bundle.fit n = true := by decide +kernel
def zXn (U : State) : Prop := ∀ w ∈ xxW, va_Nw w U
theorem zXn.of {args : Array Value} {s : State} (htb : ∀ w ∈ lw_tbl, w.before args s = true) : zXn s := fun w h => va_Nw.of (xxW_on w h) (htb w (xxW_in w h))
theorem zXn.warm {s U : State} (hW : s.WarmedH U.vm) (hZ : zXn s) : zXn U := by
  intro w hw
  have h2 := hZ w hw
  simp only [xxW, List.mem_cons, List.not_mem_nil, or_false] at hw
  rcases hw with rfl | rfl | rfl | rfl | rfl | rfl
  · exact va_Nw.warmD hW h2
  · exact va_Nw.warmD hW h2
  · exact va_Nw.warmD hW h2
  · exact va_Nw.warmD hW h2
  · exact va_Nw.warmC hW h2
  · exact word_at hW (good_of_word (by decide +kernel)) h2
theorem zX_at {args : Array Value} {s : State} (hts : ∀ w ∈ wsX3_row, w.before args s = true) (hn : zXn s) : ∀ w ∈ vx_atS RX3 145 RJx00060 nmR, w.before args s = true := by
  intro w hw
  rcases xxW_at w hw with h | h
  · exact hts w h
  · exact va_Nw.use (xxW_on w h) (hn w h)
def zX (tx : Nat) (A : Nat → Prop) (U : State) (H : Heap) : Prop := vk_R RX3 143 "there is no such row" tx U ∧ vx_Zq Bundle.tN "UNASSIGNED_STACK" Bundle.steD A U H ∧ vx_Zq Bundle.tN "SUPPRESSED_SENTINEL" Bundle.listD A U H ∧ zXn U
theorem zX.warm {tx : Nat} {A : Nat → Prop} {s U : State} {H : Heap} (hW : s.WarmedH U.vm) (h : zX tx A s H) : zX tx A U H := ⟨vk_R.warm hW h.1, h.2.1.moved hW.alike, h.2.2.1.moved hW.alike, h.2.2.2.warm hW⟩
theorem zX.kept {tx : Nat} {A : Nat → Prop} {U : State} {H H1 : Heap} (h : zX tx A U H) (hq : ∀ a : Nat, a < H.size → ¬ A a → H1[a]? = H[a]?) : zX tx A U H1 := ⟨h.1, h.2.1.kept hq, h.2.2.1.kept hq, h.2.2.2⟩
theorem zX.narrow {tx : Nat} {A B : Nat → Prop} {U : State} {H : Heap} (h : zX tx A U H) (hAB : ∀ q, B q → A q) : zX tx B U H := ⟨h.1, h.2.1.narrow hAB, h.2.2.1.narrow hAB, h.2.2.2⟩
def zXX (A : Nat → Prop) (s : State) (H0 : Heap) : Prop := ∃ tx, zX tx A s H0
def xPc (av : List Value) (D : va_G) (cA : ClassId) (sz : Nat) (W : va_W) (tx : Nat) : Array Value → State → Prop := va_Pc av (fun U => U.heap.size = sz ∧ va_P D vwCl W U.heap ∧ zK D cA U ∧ va_D (fun _ => True) W ∧ zX tx (va_A W sz) U U.heap)
theorem xPc.blind {av : List Value} {D : va_G} {cA : ClassId} {sz : Nat} {W : va_W} {tx : Nat} : FrameBlind (xPc av D cA sz W tx) := fun a U g mk q => by
  obtain ⟨q0, q1, qP, qK, qD, qX⟩ := q
  exact ⟨q0, q1, qP, ⟨va_K.moved (u := U) (U := U.calling g mk a) (Vm.Alike.refl U.vm) qK.1, zN.same (u := U) (U := U.calling g mk a) rfl qK.2⟩, qD, zX.warm (U := U.calling g mk a) (State.WarmedH.refl U) qX⟩
def yPc (av : List Value) (D : va_G) (cA cL : ClassId) (sz : Nat) (W : va_W) (tx : Nat) : Array Value → State → Prop := va_Pc av (fun U => U.heap.size = sz ∧ va_P D vwCl W U.heap ∧ zK D cA U ∧ va_D (fun _ => True) W ∧ zX tx (va_A W sz) U U.heap ∧ va_K D vwCl [(cL, .long)] U)
theorem yPc.blind {av : List Value} {D : va_G} {cA cL : ClassId} {sz : Nat} {W : va_W} {tx : Nat} : FrameBlind (yPc av D cA cL sz W tx) := fun a U g mk q => by
  obtain ⟨q0, q1, qP, qK, qD, qX, qL⟩ := q
  exact ⟨q0, q1, qP, ⟨va_K.moved (u := U) (U := U.calling g mk a) (Vm.Alike.refl U.vm) qK.1, zN.same (u := U) (U := U.calling g mk a) rfl qK.2⟩, qD, zX.warm (U := U.calling g mk a) (State.WarmedH.refl U) qX, va_K.moved (u := U) (U := U.calling g mk a) (Vm.Alike.refl U.vm) qL⟩
theorem xPre {s : State} {H H0 : Heap} {locs : List Loc} {D : va_G} {cA : ClassId} {A : Nat → Prop} {ws wc : va_W} {sz tx : Nat} {av : List Value} (hK : zK D cA s) (hP : va_P D vwCl ws H) (hD : va_D A ws) (hS : va_S A H0 H locs) (hA : ∀ q, H0.size ≤ q → A q) (hX : zX tx A s H) (isC : List Nat) (hC : isC.map (fun i => ws[i]?) = wc.map some) (hnd : va_nd isC = true) (hz : H.size = sz) : PreS s H (xPc av D cA sz wc tx) av := by
  have h1 := zPreS (av := av) (sz := sz) hK hP hD isC hC hnd hz
  have hF := va_free (wc := wc) hD hS hA isC hC
  refine ⟨xPc.blind, fun U hU hW => ?_⟩
  obtain ⟨a1, a2, a3, a4, a5⟩ := h1.2 U hU hW
  refine ⟨a1, a2, a3, a4, a5, ?_⟩
  subst hz
  rw [hU]
  exact (hX.narrow hF).warm hW
theorem yPre {s : State} {H H0 : Heap} {locs : List Loc} {D : va_G} {cA cL : ClassId} {A : Nat → Prop} {ws wc : va_W} {sz tx : Nat} {av : List Value} (hKL : va_K D vwCl [(cL, .long)] s) (hK : zK D cA s) (hP : va_P D vwCl ws H) (hD : va_D A ws) (hS : va_S A H0 H locs) (hA : ∀ q, H0.size ≤ q → A q) (hX : zX tx A s H) (isC : List Nat) (hC : isC.map (fun i => ws[i]?) = wc.map some) (hnd : va_nd isC = true) (hz : H.size = sz) : PreS s H (yPc av D cA cL sz wc tx) av := by
  have h1 := xPre (av := av) (sz := sz) (wc := wc) hK hP hD hS hA hX isC hC hnd hz
  refine ⟨yPc.blind, fun U hU hW => ?_⟩
  obtain ⟨a1, a2, a3, a4, a5, a6⟩ := h1.2 U hU hW
  exact ⟨a1, a2, a3, a4, a5, a6, hKL.moved hW.alike⟩
theorem zxx_init {s : State} {args : Array Value} (htb : ∀ w ∈ lw_tbl, w.before args s = true) (hgv : (Jvm.Cond.and given_1 narrow_1).before args s = true) : zXX (fun q : Nat => s.heap.size ≤ q) s s.heap := by
  have hn0 : ∀ a : Nat, a < s.heap.size → ¬ (fun q : Nat => s.heap.size ≤ q) a := fun a h => Nat.not_le.mpr h
  rw [Cond.before_and, Bool.and_eq_true] at hgv
  have hn := hgv.2
  unfold narrow_1 at hn
  simp only [Cond.before_and, Bool.and_eq_true] at hn
  have hU := hn.1.1.1.2.1
  have hN := hn.1.1.1.2.2
  have hsr : (Cond.stringRef RX3 143 "there is no such row").before args s = true := htb _ (by decide +kernel)
  have hfc : ∃ cur, s.vm.findClass RX3 = some cur := by
    have h1 := hsr
    simp only [Cond.before, Cond.holds, Cond.value] at h1
    cases hc : s.vm.findClass RX3 with
    | none => simp [hc] at h1
    | some cur => exact ⟨cur, rfl⟩
  obtain ⟨cur, hcur⟩ := hfc
  obtain ⟨-, -, -, tx, -, -, -, -, -, hev⟩ := Cond.stringRef_spec hcur hsr
  exact ⟨tx, vk_R.of hsr hev, vx_Zqof (htb _ (by decide +kernel)) (htb _ (by decide +kernel)) hU hn0, vx_Zqof (htb _ (by decide +kernel)) (htb _ (by decide +kernel)) hN hn0, zXn.of htb⟩
theorem lkX3_row_52 : Cond.fieldLink RX3 52 "LeastChange" "rowCount" "I" ∈ wsX3_row := by decide +kernel
theorem lkX3_row_45 : Cond.fieldLink RX3 45 "LeastChange" "rows" "[I" ∈ wsX3_row := by decide +kernel
theorem clX3_row_141 : Cond.classLink RX3 141 RJx00060 ∈ wsX3_row := by decide +kernel
theorem iniX3_row_E : Cond.initialized RJx00060 ∈ wsX3_row := by decide +kernel
theorem inX3_row_X3 : ∀ w ∈ wsX30, w ∈ wsX3_row := by decide +kernel
set_option maxHeartbeats 4000000 in
set_option maxRecDepth 100000 in
theorem kX3_row (l : Launch) (hlt : l.stackTraces = false) (D : va_G) (cA : ClassId) (sz : Nat) (lc ra sa fa ve lk jo ba ro : Nat) (nc rc : Nat) (fro : Nat → Nat) (xx : Int32) (tx : Nat) (hrc : rc ≤ 60) : vx_Met l yX3_row wsX3_row ({ frames := 7, cells := 1, slots := 6, locals := 95 }) (xPc [.ref lc, .int xx] D cA sz [(lc, .inr (5, [.ref ra, .ref sa, .ref fa, .ref ve, .ref lk, .ref jo, .ref ba, .ref ro, .int (nI nc), .int (nI rc)])), (ro, .inl (cA, 60, .inl (aN fro)))] tx) (va_Qi (fun r (_ : Unit) => isN xx rc ∧ r = nI (fro (toN xx))) (zB D (va_A [(lc, .inr (5, [.ref ra, .ref sa, .ref fa, .ref ve, .ref lk, .ref jo, .ref ba, .ref ro, .int (nI nc), .int (nI rc)])), (ro, .inl (cA, 60, .inl (aN fro)))] sz) [(lc, .inr (5, [.ref ra, .ref sa, .ref fa, .ref ve, .ref lk, .ref jo, .ref ba, .ref ro, .int (nI nc), .int (nI rc)])), (ro, .inl (cA, 60, .inl (aN fro)))]) (va_A [(lc, .inr (5, [.ref ra, .ref sa, .ref fa, .ref ve, .ref lk, .ref jo, .ref ba, .ref ro, .int (nI nc), .int (nI rc)])), (ro, .inl (cA, 60, .inl (aN fro)))] sz)) (vx_X (fun _ : Unit => ¬ isN xx rc) (fun E u t => E = RJx00060 ∧ zB D (va_A [(lc, .inr (5, [.ref ra, .ref sa, .ref fa, .ref ve, .ref lk, .ref jo, .ref ba, .ref ro, .int (nI nc), .int (nI rc)])), (ro, .inl (cA, 60, .inl (aN fro)))] sz) [(lc, .inr (5, [.ref ra, .ref sa, .ref fa, .ref ve, .ref lk, .ref jo, .ref ba, .ref ro, .int (nI nc), .int (nI rc)])), (ro, .inl (cA, 60, .inl (aN fro)))] u t) (va_A [(lc, .inr (5, [.ref ra, .ref sa, .ref fa, .ref ve, .ref lk, .ref jo, .ref ba, .ref ro, .int (nI nc), .int (nI rc)])), (ro, .inl (cA, 60, .inl (aN fro)))] sz)) 1 6 (va_A [(lc, .inr (5, [.ref ra, .ref sa, .ref fa, .ref ve, .ref lk, .ref jo, .ref ba, .ref ro, .int (nI nc), .int (nI rc)])), (ro, .inl (cA, 60, .inl (aN fro)))] sz) := by
  refine vx_ofW (cc := cX3_row) (maxL := 2) (ret := (some .int)) (by decide) rfl ?_
  intro p e s m args below meth c s₁ B hml htab hv
  obtain ⟨rfl, hsz, hP, hK, hD0, hX⟩ := hv
  have hx := B.exec
  have hb := B.bytes
  have hr := B.returns
  have hts := atoms_spec (ws := wsX3_row) B.pre
  have hown : s.vm.findClass RX3 = some m.cls := findClass_of_methodNamed B.named
  have hlocks := B.notSynchronized
  subst hsz
  have hD := hD0.self (sz := s.heap.size)
  generalize hAe : va_A [(lc, .inr (5, [.ref ra, .ref sa, .ref fa, .ref ve, .ref lk, .ref jo, .ref ba, .ref ro, .int (nI nc), .int (nI rc)])), (ro, .inl (cA, 60, .inl (aN fro)))] s.heap.size = A at hD hX ⊢
  have hA : ∀ q : Nat, s.heap.size ≤ q → A q := fun q h => by rw [← hAe]; exact Or.inr h
  have hS : va_S A s.heap s.heap [] := va_S.rf
  have hl := lv_entry ([.ref lc, .int xx]) (n := 2) (Nat.le_of_ble_eq_true rfl)
  rw [lg_entry_eq]
  generalize (lg_sl ([.ref lc, .int xx]) ++ List.replicate (2 - (lg_sl ([.ref lc, .int xx])).length) Slot.unset).toArray = ls at hl ⊢
  have hl : lv_has ls 2 [(0, .ref lc), (1, .int xx)] := hl
  refine lv_iload_n hx hb dX3_row_0 rfl (lv_at hl 1 rfl) ?_
  refine lv_if_lt (tgt := 12) hx hb dX3_row_1 (by decide) (fun c_1 => ?_) (fun c_1 => ?_)
  · have cv : ¬ isN xx rc := fun q => q.1 c_1
    exact vx_throwS hx hb hlt (own := RX3) (cls := RJx00060) (text := "there is no such row") (names := nmR) (ik := 141) (is := 143) (ic := 145) (sa := tx) (A := A) hown xx_fit xx_fits (hts _ clX3_row_141) (hts _ iniX3_row_E) hX.1 (zX_at hts hX.2.2.2) xx_good hX.2.1 hX.2.2.1 hS (hl.1.trans hml.symm) dX3_row_12 dX3_row_15 dX3_row_16 dX3_row_18 dX3_row_21 (fun x h => (htab x h).elim) (Nat.le_of_ble_eq_true rfl) (Nat.le_of_ble_eq_true rfl) (Nat.le_refl _) (Nat.le_refl _) hlocks (fun t hv h1 h2 => ⟨(), cv, ⟨rfl, hP.kept (fun k q hk => h2 _ (vx_lt hP hk)), hD⟩, h1, fun q hq _ => h2 q hq⟩) hS.2.2 (Nat.le_refl _) (Nat.le_refl _)
  · refine lv_iload_n hx hb dX3_row_4 rfl (lv_at hl 1 rfl) ?_
    refine lv_aload_n hx hb dX3_row_5 rfl (lv_at hl 0 rfl) ?_
    refine va_get (D := D) (ci := 5) (v := .int (nI rc)) (C := RX3) (T := TX3) (N := 10) hx hb hts inX3_row_X3 hown hK.1 hP 0 rfl rfl 9 (by decide) (hts _ lkX3_row_52) (fun _ h9 => h9) rfl dX3_row_6 ?_
    refine lv_icmp_lt (tgt := 22) hx hb dX3_row_9 (by decide) (fun c_9 => ?_) (fun c_9 => ?_)
    · have cv : isN xx rc := ⟨c_1, c_9⟩
      have e1 := toN_eq cv.1
      have b1 : toN xx < rc := isN_lt (by omega) cv
      have hl : lv_has ls 2 [(0, .ref lc), (1, .int (nI (toN xx)))] := by rw [← e1]; exact hl
      refine lv_aload_n hx hb dX3_row_22 rfl (lv_at hl 0 rfl) ?_
      refine va_get (D := D) (ci := 5) (v := .ref ro) (C := RX3) (T := TX3) (N := 10) hx hb hts inX3_row_X3 hown hK.1 hP 0 rfl rfl 7 (by decide) (hts _ lkX3_row_45) (fun _ h9 => h9) rfl dX3_row_23 ?_
      refine lv_iload_n hx hb dX3_row_26 rfl (lv_at hl 1 rfl) ?_
      refine nn_ald hx hb hK hP 1 rfl (by omega) (by decide) dX3_row_27 ?_
      refine W.widen (k := 1) (n := 6) (by decide) (by decide) ?_
      refine vx_ret ?_
      exact W.iret (v := nI (fro (toN xx))) hx hb hr (fun t ht hW => ⟨⟨_, (), rfl, ⟨cv, rfl⟩, by rw [ht]; exact hP, hD⟩, hS.F ht⟩) hS.2.2 dX3_row_28
    · have cv : ¬ isN xx rc := fun q => c_9 q.2
      exact vx_throwS hx hb hlt (own := RX3) (cls := RJx00060) (text := "there is no such row") (names := nmR) (ik := 141) (is := 143) (ic := 145) (sa := tx) (A := A) hown xx_fit xx_fits (hts _ clX3_row_141) (hts _ iniX3_row_E) hX.1 (zX_at hts hX.2.2.2) xx_good hX.2.1 hX.2.2.1 hS (hl.1.trans hml.symm) dX3_row_12 dX3_row_15 dX3_row_16 dX3_row_18 dX3_row_21 (fun x h => (htab x h).elim) (Nat.le_of_ble_eq_true rfl) (Nat.le_of_ble_eq_true rfl) (Nat.le_refl _) (Nat.le_refl _) hlocks (fun t hv h1 h2 => ⟨(), cv, ⟨rfl, hP.kept (fun k q hk => h2 _ (vx_lt hP hk)), hD⟩, h1, fun q hq _ => h2 q hq⟩) hS.2.2 (Nat.le_refl _) (Nat.le_refl _)
theorem cwL_row : Cond.codeWith yL_row cL_row 4 (some .int) [(0, 9, 12, 13)] ∈ wsL_row := by decide +kernel
theorem clL_row_13 : Cond.classLink RL 13 RJx00060 ∈ wsL_row := by decide +kernel
theorem xx_cast : Cond.castable RJx00060 RJx00060 ∈ xxW := by decide +kernel
set_option maxHeartbeats 4000000 in
set_option maxRecDepth 100000 in
theorem kL_row (l : Launch) (hlt : l.stackTraces = false) (D : va_G) (cA cL : ClassId) (sz : Nat) (lc ra sa fa ve lk jo ba ro : Nat) (nc rc : Nat) (fro : Nat → Nat) (out : Nat) (og : Nat → Int64) (xx : Int32) (tx : Nat) (hrc : rc ≤ 60) : vx_Met l yL_row wsL_row ({ frames := 8, cells := 1, slots := 6, locals := 116 }) (yPc [.ref lc, .int xx, .ref out] D cA cL sz [(lc, .inr (5, [.ref ra, .ref sa, .ref fa, .ref ve, .ref lk, .ref jo, .ref ba, .ref ro, .int (nI nc), .int (nI rc)])), (ro, .inl (cA, 60, .inl (aN fro))), (out, .inl (cL, 1, .inr (.inl og)))] tx) (va_Qi (fun r (_ : Unit) => r = nI (if isN xx rc then 0 else 1)) (zB D (va_A [(lc, .inr (5, [.ref ra, .ref sa, .ref fa, .ref ve, .ref lk, .ref jo, .ref ba, .ref ro, .int (nI nc), .int (nI rc)])), (ro, .inl (cA, 60, .inl (aN fro))), (out, .inl (cL, 1, .inr (.inl og)))] sz) [(lc, .inr (5, [.ref ra, .ref sa, .ref fa, .ref ve, .ref lk, .ref jo, .ref ba, .ref ro, .int (nI nc), .int (nI rc)])), (ro, .inl (cA, 60, .inl (aN fro))), (out, .inl (cL, 1, .inr (.inl (if isN xx rc then vp_updL og 0 (nI (fro (toN xx))).toInt64 else og))))]) (va_A [(lc, .inr (5, [.ref ra, .ref sa, .ref fa, .ref ve, .ref lk, .ref jo, .ref ba, .ref ro, .int (nI nc), .int (nI rc)])), (ro, .inl (cA, 60, .inl (aN fro))), (out, .inl (cL, 1, .inr (.inl og)))] sz)) (vx_X (fun _ : Unit => False) (fun _ _ _ => True) (va_A [(lc, .inr (5, [.ref ra, .ref sa, .ref fa, .ref ve, .ref lk, .ref jo, .ref ba, .ref ro, .int (nI nc), .int (nI rc)])), (ro, .inl (cA, 60, .inl (aN fro))), (out, .inl (cL, 1, .inr (.inl og)))] sz)) 1 6 (va_A [(lc, .inr (5, [.ref ra, .ref sa, .ref fa, .ref ve, .ref lk, .ref jo, .ref ba, .ref ro, .int (nI nc), .int (nI rc)])), (ro, .inl (cA, 60, .inl (aN fro))), (out, .inl (cL, 1, .inr (.inl og)))] sz) := by
  refine vx_ofWH (cc := cL_row) (maxL := 4) (ret := (some .int)) (hh := [(0, 9, 12, 13)]) (by decide) rfl ?_
  intro p e s m args below meth c s₁ B hml hv
  obtain ⟨rfl, hsz, hP, hK, hD0, hX, hKL⟩ := hv
  have hx := B.exec
  have hb := B.bytes
  have hr := B.returns
  have hts := atoms_spec (ws := wsL_row) B.pre
  have hown : s.vm.findClass RL = some m.cls := findClass_of_methodNamed B.named
  have hlocks := B.notSynchronized
  have htab := vx_table (x := yL_row) B (hts _ cwL_row)
  subst hsz
  have hD := hD0.self (sz := s.heap.size)
  generalize hAe : va_A [(lc, .inr (5, [.ref ra, .ref sa, .ref fa, .ref ve, .ref lk, .ref jo, .ref ba, .ref ro, .int (nI nc), .int (nI rc)])), (ro, .inl (cA, 60, .inl (aN fro))), (out, .inl (cL, 1, .inr (.inl og)))] s.heap.size = A at hD hX ⊢
  have hA : ∀ q : Nat, s.heap.size ≤ q → A q := fun q h => by rw [← hAe]; exact Or.inr h
  have hS : va_S A s.heap s.heap [] := va_S.rf
  have hl := lv_entry ([.ref lc, .int xx, .ref out]) (n := 4) (Nat.le_of_ble_eq_true rfl)
  rw [lg_entry_eq]
  generalize (lg_sl ([.ref lc, .int xx, .ref out]) ++ List.replicate (4 - (lg_sl ([.ref lc, .int xx, .ref out])).length) Slot.unset).toArray = ls at hl ⊢
  have hl : lv_has ls 4 [(0, .ref lc), (1, .int xx), (2, .ref out)] := hl
  refine lv_aload_n hx hb dL_row_0 rfl (lv_at hl 2 rfl) ?_
  refine lv_iconst (v := nI 0) hx hb dL_row_1 (by decide) ?_
  refine lv_aload_n hx hb dL_row_2 rfl (lv_at hl 0 rfl) ?_
  refine lv_iload_n hx hb dL_row_3 rfl (lv_at hl 1 rfl) ?_
  have hFc := va_free (wc := [(lc, .inr (5, [.ref ra, .ref sa, .ref fa, .ref ve, .ref lk, .ref jo, .ref ba, .ref ro, .int (nI nc), .int (nI rc)])), (ro, .inl (cA, 60, .inl (aN fro)))]) hD hS hA [0, 1] rfl
  have hpre := xPre (av := [.ref lc, .int xx]) (wc := [(lc, .inr (5, [.ref ra, .ref sa, .ref fa, .ref ve, .ref lk, .ref jo, .ref ba, .ref ro, .int (nI nc), .int (nI rc)])), (ro, .inl (cA, 60, .inl (aN fro)))]) hK hP hD hS hA hX [0, 1] rfl (by decide) rfl
  refine vx_calli (vx_runV (As := [.int xx]) (rest := [.int (nI 0), .ref out]) ⟨hx, hb, hml, hown, hts⟩ (kX3_row l hlt D cA s.heap.size lc ra sa fa ve lk jo ba ro nc rc fro xx tx hrc) (cwV 1 hts gL_row_X3_row rfl rfl rfl (by decide +kernel) ⟨Nat.le_of_ble_eq_true rfl, Nat.le_of_ble_eq_true rfl⟩) ⟨hpre.1, va_recv hK.1 hP (ci := 5) (q0 := 0) rfl rfl, hpre.2⟩ rfl rfl hl.1 rfl (lv_room (Nat.le_of_ble_eq_true rfl)) dL_row_4 ⟨Nat.le_of_ble_eq_true rfl, Nat.le_of_ble_eq_true rfl⟩) hS (fun q _ h => hFc q h) hFc (fun q _ h => hFc q h) (fun E ce q9 u t H1 locs1 ht hvm hp hBX hz1 hk1 hS1 hce hcv hcl => ?_) (fun r u t H1 locs1 ht hvm hp hBB hz1 hk1 hS1 => ?_)
  · obtain ⟨rfl, hP1, hD1⟩ := hBX
    rw [ht] at hP1
    obtain ⟨hP2, hD2⟩ := va_join (wr := [(out, .inl (cL, 1, .inr (.inl og)))]) (w1 := [(lc, .inr (5, [.ref ra, .ref sa, .ref fa, .ref ve, .ref lk, .ref jo, .ref ba, .ref ro, .int (nI nc), .int (nI rc)])), (ro, .inl (cA, 60, .inl (aN fro)))]) hP hD [0, 1] [2] rfl rfl (by decide) (by decide) hk1 hFc hP1 hD1
    have eO : (if isN xx rc then vp_updL og 0 (nI (fro (toN xx))).toInt64 else og) = og := if_neg hp
    have hP : va_P D vwCl [(lc, .inr (5, [.ref ra, .ref sa, .ref fa, .ref ve, .ref lk, .ref jo, .ref ba, .ref ro, .int (nI nc), .int (nI rc)])), (ro, .inl (cA, 60, .inl (aN fro))), (out, .inl (cL, 1, .inr (.inl (if isN xx rc then vp_updL og 0 (nI (fro (toN xx))).toInt64 else og))))] H1 := by rw [eO]; exact hP2.sub [1, 2, 0] rfl
    have hD : va_D A [(lc, .inr (5, [.ref ra, .ref sa, .ref fa, .ref ve, .ref lk, .ref jo, .ref ba, .ref ro, .int (nI nc), .int (nI rc)])), (ro, .inl (cA, 60, .inl (aN fro))), (out, .inl (cL, 1, .inr (.inl (if isN xx rc then vp_updL og 0 (nI (fro (toN xx))).toInt64 else og))))] := by rw [eO]; exact hD2.sub [1, 2, 0] (by decide) rfl
    refine vx_catch (own := RL) (name := RJx00060) hown [] { startPc := 0, endPc := 9, handlerPc := 12, catchType := 13 } [] htab (fun z hz => nomatch hz) (by decide) (by decide) (hts _ clL_row_13) (va_Nw.use rfl (hX.2.2.2 _ xx_cast)) hce hcv hcl ?_
    refine lv_astore_n hx hb dL_row_12 rfl hl (by decide) rfl (fun ls hl => ?_)
    refine lv_iconst (v := nI 1) hx hb dL_row_13 (by decide) ?_
    refine vx_ret ?_
    exact W.iret (v := nI 1) hx hb hr (fun t ht hW => ⟨⟨_, (), rfl, by rw [if_neg hp], by rw [ht]; exact hP, hD⟩, hS1.F ht⟩) hS1.2.2 dL_row_14
  · obtain ⟨hP1, hD1⟩ := hBB
    obtain ⟨cv, rfl⟩ := hp
    rw [ht] at hP1
    obtain ⟨hP2, hD2⟩ := va_join (wr := [(out, .inl (cL, 1, .inr (.inl og)))]) (w1 := [(lc, .inr (5, [.ref ra, .ref sa, .ref fa, .ref ve, .ref lk, .ref jo, .ref ba, .ref ro, .int (nI nc), .int (nI rc)])), (ro, .inl (cA, 60, .inl (aN fro)))]) hP hD [0, 1] [2] rfl rfl (by decide) (by decide) hk1 hFc hP1 hD1
    refine lv_i2l hx hb dL_row_7 rfl ?_
    refine va_last hx hb hKL hP2 hD2 hS1 0 0 rfl rfl (vp_in_nI (by decide) (by decide)) dL_row_8 (fun H2 locs2 hP3 hD3 hS3 => ?_)
    rw [nI_clamp (by decide)] at hP3 hD3
    have eO : (if isN xx rc then vp_updL og 0 (nI (fro (toN xx))).toInt64 else og) = vp_updL og 0 (nI (fro (toN xx))).toInt64 := if_pos cv
    have hP : va_P D vwCl [(lc, .inr (5, [.ref ra, .ref sa, .ref fa, .ref ve, .ref lk, .ref jo, .ref ba, .ref ro, .int (nI nc), .int (nI rc)])), (ro, .inl (cA, 60, .inl (aN fro))), (out, .inl (cL, 1, .inr (.inl (if isN xx rc then vp_updL og 0 (nI (fro (toN xx))).toInt64 else og))))] H2 := by rw [eO]; exact hP3.sub [1, 2, 0] rfl
    have hD : va_D A [(lc, .inr (5, [.ref ra, .ref sa, .ref fa, .ref ve, .ref lk, .ref jo, .ref ba, .ref ro, .int (nI nc), .int (nI rc)])), (ro, .inl (cA, 60, .inl (aN fro))), (out, .inl (cL, 1, .inr (.inl (if isN xx rc then vp_updL og 0 (nI (fro (toN xx))).toInt64 else og))))] := by rw [eO]; exact hD3.sub [1, 2, 0] (by decide) rfl
    refine lv_goto (tgt := 15) hx hb dL_row_9 (by decide) ?_
    refine lv_iconst (v := nI 0) hx hb dL_row_15 (by decide) ?_
    refine vx_ret ?_
    exact W.iret (v := nI 0) hx hb hr (fun t ht hW => ⟨⟨_, (), rfl, by rw [if_pos cv], by rw [ht]; exact hP, hD⟩, hS3.F ht⟩) hS3.2.2 dL_row_16
