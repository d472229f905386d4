
/-- a loop that counts up: k rounds from i on -/
def zlp {σ : Type} (body : Nat → σ → σ) : Nat → Nat → σ → σ
  | 0, _, x => x
  | k + 1, i, x => zlp body k (i + 1) (body i x)
theorem shl1_pos (v : Nat) : 1 ≤ 2 <<< v := by rw [Nat.shiftLeft_eq]; exact Nat.le_trans (by decide) (Nat.mul_le_mul (show 1 ≤ 2 by decide) (Nat.one_le_two_pow (n := v)))

theorem lkX1_open_9 : Cond.fieldLink RX1 9 "LeastChange$Rules" "alone" "[I" ∈ wsX1_open := by decide +kernel
theorem inX1_open_X1 : ∀ w ∈ wsX10, w ∈ wsX1_open := by decide +kernel
set_option maxHeartbeats 4000000 in
set_option maxRecDepth 100000 in
theorem kX1_open (l : Launch) (D : va_G) (cA : ClassId) (sz : Nat) (ra : Nat) (al : Nat) (be : Nat) (fal : Nat → Nat) (fbe : Nat → Nat) (na : Nat) (vs : Nat) (hn : na < 8) (hv : vs < 32) : zMv l yX1_open wsX1_open ({ frames := 0, cells := 0, slots := 0, locals := 0 }) D cA [.ref ra, .int (nI na), .int (nI vs)] sz [(ra, .inr (3, [.ref al, .ref be])), (al, .inl (cA, 8, .inl (aN fal))), (be, .inl (cA, 448, .inl (aN fbe)))] [(ra, .inr (3, [.ref al, .ref be])), (al, .inl (cA, 8, .inl (aN (va_up fal na ((2 <<< vs) - 1))))), (be, .inl (cA, 448, .inl (aN fbe)))] := by
  refine Met.ofW (cc := cX1_open) (maxL := 3) (ret := none) (by decide) rfl ?_
  intro p e s m args below meth c s₁ B hml hv
  obtain ⟨rfl, hsz, hP, hK, hD0⟩ := hv
  have hx := B.exec
  have hb := B.bytes
  have hr := B.returns
  have hts := atoms_spec (ws := wsX1_open) B.pre
  have hown : s.vm.findClass RX1 = some m.cls := findClass_of_methodNamed B.named
  have hlocks := B.notSynchronized
  subst hsz
  have hD := hD0.self (sz := s.heap.size)
  generalize hAe : va_A [(ra, .inr (3, [.ref al, .ref be])), (al, .inl (cA, 8, .inl (aN fal))), (be, .inl (cA, 448, .inl (aN fbe)))] s.heap.size = A at hD ⊢
  have hA : ∀ q : Nat, s.heap.size ≤ q → A q := fun q h => by rw [← hAe]; exact Or.inr h
  have hS : va_S A s.heap s.heap [] := va_S.rf
  have hP : va_P D vwCl [(ra, .inr (3, [.ref al, .ref be])), (al, .inl (cA, 8, .inl (aN fal))), (be, .inl (cA, 448, .inl (aN fbe)))] s.heap := hP
  have hl := lv_entry ([.ref ra, .int (nI na), .int (nI vs)]) (n := 3) (Nat.le_of_ble_eq_true rfl)
  rw [lg_entry_eq]
  generalize (lg_sl ([.ref ra, .int (nI na), .int (nI vs)]) ++ List.replicate (3 - (lg_sl ([.ref ra, .int (nI na), .int (nI vs)])).length) Slot.unset).toArray = ls at hl ⊢
  have hl : lv_has ls 3 [(0, .ref ra), (1, .int (nI na)), (2, .int (nI vs))] := hl
  refine lv_aload_n hx hb dX1_open_0 rfl (lv_at hl 0 rfl) ?_
  refine va_get (D := D) (ci := 3) (v := .ref al) (C := RX1) (T := TX1) (N := 2) hx hb hts inX1_open_X1 hown hK.1 hP 0 rfl rfl 0 (by decide) (hts _ lkX1_open_9) (fun _ h9 => h9) rfl dX1_open_1 ?_
  refine lv_iload_n hx hb dX1_open_4 rfl (lv_at hl 1 rfl) ?_
  refine lv_iconst (v := nI 2) hx hb dX1_open_5 (by decide) ?_
  refine lv_iload_n hx hb dX1_open_6 rfl (lv_at hl 2 rfl) ?_
  refine nn_ishl hx hb (by omega) dX1_open_7 ?_
  refine lv_iconst (v := nI 1) hx hb dX1_open_8 (by decide) ?_
  refine nn_isub hx hb (shl1_pos vs) dX1_open_9 ?_
  refine nn_ast hx hb hK hP hD hS 1 rfl (by omega) (by decide) dX1_open_10 (fun H locs hP hD hS => ?_)
  have hP : va_P D vwCl [(ra, .inr (3, [.ref al, .ref be])), (al, .inl (cA, 8, .inl (aN (va_up fal na ((2 <<< vs) - 1))))), (be, .inl (cA, 448, .inl (aN fbe)))] H := hP
  have hD : va_D A [(ra, .inr (3, [.ref al, .ref be])), (al, .inl (cA, 8, .inl (aN (va_up fal na ((2 <<< vs) - 1))))), (be, .inl (cA, 448, .inl (aN fbe)))] := hD
  exact W.vret hx hb hr (fun t ht hW => ⟨⟨(), rfl, trivial, by rw [ht]; exact hP, hD⟩, hS.F ht⟩) hS.2.2 dX1_open_11

theorem lkX1_narrow_9 : Cond.fieldLink RX1 9 "LeastChange$Rules" "alone" "[I" ∈ wsX1_narrow := by decide +kernel
theorem inX1_narrow_X1 : ∀ w ∈ wsX10, w ∈ wsX1_narrow := by decide +kernel
set_option maxHeartbeats 4000000 in
set_option maxRecDepth 100000 in
theorem kX1_narrow (l : Launch) (D : va_G) (cA : ClassId) (sz : Nat) (ra : Nat) (al : Nat) (be : Nat) (fal : Nat → Nat) (fbe : Nat → Nat) (na : Nat) (cs : Nat) (hn : na < 8) : zMv l yX1_narrow wsX1_narrow ({ frames := 0, cells := 0, slots := 0, locals := 0 }) D cA [.ref ra, .int (nI na), .int (nI cs)] sz [(ra, .inr (3, [.ref al, .ref be])), (al, .inl (cA, 8, .inl (aN fal))), (be, .inl (cA, 448, .inl (aN fbe)))] [(ra, .inr (3, [.ref al, .ref be])), (al, .inl (cA, 8, .inl (aN (va_up fal na ((fal na) &&& cs))))), (be, .inl (cA, 448, .inl (aN fbe)))] := by
  refine Met.ofW (cc := cX1_narrow) (maxL := 3) (ret := none) (by decide) rfl ?_
  intro p e s m args below meth c s₁ B hml hv
  obtain ⟨rfl, hsz, hP, hK, hD0⟩ := hv
  have hx := B.exec
  have hb := B.bytes
  have hr := B.returns
  have hts := atoms_spec (ws := wsX1_narrow) B.pre
  have hown : s.vm.findClass RX1 = some m.cls := findClass_of_methodNamed B.named
  have hlocks := B.notSynchronized
  subst hsz
  have hD := hD0.self (sz := s.heap.size)
  generalize hAe : va_A [(ra, .inr (3, [.ref al, .ref be])), (al, .inl (cA, 8, .inl (aN fal))), (be, .inl (cA, 448, .inl (aN fbe)))] s.heap.size = A at hD ⊢
  have hA : ∀ q : Nat, s.heap.size ≤ q → A q := fun q h => by rw [← hAe]; exact Or.inr h
  have hS : va_S A s.heap s.heap [] := va_S.rf
  have hP : va_P D vwCl [(ra, .inr (3, [.ref al, .ref be])), (al, .inl (cA, 8, .inl (aN fal))), (be, .inl (cA, 448, .inl (aN fbe)))] s.heap := hP
  have hl := lv_entry ([.ref ra, .int (nI na), .int (nI cs)]) (n := 3) (Nat.le_of_ble_eq_true rfl)
  rw [lg_entry_eq]
  generalize (lg_sl ([.ref ra, .int (nI na), .int (nI cs)]) ++ List.replicate (3 - (lg_sl ([.ref ra, .int (nI na), .int (nI cs)])).length) Slot.unset).toArray = ls at hl ⊢
  have hl : lv_has ls 3 [(0, .ref ra), (1, .int (nI na)), (2, .int (nI cs))] := hl
  refine lv_aload_n hx hb dX1_narrow_0 rfl (lv_at hl 0 rfl) ?_
  refine va_get (D := D) (ci := 3) (v := .ref al) (C := RX1) (T := TX1) (N := 2) hx hb hts inX1_narrow_X1 hown hK.1 hP 0 rfl rfl 0 (by decide) (hts _ lkX1_narrow_9) (fun _ h9 => h9) rfl dX1_narrow_1 ?_
  refine lv_iload_n hx hb dX1_narrow_4 rfl (lv_at hl 1 rfl) ?_
  refine lv_dup2_11 hx hb dX1_narrow_5 rfl rfl ?_
  refine nn_ald hx hb hK hP 1 rfl (by omega) (by decide) dX1_narrow_6 ?_
  refine lv_iload_n hx hb dX1_narrow_7 rfl (lv_at hl 2 rfl) ?_
  refine nn_iand hx hb dX1_narrow_8 ?_
  refine nn_ast hx hb hK hP hD hS 1 rfl (by omega) (by decide) dX1_narrow_9 (fun H locs hP hD hS => ?_)
  have hP : va_P D vwCl [(ra, .inr (3, [.ref al, .ref be])), (al, .inl (cA, 8, .inl (aN (va_up fal na ((fal na) &&& cs))))), (be, .inl (cA, 448, .inl (aN fbe)))] H := hP
  have hD : va_D A [(ra, .inr (3, [.ref al, .ref be])), (al, .inl (cA, 8, .inl (aN (va_up fal na ((fal na) &&& cs))))), (be, .inl (cA, 448, .inl (aN fbe)))] := hD
  exact W.vret hx hb hr (fun t ht hW => ⟨⟨(), rfl, trivial, by rw [ht]; exact hP, hD⟩, hS.F ht⟩) hS.2.2 dX1_narrow_10


/-- without the bit cd -/
def offB (x cd : Nat) : Nat := x &&& ((1 <<< cd) ^^^ 4294967295)
def plc (na cd ot : Nat) : Nat := (na * 7 + cd) * 8 + ot
def tieBody (na cd ot cs : Nat) : Nat → (Nat → Nat) → Nat → Nat := fun oc f => if (cs >>> oc) &&& 1 = 0 then va_up f ((ot * 7 + oc) * 8 + na) ((f ((ot * 7 + oc) * 8 + na)) &&& ((1 <<< cd) ^^^ 4294967295)) else f
def tieBe (na cd ot cs : Nat) (fbe : Nat → Nat) : Nat → Nat := if na = ot then fbe else zlp (tieBody na cd ot cs) 7 0 (va_up fbe ((na * 7 + cd) * 8 + ot) ((fbe ((na * 7 + cd) * 8 + ot)) &&& cs))
def tieAl (na cd ot cs : Nat) (fal : Nat → Nat) : Nat → Nat := if na = ot then (if (cs >>> cd) &&& 1 = 0 then va_up fal na ((fal na) &&& ((1 <<< cd) ^^^ 4294967295)) else fal) else fal

theorem lkX1_tie_15 : Cond.fieldLink RX1 15 "LeastChange$Rules" "beside" "[I" ∈ wsX1_tie := by decide +kernel
theorem inX1_tie_X1 : ∀ w ∈ wsX10, w ∈ wsX1_tie := by decide +kernel
set_option maxHeartbeats 4000000 in
set_option maxRecDepth 100000 in
theorem bX1_tie {p : Program} {l : Launch} {e : Env} {R : Room} {s : State} {m : MethodId} {args : Array Value} {below : List Frame} {meth : Method} {c : Code} {Q : State → Prop} {A : Nat → Prop} {H0 : Heap} {D : va_G} {cA : ClassId} (hx : p.tables.exec = Jvm.exec) (hb : c.code = cX1_tie) (hml : c.maxLocals = 6) (hown : s.vm.findClass RX1 = some m.cls) (hts : ∀ w ∈ wsX1_tie, w.before args s = true) (hK : zK D cA s) (hA : ∀ q, H0.size ≤ q → A q) (ra : Nat) (al : Nat) (be : Nat) (fal : Nat → Nat) (na : Nat) (cd : Nat) (ot : Nat) (cs : Nat) (hn : na < 8) (hc : cd < 7) (ho : ot < 8) (hs : cs < 2147483648) (hRf : 1 ≤ R.frames) (hRl : 22 ≤ R.locals)  : ∀ (k : Nat) (i : Nat) (x : Nat → Nat), (i + k = 7) → ∀ (H : Heap) (locs : List Loc) (ls : Array Slot), va_P D vwCl [(ra, .inr (3, [.ref al, .ref be])), (al, .inl (cA, 8, .inl (aN fal))), (be, .inl (cA, 448, .inl (aN x)))] H → va_D A [(ra, .inr (3, [.ref al, .ref be])), (al, .inl (cA, 8, .inl (aN fal))), (be, .inl (cA, 448, .inl (aN x)))] → va_S A H0 H locs → lv_has ls 6 [(0, .ref ra), (1, .int (nI na)), (2, .int (nI cd)), (3, .int (nI ot)), (4, .int (nI cs)), (5, .int (nI i))] → (∀ (H : Heap) (locs : List Loc) (ls : Array Slot), va_P D vwCl [(ra, .inr (3, [.ref al, .ref be])), (al, .inl (cA, 8, .inl (aN fal))), (be, .inl (cA, 448, .inl (aN (zlp (tieBody na cd ot cs) k i x))))] H → va_D A [(ra, .inr (3, [.ref al, .ref be])), (al, .inl (cA, 8, .inl (aN fal))), (be, .inl (cA, 448, .inl (aN (zlp (tieBody na cd ot cs) k i x))))] → va_S A H0 H locs → lv_has ls 6 [(0, .ref ra)] → W p l e R s m args below meth c H locs 0 0 Q (F0 m 87 ls [])) → W p l e R s m args below meth c H locs 0 0 Q (F0 m 44 ls []) := by
  intro k
  induction k with
  | zero =>
    intro i x hi H locs ls hP hD hS hl kk
    refine lv_iload hx hb dX1_tie_44 (lv_at hl 5 rfl) ?_
    refine lv_bipush (v := nI 7) hx hb dX1_tie_46 (by decide) ?_
    refine nn_icmp_ge (tgt := 87) hx hb dX1_tie_48 (by decide) (by omega) (by omega) (fun c_48 => ?_) (fun c_48 => ?_)
    · exact kk _ _ _ hP hD hS (lv_sub hl [0] rfl)
    · exfalso; omega
  | succ k ih =>
    intro i x hi H locs ls hP hD hS hl kk
    refine lv_iload hx hb dX1_tie_44 (lv_at hl 5 rfl) ?_
    refine lv_bipush (v := nI 7) hx hb dX1_tie_46 (by decide) ?_
    refine nn_icmp_ge (tgt := 87) hx hb dX1_tie_48 (by decide) (by omega) (by omega) (fun c_48 => ?_) (fun c_48 => ?_)
    · exfalso; omega
    · refine lv_iload hx hb dX1_tie_51 (lv_at hl 4 rfl) ?_
      refine lv_iload hx hb dX1_tie_53 (lv_at hl 5 rfl) ?_
      refine nn_ishr hx hb (by omega) (by omega) dX1_tie_55 ?_
      refine lv_iconst (v := nI 1) hx hb dX1_tie_56 (by decide) ?_
      refine nn_iand hx hb dX1_tie_57 ?_
      refine nn_if_ne (tgt := 81) hx hb dX1_tie_58 (by decide) (and1_lt _) (fun c_58 => ?_) (fun c_58 => ?_)
      · refine lv_iinc (v := (nI (i + 1))) (lv' := [(5, .int (nI (i + 1))), (0, .ref ra), (1, .int (nI na)), (2, .int (nI cd)), (3, .int (nI ot)), (4, .int (nI cs))]) hx hb dX1_tie_81 hl (k := 5) rfl (nI_add _ _) (by decide) rfl (fun ls hl => ?_)
        refine lv_goto (tgt := 44) hx hb dX1_tie_84 (by decide) ?_
        have eB0 : tieBody na cd ot cs i x = x := by unfold tieBody; first | exact if_pos c_58 | exact if_neg c_58
        have hP : va_P D vwCl [(ra, .inr (3, [.ref al, .ref be])), (al, .inl (cA, 8, .inl (aN fal))), (be, .inl (cA, 448, .inl (aN (tieBody na cd ot cs i x))))] H := by rw [eB0]; exact hP
        have hD : va_D A [(ra, .inr (3, [.ref al, .ref be])), (al, .inl (cA, 8, .inl (aN fal))), (be, .inl (cA, 448, .inl (aN (tieBody na cd ot cs i x))))] := by rw [eB0]; exact hD
        exact ih (i + 1) (tieBody na cd ot cs i x) (by omega) _ _ _ hP hD hS (lv_sub hl [1, 2, 3, 4, 5, 0] rfl) kk
      · refine lv_aload_n hx hb dX1_tie_61 rfl (lv_at hl 0 rfl) ?_
        refine va_get (D := D) (ci := 3) (v := .ref be) (C := RX1) (T := TX1) (N := 2) hx hb hts inX1_tie_X1 hown hK.1 hP 0 rfl rfl 1 (by decide) (hts _ lkX1_tie_15) (fun _ h9 => h9) rfl dX1_tie_62 ?_
        refine lv_iload_n hx hb dX1_tie_65 rfl (lv_at hl 3 rfl) ?_
        refine lv_iload hx hb dX1_tie_66 (lv_at hl 5 rfl) ?_
        refine lv_iload_n hx hb dX1_tie_68 rfl (lv_at hl 1 rfl) ?_
        refine zz_callI (av := []) (wc := []) (wr := [(ra, .inr (3, [.ref al, .ref be])), (al, .inl (cA, 8, .inl (aN fal))), (be, .inl (cA, 448, .inl (aN x)))]) hS hA hP hD [] [0, 1, 2] rfl rfl (by decide) (by decide) (va_runS (As := [.int (nI ot), .int (nI i), .int (nI na)]) (rest := [.ref be]) ⟨hx, hb, hml, hown, hts⟩ (kX1_place l D cA H.size ot i na ) (va_cwS 3 hts gX1_tie_X1_place rfl rfl rfl (by decide +kernel) ⟨Nat.le_trans (by decide) hRf, Nat.le_trans (by decide) hRl⟩) (zPreS (av := [.int (nI ot), .int (nI i), .int (nI na)]) (wc := []) hK hP hD [] rfl (by decide) rfl) rfl rfl hl.1 rfl (lv_room (Nat.le_of_ble_eq_true rfl)) dX1_tie_69 ⟨Nat.zero_le _, Nat.zero_le _⟩) (fun H locs hP hD hS => ?_)
        have hP : va_P D vwCl [(ra, .inr (3, [.ref al, .ref be])), (al, .inl (cA, 8, .inl (aN fal))), (be, .inl (cA, 448, .inl (aN x)))] H := hP
        have hD : va_D A [(ra, .inr (3, [.ref al, .ref be])), (al, .inl (cA, 8, .inl (aN fal))), (be, .inl (cA, 448, .inl (aN x)))] := hD
        refine lv_dup2_11 hx hb dX1_tie_72 rfl rfl ?_
        refine nn_ald hx hb hK hP 2 rfl (by omega) (by decide) dX1_tie_73 ?_
        refine lv_iconst (v := nI 1) hx hb dX1_tie_74 (by decide) ?_
        refine lv_iload_n hx hb dX1_tie_75 rfl (lv_at hl 2 rfl) ?_
        refine nn_ishl hx hb (by omega) dX1_tie_76 ?_
        refine lv_iconst (v := -1) hx hb dX1_tie_77 (by decide) ?_
        refine nn_inot hx hb dX1_tie_78 ?_
        refine nn_iand hx hb dX1_tie_79 ?_
        refine nn_ast hx hb hK hP hD hS 2 rfl (by omega) (by decide) dX1_tie_80 (fun H locs hP hD hS => ?_)
        have hP : va_P D vwCl [(ra, .inr (3, [.ref al, .ref be])), (al, .inl (cA, 8, .inl (aN fal))), (be, .inl (cA, 448, .inl (aN (va_up x ((ot * 7 + i) * 8 + na) ((x ((ot * 7 + i) * 8 + na)) &&& ((1 <<< cd) ^^^ 4294967295))))))] H := hP
        have hD : va_D A [(ra, .inr (3, [.ref al, .ref be])), (al, .inl (cA, 8, .inl (aN fal))), (be, .inl (cA, 448, .inl (aN (va_up x ((ot * 7 + i) * 8 + na) ((x ((ot * 7 + i) * 8 + na)) &&& ((1 <<< cd) ^^^ 4294967295))))))] := hD
        refine lv_iinc (v := (nI (i + 1))) (lv' := [(5, .int (nI (i + 1))), (0, .ref ra), (1, .int (nI na)), (2, .int (nI cd)), (3, .int (nI ot)), (4, .int (nI cs))]) hx hb dX1_tie_81 hl (k := 5) rfl (nI_add _ _) (by decide) rfl (fun ls hl => ?_)
        refine lv_goto (tgt := 44) hx hb dX1_tie_84 (by decide) ?_
        have eB0 : tieBody na cd ot cs i x = va_up x ((ot * 7 + i) * 8 + na) ((x ((ot * 7 + i) * 8 + na)) &&& ((1 <<< cd) ^^^ 4294967295)) := by unfold tieBody; first | exact if_pos c_58 | exact if_neg c_58
        have hP : va_P D vwCl [(ra, .inr (3, [.ref al, .ref be])), (al, .inl (cA, 8, .inl (aN fal))), (be, .inl (cA, 448, .inl (aN (tieBody na cd ot cs i x))))] H := by rw [eB0]; exact hP
        have hD : va_D A [(ra, .inr (3, [.ref al, .ref be])), (al, .inl (cA, 8, .inl (aN fal))), (be, .inl (cA, 448, .inl (aN (tieBody na cd ot cs i x))))] := by rw [eB0]; exact hD
        exact ih (i + 1) (tieBody na cd ot cs i x) (by omega) _ _ _ hP hD hS (lv_sub hl [1, 2, 3, 4, 5, 0] rfl) kk

set_option maxHeartbeats 4000000 in
set_option maxRecDepth 100000 in
theorem kX1_tie (l : Launch) (D : va_G) (cA : ClassId) (sz : Nat) (ra : Nat) (al : Nat) (be : Nat) (fal : Nat → Nat) (fbe : Nat → Nat) (na : Nat) (cd : Nat) (ot : Nat) (cs : Nat) (hn : na < 8) (hc : cd < 7) (ho : ot < 8) (hs : cs < 2147483648) : zMv l yX1_tie wsX1_tie ({ frames := 1, cells := 0, slots := 0, locals := 22 }) D cA [.ref ra, .int (nI na), .int (nI cd), .int (nI ot), .int (nI cs)] sz [(ra, .inr (3, [.ref al, .ref be])), (al, .inl (cA, 8, .inl (aN fal))), (be, .inl (cA, 448, .inl (aN fbe)))] [(ra, .inr (3, [.ref al, .ref be])), (al, .inl (cA, 8, .inl (aN (tieAl na cd ot cs fal)))), (be, .inl (cA, 448, .inl (aN (tieBe na cd ot cs fbe))))] := by
  refine Met.ofW (cc := cX1_tie) (maxL := 6) (ret := none) (by decide) rfl ?_
  intro p e s m args below meth c s₁ B hml hv
  obtain ⟨rfl, hsz, hP, hK, hD0⟩ := hv
  have hx := B.exec
  have hb := B.bytes
  have hr := B.returns
  have hts := atoms_spec (ws := wsX1_tie) B.pre
  have hown : s.vm.findClass RX1 = some m.cls := findClass_of_methodNamed B.named
  have hlocks := B.notSynchronized
  subst hsz
  have hD := hD0.self (sz := s.heap.size)
  generalize hAe : va_A [(ra, .inr (3, [.ref al, .ref be])), (al, .inl (cA, 8, .inl (aN fal))), (be, .inl (cA, 448, .inl (aN fbe)))] s.heap.size = A at hD ⊢
  have hA : ∀ q : Nat, s.heap.size ≤ q → A q := fun q h => by rw [← hAe]; exact Or.inr h
  have hS : va_S A s.heap s.heap [] := va_S.rf
  have hP : va_P D vwCl [(ra, .inr (3, [.ref al, .ref be])), (al, .inl (cA, 8, .inl (aN fal))), (be, .inl (cA, 448, .inl (aN fbe)))] s.heap := hP
  have hl := lv_entry ([.ref ra, .int (nI na), .int (nI cd), .int (nI ot), .int (nI cs)]) (n := 6) (Nat.le_of_ble_eq_true rfl)
  rw [lg_entry_eq]
  generalize (lg_sl ([.ref ra, .int (nI na), .int (nI cd), .int (nI ot), .int (nI cs)]) ++ List.replicate (6 - (lg_sl ([.ref ra, .int (nI na), .int (nI cd), .int (nI ot), .int (nI cs)])).length) Slot.unset).toArray = ls at hl ⊢
  have hl : lv_has ls 6 [(0, .ref ra), (1, .int (nI na)), (2, .int (nI cd)), (3, .int (nI ot)), (4, .int (nI cs))] := hl
  refine lv_iload_n hx hb dX1_tie_0 rfl (lv_at hl 1 rfl) ?_
  refine lv_iload_n hx hb dX1_tie_1 rfl (lv_at hl 3 rfl) ?_
  refine nn_icmp_ne (tgt := 25) hx hb dX1_tie_2 (by decide) (by omega) (by omega) (fun c_2 => ?_) (fun c_2 => ?_)
  · refine lv_aload_n hx hb dX1_tie_25 rfl (lv_at hl 0 rfl) ?_
    refine va_get (D := D) (ci := 3) (v := .ref be) (C := RX1) (T := TX1) (N := 2) hx hb hts inX1_tie_X1 hown hK.1 hP 0 rfl rfl 1 (by decide) (hts _ lkX1_tie_15) (fun _ h9 => h9) rfl dX1_tie_26 ?_
    refine lv_iload_n hx hb dX1_tie_29 rfl (lv_at hl 1 rfl) ?_
    refine lv_iload_n hx hb dX1_tie_30 rfl (lv_at hl 2 rfl) ?_
    refine lv_iload_n hx hb dX1_tie_31 rfl (lv_at hl 3 rfl) ?_
    refine zz_callI (av := []) (wc := []) (wr := [(ra, .inr (3, [.ref al, .ref be])), (al, .inl (cA, 8, .inl (aN fal))), (be, .inl (cA, 448, .inl (aN fbe)))]) hS hA hP hD [] [0, 1, 2] rfl rfl (by decide) (by decide) (va_runS (As := [.int (nI na), .int (nI cd), .int (nI ot)]) (rest := [.ref be]) ⟨hx, hb, hml, hown, hts⟩ (kX1_place l D cA s.heap.size na cd ot ) (va_cwS 3 hts gX1_tie_X1_place rfl rfl rfl (by decide +kernel) ⟨Nat.le_of_ble_eq_true rfl, Nat.le_of_ble_eq_true rfl⟩) (zPreS (av := [.int (nI na), .int (nI cd), .int (nI ot)]) (wc := []) hK hP hD [] rfl (by decide) rfl) rfl rfl hl.1 rfl (lv_room (Nat.le_of_ble_eq_true rfl)) dX1_tie_32 ⟨Nat.zero_le _, Nat.zero_le _⟩) (fun H locs hP hD hS => ?_)
    have hP : va_P D vwCl [(ra, .inr (3, [.ref al, .ref be])), (al, .inl (cA, 8, .inl (aN fal))), (be, .inl (cA, 448, .inl (aN fbe)))] H := hP
    have hD : va_D A [(ra, .inr (3, [.ref al, .ref be])), (al, .inl (cA, 8, .inl (aN fal))), (be, .inl (cA, 448, .inl (aN fbe)))] := hD
    refine lv_dup2_11 hx hb dX1_tie_35 rfl rfl ?_
    refine nn_ald hx hb hK hP 2 rfl (by omega) (by decide) dX1_tie_36 ?_
    refine lv_iload hx hb dX1_tie_37 (lv_at hl 4 rfl) ?_
    refine nn_iand hx hb dX1_tie_39 ?_
    refine nn_ast hx hb hK hP hD hS 2 rfl (by omega) (by decide) dX1_tie_40 (fun H locs hP hD hS => ?_)
    have hP : va_P D vwCl [(ra, .inr (3, [.ref al, .ref be])), (al, .inl (cA, 8, .inl (aN fal))), (be, .inl (cA, 448, .inl (aN (va_up fbe ((na * 7 + cd) * 8 + ot) ((fbe ((na * 7 + cd) * 8 + ot)) &&& cs)))))] H := hP
    have hD : va_D A [(ra, .inr (3, [.ref al, .ref be])), (al, .inl (cA, 8, .inl (aN fal))), (be, .inl (cA, 448, .inl (aN (va_up fbe ((na * 7 + cd) * 8 + ot) ((fbe ((na * 7 + cd) * 8 + ot)) &&& cs)))))] := hD
    refine lv_iconst (v := nI 0) hx hb dX1_tie_41 (by decide) ?_
    refine lv_istore (lv' := [(5, .int (nI 0)), (0, .ref ra), (1, .int (nI na)), (2, .int (nI cd)), (3, .int (nI ot)), (4, .int (nI cs))]) hx hb dX1_tie_42 hl (by decide) rfl (fun ls hl => ?_)
    refine bX1_tie hx hb hml hown hts hK hA ra al be fal na cd ot cs hn hc ho hs (Nat.le_of_ble_eq_true rfl) (Nat.le_of_ble_eq_true rfl) 7 0 (va_up fbe ((na * 7 + cd) * 8 + ot) ((fbe ((na * 7 + cd) * 8 + ot)) &&& cs)) (by omega) _ _ ls hP hD hS (lv_sub hl [1, 2, 3, 4, 5, 0] rfl) (fun H locs ls hP hD hS hl => ?_)
    have eW : ([(ra, .inr (3, [.ref al, .ref be])), (al, .inl (cA, 8, .inl (aN fal))), (be, .inl (cA, 448, .inl (aN (zlp (tieBody na cd ot cs) 7 0 (va_up fbe ((na * 7 + cd) * 8 + ot) ((fbe ((na * 7 + cd) * 8 + ot)) &&& cs))))))] : va_W) = [(ra, .inr (3, [.ref al, .ref be])), (al, .inl (cA, 8, .inl (aN (tieAl na cd ot cs fal)))), (be, .inl (cA, 448, .inl (aN (tieBe na cd ot cs fbe))))] := by unfold tieAl tieBe; (repeat' (first | rfl | (exfalso; omega) | contradiction | split))
    rw [eW] at hP hD
    exact W.vret hx hb hr (fun t ht hW => ⟨⟨(), rfl, trivial, by rw [ht]; exact hP, hD⟩, hS.F ht⟩) hS.2.2 dX1_tie_87
  · refine lv_iload hx hb dX1_tie_5 (lv_at hl 4 rfl) ?_
    refine lv_iload_n hx hb dX1_tie_7 rfl (lv_at hl 2 rfl) ?_
    refine nn_ishr hx hb (by omega) (by omega) dX1_tie_8 ?_
    refine lv_iconst (v := nI 1) hx hb dX1_tie_9 (by decide) ?_
    refine nn_iand hx hb dX1_tie_10 ?_
    refine nn_if_ne (tgt := 24) hx hb dX1_tie_11 (by decide) (and1_lt _) (fun c_11 => ?_) (fun c_11 => ?_)
    · have eW : ([(ra, .inr (3, [.ref al, .ref be])), (al, .inl (cA, 8, .inl (aN fal))), (be, .inl (cA, 448, .inl (aN fbe)))] : va_W) = [(ra, .inr (3, [.ref al, .ref be])), (al, .inl (cA, 8, .inl (aN (tieAl na cd ot cs fal)))), (be, .inl (cA, 448, .inl (aN (tieBe na cd ot cs fbe))))] := by unfold tieAl tieBe; (repeat' (first | rfl | (exfalso; omega) | contradiction | split))
      rw [eW] at hP hD
      exact W.vret hx hb hr (fun t ht hW => ⟨⟨(), rfl, trivial, by rw [ht]; exact hP, hD⟩, hS.F ht⟩) hS.2.2 dX1_tie_24
    · refine lv_aload_n hx hb dX1_tie_14 rfl (lv_at hl 0 rfl) ?_
      refine lv_iload_n hx hb dX1_tie_15 rfl (lv_at hl 1 rfl) ?_
      refine lv_iconst (v := nI 1) hx hb dX1_tie_16 (by decide) ?_
      refine lv_iload_n hx hb dX1_tie_17 rfl (lv_at hl 2 rfl) ?_
      refine nn_ishl hx hb (by omega) dX1_tie_18 ?_
      refine lv_iconst (v := -1) hx hb dX1_tie_19 (by decide) ?_
      refine nn_inot hx hb dX1_tie_20 ?_
      refine zz_callV (av := []) (wc := [(ra, .inr (3, [.ref al, .ref be])), (al, .inl (cA, 8, .inl (aN fal))), (be, .inl (cA, 448, .inl (aN fbe)))]) (wr := []) hS hA hP hD [0, 1, 2] [] rfl rfl (by decide) (by decide) (va_runV (As := [.int (nI na), .int (nI ((1 <<< cd) ^^^ 4294967295))]) (rest := []) ⟨hx, hb, hml, hown, hts⟩ (kX1_narrow l D cA s.heap.size ra al be fal fbe na ((1 <<< cd) ^^^ 4294967295) (by omega)) (cwV 2 hts gX1_tie_X1_narrow rfl rfl rfl (by decide +kernel) ⟨Nat.le_of_ble_eq_true rfl, Nat.le_of_ble_eq_true rfl⟩) ⟨(zPreS (av := [.ref ra, .int (nI na), .int (nI ((1 <<< cd) ^^^ 4294967295))]) (wc := [(ra, .inr (3, [.ref al, .ref be])), (al, .inl (cA, 8, .inl (aN fal))), (be, .inl (cA, 448, .inl (aN fbe)))]) hK hP hD [0, 1, 2] rfl (by decide) rfl).1, (va_recv hK.1 hP (ci := 3) (q0 := 0) rfl rfl), (zPreS (av := [.ref ra, .int (nI na), .int (nI ((1 <<< cd) ^^^ 4294967295))]) (wc := [(ra, .inr (3, [.ref al, .ref be])), (al, .inl (cA, 8, .inl (aN fal))), (be, .inl (cA, 448, .inl (aN fbe)))]) hK hP hD [0, 1, 2] rfl (by decide) rfl).2⟩ rfl rfl hl.1 rfl (lv_room (Nat.le_of_ble_eq_true rfl)) dX1_tie_21 ⟨Nat.zero_le _, Nat.zero_le _⟩) (fun H locs hP hD hS => ?_)
      have hP : va_P D vwCl [(ra, .inr (3, [.ref al, .ref be])), (al, .inl (cA, 8, .inl (aN (va_up fal na ((fal na) &&& ((1 <<< cd) ^^^ 4294967295)))))), (be, .inl (cA, 448, .inl (aN fbe)))] H := hP
      have hD : va_D A [(ra, .inr (3, [.ref al, .ref be])), (al, .inl (cA, 8, .inl (aN (va_up fal na ((fal na) &&& ((1 <<< cd) ^^^ 4294967295)))))), (be, .inl (cA, 448, .inl (aN fbe)))] := hD
      have eW : ([(ra, .inr (3, [.ref al, .ref be])), (al, .inl (cA, 8, .inl (aN (va_up fal na ((fal na) &&& ((1 <<< cd) ^^^ 4294967295)))))), (be, .inl (cA, 448, .inl (aN fbe)))] : va_W) = [(ra, .inr (3, [.ref al, .ref be])), (al, .inl (cA, 8, .inl (aN (tieAl na cd ot cs fal)))), (be, .inl (cA, 448, .inl (aN (tieBe na cd ot cs fbe))))] := by unfold tieAl tieBe; (repeat' (first | rfl | (exfalso; omega) | contradiction | split))
      rw [eW] at hP hD
      exact W.vret hx hb hr (fun t ht hW => ⟨⟨(), rfl, trivial, by rw [ht]; exact hP, hD⟩, hS.F ht⟩) hS.2.2 dX1_tie_24

