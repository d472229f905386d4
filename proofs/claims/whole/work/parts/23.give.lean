
/-- what a search changes: left, tried, kept, keptCost, costBound -/
abbrev Sg : Type := (Nat → Nat) × (Nat → Nat) × (Nat → Nat) × Nat × Nat
def GInv (x : Sg) : Prop := (∀ j, x.1 j < 128) ∧ x.2.2.2.2 ≤ 144
def keepF (nm ef co : Nat) (x : Sg) : Sg := (x.1, x.2.1, zlp (kpBody x.2.1) nm 0 x.2.2.1, co, if ef = 0 then co else 0)
/-- leavesAsMuch: 1 if what this code leaves of later names the rival leaves too -/
def lamL (fbe fle : Nat → Nat) (fr br bs : Nat) : Nat → Nat → Nat
  | 0, _ => 1
  | k + 1, o => if ((fle (fr + o)) &&& (fbe (bs + o))) &&& ((fbe (br + o)) ^^^ 4294967295) = 0 then lamL fbe fle fr br bs k (o + 1) else 0
def lamF (nm : Nat) (fbe fle : Nat → Nat) (na br bs : Nat) : Nat := lamL fbe fle (na * 8) br bs (nm - (na + 1)) (na + 1)
theorem lamL_lt (fbe fle : Nat → Nat) (fr br bs : Nat) : ∀ k o, lamL fbe fle fr br bs k o < 2147483648 := by
  intro k
  induction k with
  | zero => intro o; show 1 < 2147483648; decide
  | succ k ih =>
    intro o
    rw [lamL]
    split
    · exact ih _
    · decide
theorem lamF_lt {nm : Nat} {fbe fle : Nat → Nat} {na br bs : Nat} : lamF nm fbe fle na br bs < 2147483648 := lamL_lt _ _ _ _ _ _ _
def rivF (hm cd bf : Nat) : Nat := if cd ≠ 0 ∧ cd < hm then bf else bf &&& ((((1 <<< hm) - 1) &&& 4294967294) ^^^ 4294967295)
theorem rivF_le {hm cd bf : Nat} : rivF hm cd bf ≤ bf := by
  unfold rivF
  split
  · exact Nat.le_refl _
  · exact Nat.and_le_left
def ndL (P : Nat → Nat) (rv : Nat) : Nat → Nat → Nat
  | 0, _ => 0
  | k + 1, r => if (rv >>> r) &&& 1 = 0 then ndL P rv k (r + 1) else if P r = 0 then ndL P rv k (r + 1) else 1
/-- isNeedless -/
def ndF (nm : Nat) (fbe fle : Nat → Nat) (hm na cd bf : Nat) : Nat := ndL (fun r => lamF nm fbe fle na ((na * 7 + r) * 8 + 0) ((na * 7 + cd) * 8 + 0)) (rivF hm cd bf) 7 0
theorem ndL_lt (P : Nat → Nat) (rv : Nat) : ∀ k r, ndL P rv k r < 2147483648 := by
  intro k
  induction k with
  | zero => intro r; show 0 < 2147483648; decide
  | succ k ih =>
    intro r
    rw [ndL]
    repeat' split
    · exact ih _
    · exact ih _
    · decide
theorem ndF_lt {nm : Nat} {fbe fle : Nat → Nat} {hm na cd bf : Nat} : ndF nm fbe fle hm na cd bf < 2147483648 := ndL_lt _ _ _ _
def giveStep (rc : Nat → Nat → Sg → Sg) (nm : Nat) (fbe fho : Nat → Nat) (na cd co bf : Nat) (x : Sg) : Sg :=
  if (co + costN cd (fho na)) + (nrF nm fbe fho na cd x.2.2.2.2 (co + costN cd (fho na)) x.1).1 < x.2.2.2.2 then
    (if ndF nm fbe (nrF nm fbe fho na cd x.2.2.2.2 (co + costN cd (fho na)) x.1).2 (fho na) na cd bf = 0 then rc (na + 1) (co + costN cd (fho na)) ((nrF nm fbe fho na cd x.2.2.2.2 (co + costN cd (fho na)) x.1).2, va_up x.2.1 na cd, x.2.2)
    else ((nrF nm fbe fho na cd x.2.2.2.2 (co + costN cd (fho na)) x.1).2, x.2))
  else ((nrF nm fbe fho na cd x.2.2.2.2 (co + costN cd (fho na)) x.1).2, x.2)
/-- the codes from k - 1 down, with what came before -/
def gfLoop (g : Nat → Nat → Sg → Sg) (cs fi : Nat) : Nat → Nat → Sg → Sg
  | 0, _, x => x
  | k + 1, bf, x => if k = fi then gfLoop g cs fi k bf x else if (cs >>> k) &&& 1 = 0 then gfLoop g cs fi k bf x else gfLoop g cs fi k (bf ||| (1 <<< k)) (g k bf x)
def giveFromF (nm ef : Nat) (fbe fho : Nat → Nat) : Nat → Nat → Nat → Sg → Sg
  | 0, _, co, x => keepF nm ef co x
  | d + 1, na, co, x => if ((x.1 (na * 8 + na)) >>> (fho na)) &&& 1 = 0 then gfLoop (fun cd bf y => giveStep (giveFromF nm ef fbe fho d) nm fbe fho na cd co bf y) (x.1 (na * 8 + na)) (fho na) 7 0 x
    else gfLoop (fun cd bf y => giveStep (giveFromF nm ef fbe fho d) nm fbe fho na cd co bf y) (x.1 (na * 8 + na)) (fho na) 7 (1 <<< (fho na)) (giveStep (giveFromF nm ef fbe fho d) nm fbe fho na (fho na) co 0 x)
theorem giveStep_P {P : Sg → Prop} {rc : Nat → Nat → Sg → Sg} {nm : Nat} {fbe fho : Nat → Nat} {na cd co bf : Nat} {x : Sg} (h1 : P (rc (na + 1) (co + costN cd (fho na)) ((nrF nm fbe fho na cd x.2.2.2.2 (co + costN cd (fho na)) x.1).2, va_up x.2.1 na cd, x.2.2))) (h2 : P ((nrF nm fbe fho na cd x.2.2.2.2 (co + costN cd (fho na)) x.1).2, x.2)) : P (giveStep rc nm fbe fho na cd co bf x) := by
  unfold giveStep
  split
  · split
    · exact h1
    · exact h2
  · exact h2
theorem gfLoop_P {P : Sg → Prop} {g : Nat → Nat → Sg → Sg} {cs fi : Nat} (hg : ∀ cd bf y, cd < 7 → P y → P (g cd bf y)) : ∀ k bf x, k ≤ 7 → P x → P (gfLoop g cs fi k bf x) := by
  intro k
  induction k with
  | zero => intro bf x _ h; exact h
  | succ k ih =>
    intro bf x hk h
    rw [gfLoop]
    repeat' split
    · exact ih _ _ (by omega) h
    · exact ih _ _ (by omega) h
    · exact ih _ _ (by omega) (hg _ _ _ (by omega) h)
theorem giveFromF_P {P : Sg → Prop} {nm ef : Nat} {fbe fho : Nat → Nat} {d na co : Nat} {x : Sg} (hs : ∀ cd bf y, (cd < 7 ∨ cd = fho na) → P y → P (giveStep (giveFromF nm ef fbe fho d) nm fbe fho na cd co bf y)) (h : P x) : P (giveFromF nm ef fbe fho (d + 1) na co x) := by
  rw [giveFromF]
  split
  · exact gfLoop_P (fun cd bf y hc hy => hs cd bf y (Or.inl hc) hy) _ _ _ (Nat.le_refl _) h
  · exact gfLoop_P (fun cd bf y hc hy => hs cd bf y (Or.inl hc) hy) _ _ _ (Nat.le_refl _) (hs _ _ _ (Or.inr rfl) h)
theorem giveStep_inv {rc : Nat → Nat → Sg → Sg} {nm : Nat} {fbe fho : Nat → Nat} {na cd co bf : Nat} {x : Sg} (hrc : ∀ co' y, co' ≤ 17 * (na + 1) → GInv y → GInv (rc (na + 1) co' y)) (hc : co ≤ 17 * na) (h : GInv x) : GInv (giveStep rc nm fbe fho na cd co bf x) := by
  have h1 := costN_le cd (fho na)
  refine giveStep_P (hrc _ _ (by omega) ⟨nrF_lt h.1, h.2⟩) ⟨nrF_lt h.1, h.2⟩
theorem giveFromF_inv {nm ef : Nat} {fbe fho : Nat → Nat} : ∀ d na co x, co ≤ 17 * na → na + d ≤ 8 → GInv x → GInv (giveFromF nm ef fbe fho d na co x) := by
  intro d
  induction d with
  | zero =>
    intro na co x hc hn h
    refine ⟨h.1, ?_⟩
    show (if ef = 0 then co else 0) ≤ 144
    split <;> omega
  | succ d ih =>
    intro na co x hc hn h
    exact giveFromF_P (P := GInv) (fun cd bf y _ hy => giveStep_inv (fun co' z h1 h2 => ih _ _ _ h1 (by omega) h2) hc hy) h
theorem shl_lt128 {k : Nat} (h : k < 7) : 1 <<< k < 128 := by
  rw [Nat.one_shiftLeft]
  exact Nat.lt_of_lt_of_le (Nat.pow_lt_pow_right (by decide) h) (by decide)
theorem or_lt128 {b k : Nat} (hb : b < 128) (h : k < 7) : b ||| (1 <<< k) < 128 := Nat.or_lt_two_pow (n := 7) hb (shl_lt128 h)
theorem shl_pos (v : Nat) : 1 ≤ 1 <<< v := by rw [Nat.one_shiftLeft]; exact Nat.one_le_two_pow
theorem bit_lt7 {cs k : Nat} (h : cs < 128) (hb : ¬ (cs >>> k) &&& 1 = 0) : k < 7 := by
  rcases Nat.lt_or_ge k 7 with q | q
  · exact q
  · exfalso
    apply hb
    have h1 : cs >>> k = 0 := by
      rw [Nat.shiftRight_eq_div_pow]
      apply Nat.div_eq_of_lt
      exact Nat.lt_of_lt_of_le h (show 2 ^ 7 ≤ 2 ^ k from Nat.pow_le_pow_right (by decide) q)
    rw [h1]
    rfl
theorem nI_decm (k : Nat) : nI k + (-1) = mI k := by
  unfold mI
  rw [Int32.sub_eq_add_neg]

set_option maxHeartbeats 4000000 in
set_option maxRecDepth 100000 in
theorem kX2_downCodes (l : Launch) (D : va_G) (cA : ClassId) (sz : Nat) (hm : Nat) (hh : hm < 32) : zMi l yX2_downCodes wsX2_downCodes ({ frames := 0, cells := 0, slots := 0, locals := 0 }) D cA [.int (nI hm)] sz [] [] (nI (((1 <<< hm) - 1) &&& 4294967294)) := by
  refine Met.ofW (cc := cX2_downCodes) (maxL := 1) (ret := (some .int)) (by decide) rfl ?_
  intro p e s m args below meth c s₁ B hml hv
  obtain ⟨rfl, hsz, hP, hK, hD0⟩ := hv
  have hx := B.exec
  have hb := B.bytes
  have hr := B.returns
  have hts := atoms_spec (ws := wsX2_downCodes) B.pre
  have hown : s.vm.findClass RX2 = some m.cls := findClass_of_methodNamed B.named
  have hlocks := B.notSynchronized
  subst hsz
  have hD := hD0.self (sz := s.heap.size)
  generalize hAe : va_A [] s.heap.size = A at hD ⊢
  have hA : ∀ q : Nat, s.heap.size ≤ q → A q := fun q h => by rw [← hAe]; exact Or.inr h
  have hS : va_S A s.heap s.heap [] := va_S.rf
  have hP : va_P D vwCl [] s.heap := hP
  have hl := lv_entry ([.int (nI hm)]) (n := 1) (Nat.le_of_ble_eq_true rfl)
  rw [lg_entry_eq]
  generalize (lg_sl ([.int (nI hm)]) ++ List.replicate (1 - (lg_sl ([.int (nI hm)])).length) Slot.unset).toArray = ls at hl ⊢
  have hl : lv_has ls 1 [(0, .int (nI hm))] := hl
  refine lv_iconst (v := nI 1) hx hb dX2_downCodes_0 (by decide) ?_
  refine lv_iload_n hx hb dX2_downCodes_1 rfl (lv_at hl 0 rfl) ?_
  refine nn_ishl hx hb (by omega) dX2_downCodes_2 ?_
  refine lv_iconst (v := nI 1) hx hb dX2_downCodes_3 (by decide) ?_
  refine nn_isub hx hb (shl_pos hm) dX2_downCodes_4 ?_
  refine lv_bipush (v := -2) hx hb dX2_downCodes_5 (by decide) ?_
  refine zz_top (y := (nI 4294967294)) rfl ?_
  refine nn_iand hx hb dX2_downCodes_7 ?_
  exact W.iret (v := (nI (((1 <<< hm) - 1) &&& 4294967294))) hx hb hr (fun t ht hW => ⟨⟨(nI (((1 <<< hm) - 1) &&& 4294967294)), (), rfl, rfl, by rw [ht]; exact hP, hD⟩, hS.F ht⟩) hS.2.2 dX2_downCodes_8

theorem lkX2_leavesAsMuch_11 : Cond.fieldLink RX2 11 "LeastChange$Search" "left" "[I" ∈ wsX2_leavesAsMuch := by decide +kernel
theorem lkX2_leavesAsMuch_24 : Cond.fieldLink RX2 24 "LeastChange$Search" "names" "I" ∈ wsX2_leavesAsMuch := by decide +kernel
theorem lkX2_leavesAsMuch_38 : Cond.fieldLink RX2 38 "LeastChange$Search" "rules" "LLeastChange$Rules;" ∈ wsX2_leavesAsMuch := by decide +kernel
theorem inX2_leavesAsMuch_X1 : ∀ w ∈ wsX10, w ∈ wsX2_leavesAsMuch := by decide +kernel
theorem inX2_leavesAsMuch_X2 : ∀ w ∈ wsX20, w ∈ wsX2_leavesAsMuch := by decide +kernel
set_option maxHeartbeats 4000000 in
set_option maxRecDepth 100000 in
theorem kX2_leavesAsMuch (l : Launch) (D : va_G) (cA : ClassId) (sz : Nat) (sa : Nat) (le : Nat) (ho : Nat) (tr : Nat) (ke : Nat) (ra : Nat) (al : Nat) (be : Nat) (fle : Nat → Nat) (fbe : Nat → Nat) (nm : Nat) (kc : Nat) (cb : Nat) (ef : Nat) (na : Nat) (br : Nat) (bs : Nat) (hn : nm ≤ 8) (hna : na < nm) (hbr : br ≤ 440) (hbs : bs ≤ 440) (hle : ∀ j, fle j < 128) : zMi l yX2_leavesAsMuch wsX2_leavesAsMuch ({ frames := 0, cells := 0, slots := 0, locals := 0 }) D cA [.ref sa, .int (nI na), .int (nI br), .int (nI bs)] sz [(sa, .inr (4, [.ref ra, .ref le, .ref ho, .ref tr, .ref ke, .int (nI nm), .int (nI kc), .int (nI cb), .int (nI ef)])), (le, .inl (cA, 72, .inl (aN fle))), (ra, .inr (3, [.ref al, .ref be])), (be, .inl (cA, 448, .inl (aN fbe)))] [(sa, .inr (4, [.ref ra, .ref le, .ref ho, .ref tr, .ref ke, .int (nI nm), .int (nI kc), .int (nI cb), .int (nI ef)])), (le, .inl (cA, 72, .inl (aN fle))), (ra, .inr (3, [.ref al, .ref be])), (be, .inl (cA, 448, .inl (aN fbe)))] (nI (lamF nm fbe fle na br bs)) := by
  refine Met.ofW (cc := cX2_leavesAsMuch) (maxL := 6) (ret := (some .boolean)) (by decide) rfl ?_
  intro p e s m args below meth c s₁ B hml hv
  obtain ⟨rfl, hsz, hP, hK, hD0⟩ := hv
  have hx := B.exec
  have hb := B.bytes
  have hr := B.returns
  have hts := atoms_spec (ws := wsX2_leavesAsMuch) B.pre
  have hown : s.vm.findClass RX2 = some m.cls := findClass_of_methodNamed B.named
  have hlocks := B.notSynchronized
  subst hsz
  have hD := hD0.self (sz := s.heap.size)
  generalize hAe : va_A [(sa, .inr (4, [.ref ra, .ref le, .ref ho, .ref tr, .ref ke, .int (nI nm), .int (nI kc), .int (nI cb), .int (nI ef)])), (le, .inl (cA, 72, .inl (aN fle))), (ra, .inr (3, [.ref al, .ref be])), (be, .inl (cA, 448, .inl (aN fbe)))] s.heap.size = A at hD ⊢
  have hA : ∀ q : Nat, s.heap.size ≤ q → A q := fun q h => by rw [← hAe]; exact Or.inr h
  have hS : va_S A s.heap s.heap [] := va_S.rf
  have hP : va_P D vwCl [(sa, .inr (4, [.ref ra, .ref le, .ref ho, .ref tr, .ref ke, .int (nI nm), .int (nI kc), .int (nI cb), .int (nI ef)])), (le, .inl (cA, 72, .inl (aN fle))), (ra, .inr (3, [.ref al, .ref be])), (be, .inl (cA, 448, .inl (aN fbe)))] s.heap := hP
  have hl := lv_entry ([.ref sa, .int (nI na), .int (nI br), .int (nI bs)]) (n := 6) (Nat.le_of_ble_eq_true rfl)
  rw [lg_entry_eq]
  generalize (lg_sl ([.ref sa, .int (nI na), .int (nI br), .int (nI bs)]) ++ List.replicate (6 - (lg_sl ([.ref sa, .int (nI na), .int (nI br), .int (nI bs)])).length) Slot.unset).toArray = ls at hl ⊢
  have hl : lv_has ls 6 [(0, .ref sa), (1, .int (nI na)), (2, .int (nI br)), (3, .int (nI bs))] := hl
  refine lv_iload_n hx hb dX2_leavesAsMuch_0 rfl (lv_at hl 1 rfl) ?_
  refine lv_bipush (v := nI 8) hx hb dX2_leavesAsMuch_1 (by decide) ?_
  refine nn_imul hx hb dX2_leavesAsMuch_3 ?_
  refine lv_istore (lv' := [(4, .int (nI (na * 8))), (0, .ref sa), (1, .int (nI na)), (2, .int (nI br)), (3, .int (nI bs))]) hx hb dX2_leavesAsMuch_4 hl (by decide) rfl (fun ls hl => ?_)
  refine lv_iload_n hx hb dX2_leavesAsMuch_6 rfl (lv_at hl 2 rfl) ?_
  refine lv_iconst (v := nI 1) hx hb dX2_leavesAsMuch_7 (by decide) ?_
  refine nn_iadd hx hb dX2_leavesAsMuch_8 ?_
  refine lv_istore (lv' := [(5, .int (nI (na + 1))), (4, .int (nI (na * 8))), (0, .ref sa), (1, .int (nI na)), (2, .int (nI br)), (3, .int (nI bs))]) hx hb dX2_leavesAsMuch_9 hl (by decide) rfl (fun ls hl => ?_)
  suffices hgo : ∀ (k : Nat) (o : Nat), (o + k = nm) → (lamL fbe fle (na * 8) br bs k o = lamF nm fbe fle na br bs) → ∀ (H : Heap) (locs : List Loc) (ls : Array Slot), va_P D vwCl [(sa, .inr (4, [.ref ra, .ref le, .ref ho, .ref tr, .ref ke, .int (nI nm), .int (nI kc), .int (nI cb), .int (nI ef)])), (le, .inl (cA, 72, .inl (aN fle))), (ra, .inr (3, [.ref al, .ref be])), (be, .inl (cA, 448, .inl (aN fbe)))] H → va_D A [(sa, .inr (4, [.ref ra, .ref le, .ref ho, .ref tr, .ref ke, .int (nI nm), .int (nI kc), .int (nI cb), .int (nI ef)])), (le, .inl (cA, 72, .inl (aN fle))), (ra, .inr (3, [.ref al, .ref be])), (be, .inl (cA, 448, .inl (aN fbe)))] → va_S A s.heap H locs → lv_has ls 6 [(0, .ref sa), (1, .int (nI na)), (2, .int (nI br)), (3, .int (nI bs)), (4, .int (nI (na * 8))), (5, .int (nI o))] → W p l e (headSpec wsX2_leavesAsMuch ({ frames := 0, cells := 0, slots := 0, locals := 0 })).room s m ([.ref sa, .int (nI na), .int (nI br), .int (nI bs)]).toArray below meth c H locs 0 0 (MQ below (va_Qi (fun r _ => r = (nI (lamF nm fbe fle na br bs))) (zB D A [(sa, .inr (4, [.ref ra, .ref le, .ref ho, .ref tr, .ref ke, .int (nI nm), .int (nI kc), .int (nI cb), .int (nI ef)])), (le, .inl (cA, 72, .inl (aN fle))), (ra, .inr (3, [.ref al, .ref be])), (be, .inl (cA, 448, .inl (aN fbe)))]) A) ([.ref sa, .int (nI na), .int (nI br), .int (nI bs)]).toArray s 0 0 A) (F0 m 11 ls []) from hgo (nm - (na + 1)) (na + 1) (by omega) rfl _ _ ls hP hD hS (lv_sub hl [2, 3, 4, 5, 1, 0] rfl)
  clear hP hD hS hl
  intro k
  induction k with
  | zero =>
    intro o hi hE H locs ls hP hD hS hl
    refine lv_iload hx hb dX2_leavesAsMuch_11 (lv_at hl 5 rfl) ?_
    refine lv_aload_n hx hb dX2_leavesAsMuch_13 rfl (lv_at hl 0 rfl) ?_
    refine va_get (D := D) (ci := 4) (v := .int (nI nm)) (C := RX2) (T := TX2) (N := 9) hx hb hts inX2_leavesAsMuch_X2 hown hK.1 hP 0 rfl rfl 5 (by decide) (hts _ lkX2_leavesAsMuch_24) (fun _ h9 => h9) rfl dX2_leavesAsMuch_14 ?_
    refine nn_icmp_ge (tgt := 69) hx hb dX2_leavesAsMuch_17 (by decide) (by omega) (by omega) (fun c_17 => ?_) (fun c_17 => ?_)
    · refine lv_iconst (v := nI 1) hx hb dX2_leavesAsMuch_69 (by decide) ?_
      exact W.zret (v := (nI 1)) hx hb hr rfl (fun t ht hW => ⟨⟨(nI 1), (), rfl, (by rw [← hE]; rfl), by rw [ht]; exact hP, hD⟩, hS.F ht⟩) hS.2.2 dX2_leavesAsMuch_70
    · exfalso; omega
  | succ k ih =>
    intro o hi hE H locs ls hP hD hS hl
    refine lv_iload hx hb dX2_leavesAsMuch_11 (lv_at hl 5 rfl) ?_
    refine lv_aload_n hx hb dX2_leavesAsMuch_13 rfl (lv_at hl 0 rfl) ?_
    refine va_get (D := D) (ci := 4) (v := .int (nI nm)) (C := RX2) (T := TX2) (N := 9) hx hb hts inX2_leavesAsMuch_X2 hown hK.1 hP 0 rfl rfl 5 (by decide) (hts _ lkX2_leavesAsMuch_24) (fun _ h9 => h9) rfl dX2_leavesAsMuch_14 ?_
    refine nn_icmp_ge (tgt := 69) hx hb dX2_leavesAsMuch_17 (by decide) (by omega) (by omega) (fun c_17 => ?_) (fun c_17 => ?_)
    · exfalso; omega
    · refine lv_aload_n hx hb dX2_leavesAsMuch_20 rfl (lv_at hl 0 rfl) ?_
      refine va_get (D := D) (ci := 4) (v := .ref le) (C := RX2) (T := TX2) (N := 9) hx hb hts inX2_leavesAsMuch_X2 hown hK.1 hP 0 rfl rfl 1 (by decide) (hts _ lkX2_leavesAsMuch_11) (fun _ h9 => h9) rfl dX2_leavesAsMuch_21 ?_
      refine lv_iload hx hb dX2_leavesAsMuch_24 (lv_at hl 4 rfl) ?_
      refine lv_iload hx hb dX2_leavesAsMuch_26 (lv_at hl 5 rfl) ?_
      refine nn_iadd hx hb dX2_leavesAsMuch_28 ?_
      refine nn_ald hx hb hK hP 1 rfl (by omega) (by decide) dX2_leavesAsMuch_29 ?_
      refine lv_aload_n hx hb dX2_leavesAsMuch_30 rfl (lv_at hl 0 rfl) ?_
      refine va_get (D := D) (ci := 4) (v := .ref ra) (C := RX2) (T := TX2) (N := 9) hx hb hts inX2_leavesAsMuch_X2 hown hK.1 hP 0 rfl rfl 0 (by decide) (hts _ lkX2_leavesAsMuch_38) (fun _ h9 => h9) rfl dX2_leavesAsMuch_31 ?_
      refine va_getN (D := D) (ci := 3) (v := .ref be) (C := RX1) (T := TX1) (N := 2) hx hb hts inX2_leavesAsMuch_X1 hown hK.1 hP 2 rfl rfl 1 (by decide) (va_Nw.use rfl (hK.2 _ nkX2_89)) (fun _ h9 => h9) rfl dX2_leavesAsMuch_34 ?_
      refine lv_iload_n hx hb dX2_leavesAsMuch_37 rfl (lv_at hl 3 rfl) ?_
      refine lv_iload hx hb dX2_leavesAsMuch_38 (lv_at hl 5 rfl) ?_
      refine nn_iadd hx hb dX2_leavesAsMuch_40 ?_
      refine nn_ald hx hb hK hP 3 rfl (by omega) (by decide) dX2_leavesAsMuch_41 ?_
      refine nn_iand hx hb dX2_leavesAsMuch_42 ?_
      refine lv_aload_n hx hb dX2_leavesAsMuch_43 rfl (lv_at hl 0 rfl) ?_
      refine va_get (D := D) (ci := 4) (v := .ref ra) (C := RX2) (T := TX2) (N := 9) hx hb hts inX2_leavesAsMuch_X2 hown hK.1 hP 0 rfl rfl 0 (by decide) (hts _ lkX2_leavesAsMuch_38) (fun _ h9 => h9) rfl dX2_leavesAsMuch_44 ?_
      refine va_getN (D := D) (ci := 3) (v := .ref be) (C := RX1) (T := TX1) (N := 2) hx hb hts inX2_leavesAsMuch_X1 hown hK.1 hP 2 rfl rfl 1 (by decide) (va_Nw.use rfl (hK.2 _ nkX2_89)) (fun _ h9 => h9) rfl dX2_leavesAsMuch_47 ?_
      refine lv_iload_n hx hb dX2_leavesAsMuch_50 rfl (lv_at hl 2 rfl) ?_
      refine lv_iload hx hb dX2_leavesAsMuch_51 (lv_at hl 5 rfl) ?_
      refine nn_iadd hx hb dX2_leavesAsMuch_53 ?_
      refine nn_ald hx hb hK hP 3 rfl (by omega) (by decide) dX2_leavesAsMuch_54 ?_
      refine lv_iconst (v := -1) hx hb dX2_leavesAsMuch_55 (by decide) ?_
      refine nn_inot hx hb dX2_leavesAsMuch_56 ?_
      refine nn_iand hx hb dX2_leavesAsMuch_57 ?_
      refine nn_if_eq (tgt := 63) hx hb dX2_leavesAsMuch_58 (by decide) (Nat.lt_trans (and_lt128 (and_lt128 (hle _))) (by decide)) (fun c_58 => ?_) (fun c_58 => ?_)
      · refine lv_iinc (v := (nI (o + 1))) (lv' := [(5, .int (nI (o + 1))), (0, .ref sa), (1, .int (nI na)), (2, .int (nI br)), (3, .int (nI bs)), (4, .int (nI (na * 8)))]) hx hb dX2_leavesAsMuch_63 hl (k := 5) rfl (nI_add _ _) (by decide) rfl (fun ls hl => ?_)
        refine lv_goto (tgt := 11) hx hb dX2_leavesAsMuch_66 (by decide) ?_
        exact ih (o + 1) (by omega) (by rw [← hE, lamL, if_pos c_58]) _ _ _ hP hD hS (lv_sub hl [1, 2, 3, 4, 5, 0] rfl)
      · refine lv_iconst (v := nI 0) hx hb dX2_leavesAsMuch_61 (by decide) ?_
        exact W.zret (v := (nI 0)) hx hb hr rfl (fun t ht hW => ⟨⟨(nI 0), (), rfl, (by rw [← hE, lamL, if_neg c_58]), by rw [ht]; exact hP, hD⟩, hS.F ht⟩) hS.2.2 dX2_leavesAsMuch_62

theorem lkX2_isNeedless_15 : Cond.fieldLink RX2 15 "LeastChange$Search" "home" "[I" ∈ wsX2_isNeedless := by decide +kernel
theorem inX2_isNeedless_X2 : ∀ w ∈ wsX20, w ∈ wsX2_isNeedless := by decide +kernel
theorem iniX2_isNeedless_X1 : Cond.initialized RX1 ∈ wsX2_isNeedless := by decide +kernel
theorem iniX2_isNeedless_X3 : Cond.initialized RX3 ∈ wsX2_isNeedless := by decide +kernel
theorem stX2_isNeedless_X1_place : Cond.static yX1_place ∈ wsX2_isNeedless := by decide +kernel
theorem stX2_isNeedless_X3_isDown : Cond.static yX3_isDown ∈ wsX2_isNeedless := by decide +kernel
set_option maxHeartbeats 4000000 in
set_option maxRecDepth 100000 in
theorem kX2_isNeedless (l : Launch) (D : va_G) (cA : ClassId) (sz : Nat) (sa : Nat) (le : Nat) (ho : Nat) (tr : Nat) (ke : Nat) (ra : Nat) (al : Nat) (be : Nat) (fle : Nat → Nat) (fho : Nat → Nat) (fbe : Nat → Nat) (nm : Nat) (kc : Nat) (cb : Nat) (ef : Nat) (na : Nat) (cd : Nat) (bf : Nat) (hn : nm ≤ 8) (hna : na < nm) (hc : cd < 7) (hbf : bf < 128) (hho : ∀ j, fho j < 32) (hle : ∀ j, fle j < 128) : zMi l yX2_isNeedless wsX2_isNeedless ({ frames := 1, cells := 0, slots := 0, locals := 25 }) D cA [.ref sa, .int (nI na), .int (nI cd), .int (nI bf)] sz [(sa, .inr (4, [.ref ra, .ref le, .ref ho, .ref tr, .ref ke, .int (nI nm), .int (nI kc), .int (nI cb), .int (nI ef)])), (le, .inl (cA, 72, .inl (aN fle))), (ho, .inl (cA, 8, .inl (aN fho))), (ra, .inr (3, [.ref al, .ref be])), (be, .inl (cA, 448, .inl (aN fbe)))] [(sa, .inr (4, [.ref ra, .ref le, .ref ho, .ref tr, .ref ke, .int (nI nm), .int (nI kc), .int (nI cb), .int (nI ef)])), (le, .inl (cA, 72, .inl (aN fle))), (ho, .inl (cA, 8, .inl (aN fho))), (ra, .inr (3, [.ref al, .ref be])), (be, .inl (cA, 448, .inl (aN fbe)))] (nI (ndF nm fbe fle (fho na) na cd bf)) := by
  refine Met.ofW (cc := cX2_isNeedless) (maxL := 7) (ret := (some .boolean)) (by decide) rfl ?_
  intro p e s m args below meth c s₁ B hml hv
  obtain ⟨rfl, hsz, hP, hK, hD0⟩ := hv
  have hx := B.exec
  have hb := B.bytes
  have hr := B.returns
  have hts := atoms_spec (ws := wsX2_isNeedless) B.pre
  have hown : s.vm.findClass RX2 = some m.cls := findClass_of_methodNamed B.named
  have hlocks := B.notSynchronized
  subst hsz
  have hD := hD0.self (sz := s.heap.size)
  generalize hAe : va_A [(sa, .inr (4, [.ref ra, .ref le, .ref ho, .ref tr, .ref ke, .int (nI nm), .int (nI kc), .int (nI cb), .int (nI ef)])), (le, .inl (cA, 72, .inl (aN fle))), (ho, .inl (cA, 8, .inl (aN fho))), (ra, .inr (3, [.ref al, .ref be])), (be, .inl (cA, 448, .inl (aN fbe)))] s.heap.size = A at hD ⊢
  have hA : ∀ q : Nat, s.heap.size ≤ q → A q := fun q h => by rw [← hAe]; exact Or.inr h
  have hS : va_S A s.heap s.heap [] := va_S.rf
  have hP : va_P D vwCl [(sa, .inr (4, [.ref ra, .ref le, .ref ho, .ref tr, .ref ke, .int (nI nm), .int (nI kc), .int (nI cb), .int (nI ef)])), (le, .inl (cA, 72, .inl (aN fle))), (ho, .inl (cA, 8, .inl (aN fho))), (ra, .inr (3, [.ref al, .ref be])), (be, .inl (cA, 448, .inl (aN fbe)))] s.heap := hP
  have hl := lv_entry ([.ref sa, .int (nI na), .int (nI cd), .int (nI bf)]) (n := 7) (Nat.le_of_ble_eq_true rfl)
  rw [lg_entry_eq]
  generalize (lg_sl ([.ref sa, .int (nI na), .int (nI cd), .int (nI bf)]) ++ List.replicate (7 - (lg_sl ([.ref sa, .int (nI na), .int (nI cd), .int (nI bf)])).length) Slot.unset).toArray = ls at hl ⊢
  have hl : lv_has ls 7 [(0, .ref sa), (1, .int (nI na)), (2, .int (nI cd)), (3, .int (nI bf))] := hl
  refine lv_iload_n hx hb dX2_isNeedless_0 rfl (lv_at hl 2 rfl) ?_
  refine lv_aload_n hx hb dX2_isNeedless_1 rfl (lv_at hl 0 rfl) ?_
  refine va_get (D := D) (ci := 4) (v := .ref ho) (C := RX2) (T := TX2) (N := 9) hx hb hts inX2_isNeedless_X2 hown hK.1 hP 0 rfl rfl 2 (by decide) (hts _ lkX2_isNeedless_15) (fun _ h9 => h9) rfl dX2_isNeedless_2 ?_
  refine lv_iload_n hx hb dX2_isNeedless_5 rfl (lv_at hl 1 rfl) ?_
  refine nn_ald hx hb hK hP 2 rfl (by omega) (by decide) dX2_isNeedless_6 ?_
  refine zz_callI (av := []) (wc := []) (wr := [(sa, .inr (4, [.ref ra, .ref le, .ref ho, .ref tr, .ref ke, .int (nI nm), .int (nI kc), .int (nI cb), .int (nI ef)])), (le, .inl (cA, 72, .inl (aN fle))), (ho, .inl (cA, 8, .inl (aN fho))), (ra, .inr (3, [.ref al, .ref be])), (be, .inl (cA, 448, .inl (aN fbe)))]) hS hA hP hD [] [0, 1, 2, 3, 4] rfl rfl (by decide) (by decide) (va_runSN (As := [.int (nI cd), .int (nI (fho na))]) (rest := []) ⟨hx, hb, hml, hown, hts⟩ (kX3_isDown l D cA s.heap.size cd (fho na) (by omega) (Nat.lt_trans (hho _) (by decide))) ⟨va_cnB 2 hts gX2_isNeedless_X3_isDown_n75 rfl rfl rfl (hK.2 _ nkX2_75) (hts _ iniX2_isNeedless_X3) (by decide +kernel) ⟨Nat.le_of_ble_eq_true rfl, Nat.le_of_ble_eq_true rfl⟩, hts _ stX2_isNeedless_X3_isDown, trivial⟩ (zPreS (av := [.int (nI cd), .int (nI (fho na))]) (wc := []) hK hP hD [] rfl (by decide) rfl) rfl rfl hl.1 rfl (lv_room (Nat.le_of_ble_eq_true rfl)) dX2_isNeedless_7 ⟨Nat.zero_le _, Nat.zero_le _⟩) (fun H locs hP hD hS => ?_)
  have hP : va_P D vwCl [(sa, .inr (4, [.ref ra, .ref le, .ref ho, .ref tr, .ref ke, .int (nI nm), .int (nI kc), .int (nI cb), .int (nI ef)])), (le, .inl (cA, 72, .inl (aN fle))), (ho, .inl (cA, 8, .inl (aN fho))), (ra, .inr (3, [.ref al, .ref be])), (be, .inl (cA, 448, .inl (aN fbe)))] H := hP
  have hD : va_D A [(sa, .inr (4, [.ref ra, .ref le, .ref ho, .ref tr, .ref ke, .int (nI nm), .int (nI kc), .int (nI cb), .int (nI ef)])), (le, .inl (cA, 72, .inl (aN fle))), (ho, .inl (cA, 8, .inl (aN fho))), (ra, .inr (3, [.ref al, .ref be])), (be, .inl (cA, 448, .inl (aN fbe)))] := hD
  refine nn_if_eq (tgt := 17) hx hb dX2_isNeedless_10 (by decide) if01_lt (fun c_10 => ?_) (fun c_10 => ?_)
  · have c_10 := if01_eq c_10
    refine lv_iload_n hx hb dX2_isNeedless_17 rfl (lv_at hl 3 rfl) ?_
    refine lv_aload_n hx hb dX2_isNeedless_18 rfl (lv_at hl 0 rfl) ?_
    refine va_get (D := D) (ci := 4) (v := .ref ho) (C := RX2) (T := TX2) (N := 9) hx hb hts inX2_isNeedless_X2 hown hK.1 hP 0 rfl rfl 2 (by decide) (hts _ lkX2_isNeedless_15) (fun _ h9 => h9) rfl dX2_isNeedless_19 ?_
    refine lv_iload_n hx hb dX2_isNeedless_22 rfl (lv_at hl 1 rfl) ?_
    refine nn_ald hx hb hK hP 2 rfl (by omega) (by decide) dX2_isNeedless_23 ?_
    refine zz_callI (av := []) (wc := []) (wr := [(sa, .inr (4, [.ref ra, .ref le, .ref ho, .ref tr, .ref ke, .int (nI nm), .int (nI kc), .int (nI cb), .int (nI ef)])), (le, .inl (cA, 72, .inl (aN fle))), (ho, .inl (cA, 8, .inl (aN fho))), (ra, .inr (3, [.ref al, .ref be])), (be, .inl (cA, 448, .inl (aN fbe)))]) hS hA hP hD [] [0, 1, 2, 3, 4] rfl rfl (by decide) (by decide) (va_runS (As := [.int (nI (fho na))]) (rest := [.int (nI bf)]) ⟨hx, hb, hml, hown, hts⟩ (kX2_downCodes l D cA H.size (fho na) (hho _)) (va_cwS 1 hts gX2_isNeedless_X2_downCodes rfl rfl rfl (by decide +kernel) ⟨Nat.le_of_ble_eq_true rfl, Nat.le_of_ble_eq_true rfl⟩) (zPreS (av := [.int (nI (fho na))]) (wc := []) hK hP hD [] rfl (by decide) rfl) rfl rfl hl.1 rfl (lv_room (Nat.le_of_ble_eq_true rfl)) dX2_isNeedless_24 ⟨Nat.zero_le _, Nat.zero_le _⟩) (fun H locs hP hD hS => ?_)
    have hP : va_P D vwCl [(sa, .inr (4, [.ref ra, .ref le, .ref ho, .ref tr, .ref ke, .int (nI nm), .int (nI kc), .int (nI cb), .int (nI ef)])), (le, .inl (cA, 72, .inl (aN fle))), (ho, .inl (cA, 8, .inl (aN fho))), (ra, .inr (3, [.ref al, .ref be])), (be, .inl (cA, 448, .inl (aN fbe)))] H := hP
    have hD : va_D A [(sa, .inr (4, [.ref ra, .ref le, .ref ho, .ref tr, .ref ke, .int (nI nm), .int (nI kc), .int (nI cb), .int (nI ef)])), (le, .inl (cA, 72, .inl (aN fle))), (ho, .inl (cA, 8, .inl (aN fho))), (ra, .inr (3, [.ref al, .ref be])), (be, .inl (cA, 448, .inl (aN fbe)))] := hD
    refine lv_iconst (v := -1) hx hb dX2_isNeedless_27 (by decide) ?_
    refine nn_inot hx hb dX2_isNeedless_28 ?_
    refine nn_iand hx hb dX2_isNeedless_29 ?_
    refine zz_top (y := nI (rivF (fho na) cd bf)) (by unfold rivF; first | (rw [if_pos c_10]; done) | (rw [if_neg c_10]; done)) ?_
    have hrv : rivF (fho na) cd bf < 128 := Nat.lt_of_le_of_lt rivF_le hbf
    refine lv_istore (lv' := [(4, .int (nI (rivF (fho na) cd bf))), (0, .ref sa), (1, .int (nI na)), (2, .int (nI cd)), (3, .int (nI bf))]) hx hb dX2_isNeedless_30 hl (by decide) rfl (fun ls hl => ?_)
    refine lv_iload_n hx hb dX2_isNeedless_32 rfl (lv_at hl 2 rfl) ?_
    refine lv_iload_n hx hb dX2_isNeedless_33 rfl (lv_at hl 3 rfl) ?_
    refine lv_iconst (v := nI 0) hx hb dX2_isNeedless_34 (by decide) ?_
    refine zz_callI (av := []) (wc := []) (wr := [(sa, .inr (4, [.ref ra, .ref le, .ref ho, .ref tr, .ref ke, .int (nI nm), .int (nI kc), .int (nI cb), .int (nI ef)])), (le, .inl (cA, 72, .inl (aN fle))), (ho, .inl (cA, 8, .inl (aN fho))), (ra, .inr (3, [.ref al, .ref be])), (be, .inl (cA, 448, .inl (aN fbe)))]) hS hA hP hD [] [0, 1, 2, 3, 4] rfl rfl (by decide) (by decide) (va_runSN (As := [.int (nI na), .int (nI cd), .int (nI 0)]) (rest := []) ⟨hx, hb, hml, hown, hts⟩ (kX1_place l D cA H.size na cd 0 ) ⟨va_cnB 3 hts gX2_isNeedless_X1_place_n83 rfl rfl rfl (hK.2 _ nkX2_83) (hts _ iniX2_isNeedless_X1) (by decide +kernel) ⟨Nat.le_of_ble_eq_true rfl, Nat.le_of_ble_eq_true rfl⟩, hts _ stX2_isNeedless_X1_place, trivial⟩ (zPreS (av := [.int (nI na), .int (nI cd), .int (nI 0)]) (wc := []) hK hP hD [] rfl (by decide) rfl) rfl rfl hl.1 rfl (lv_room (Nat.le_of_ble_eq_true rfl)) dX2_isNeedless_35 ⟨Nat.zero_le _, Nat.zero_le _⟩) (fun H locs hP hD hS => ?_)
    have hP : va_P D vwCl [(sa, .inr (4, [.ref ra, .ref le, .ref ho, .ref tr, .ref ke, .int (nI nm), .int (nI kc), .int (nI cb), .int (nI ef)])), (le, .inl (cA, 72, .inl (aN fle))), (ho, .inl (cA, 8, .inl (aN fho))), (ra, .inr (3, [.ref al, .ref be])), (be, .inl (cA, 448, .inl (aN fbe)))] H := hP
    have hD : va_D A [(sa, .inr (4, [.ref ra, .ref le, .ref ho, .ref tr, .ref ke, .int (nI nm), .int (nI kc), .int (nI cb), .int (nI ef)])), (le, .inl (cA, 72, .inl (aN fle))), (ho, .inl (cA, 8, .inl (aN fho))), (ra, .inr (3, [.ref al, .ref be])), (be, .inl (cA, 448, .inl (aN fbe)))] := hD
    refine lv_istore (lv' := [(5, .int (nI ((na * 7 + cd) * 8 + 0))), (4, .int (nI (rivF (fho na) cd bf))), (0, .ref sa), (1, .int (nI na)), (2, .int (nI cd)), (3, .int (nI bf))]) hx hb dX2_isNeedless_38 hl (by decide) rfl (fun ls hl => ?_)
    refine lv_iconst (v := nI 0) hx hb dX2_isNeedless_40 (by decide) ?_
    refine lv_istore (lv' := [(6, .int (nI 0)), (5, .int (nI ((na * 7 + cd) * 8 + 0))), (4, .int (nI (rivF (fho na) cd bf))), (0, .ref sa), (1, .int (nI na)), (2, .int (nI cd)), (3, .int (nI bf))]) hx hb dX2_isNeedless_41 hl (by decide) rfl (fun ls hl => ?_)
    suffices hgo : ∀ (k : Nat) (r : Nat), (r + k = 7) → (ndL (fun r => lamF nm fbe fle na ((na * 7 + r) * 8 + 0) ((na * 7 + cd) * 8 + 0)) (rivF (fho na) cd bf) k r = ndF nm fbe fle (fho na) na cd bf) → ∀ (H : Heap) (locs : List Loc) (ls : Array Slot), va_P D vwCl [(sa, .inr (4, [.ref ra, .ref le, .ref ho, .ref tr, .ref ke, .int (nI nm), .int (nI kc), .int (nI cb), .int (nI ef)])), (le, .inl (cA, 72, .inl (aN fle))), (ho, .inl (cA, 8, .inl (aN fho))), (ra, .inr (3, [.ref al, .ref be])), (be, .inl (cA, 448, .inl (aN fbe)))] H → va_D A [(sa, .inr (4, [.ref ra, .ref le, .ref ho, .ref tr, .ref ke, .int (nI nm), .int (nI kc), .int (nI cb), .int (nI ef)])), (le, .inl (cA, 72, .inl (aN fle))), (ho, .inl (cA, 8, .inl (aN fho))), (ra, .inr (3, [.ref al, .ref be])), (be, .inl (cA, 448, .inl (aN fbe)))] → va_S A s.heap H locs → lv_has ls 7 [(0, .ref sa), (1, .int (nI na)), (2, .int (nI cd)), (3, .int (nI bf)), (4, .int (nI (rivF (fho na) cd bf))), (5, .int (nI ((na * 7 + cd) * 8 + 0))), (6, .int (nI r))] → W p l e (headSpec wsX2_isNeedless ({ frames := 1, cells := 0, slots := 0, locals := 25 })).room s m ([.ref sa, .int (nI na), .int (nI cd), .int (nI bf)]).toArray below meth c H locs 0 0 (MQ below (va_Qi (fun r _ => r = (nI (ndF nm fbe fle (fho na) na cd bf))) (zB D A [(sa, .inr (4, [.ref ra, .ref le, .ref ho, .ref tr, .ref ke, .int (nI nm), .int (nI kc), .int (nI cb), .int (nI ef)])), (le, .inl (cA, 72, .inl (aN fle))), (ho, .inl (cA, 8, .inl (aN fho))), (ra, .inr (3, [.ref al, .ref be])), (be, .inl (cA, 448, .inl (aN fbe)))]) A) ([.ref sa, .int (nI na), .int (nI cd), .int (nI bf)]).toArray s 0 0 A) (F0 m 43 ls []) from hgo 7 0 (by omega) rfl _ _ ls hP hD hS (lv_sub hl [3, 4, 5, 6, 2, 1, 0] rfl)
    clear hP hD hS hl
    intro k
    induction k with
    | zero =>
      intro r hi hE H locs ls hP hD hS hl
      refine lv_iload hx hb dX2_isNeedless_43 (lv_at hl 6 rfl) ?_
      refine lv_bipush (v := nI 7) hx hb dX2_isNeedless_45 (by decide) ?_
      refine nn_icmp_ge (tgt := 85) hx hb dX2_isNeedless_47 (by decide) (by omega) (by omega) (fun c_47 => ?_) (fun c_47 => ?_)
      · refine lv_iconst (v := nI 0) hx hb dX2_isNeedless_85 (by decide) ?_
        exact W.zret (v := (nI 0)) hx hb hr rfl (fun t ht hW => ⟨⟨(nI 0), (), rfl, (by rw [← hE]; rfl), by rw [ht]; exact hP, hD⟩, hS.F ht⟩) hS.2.2 dX2_isNeedless_86
      · exfalso; omega
    | succ k ih =>
      intro r hi hE H locs ls hP hD hS hl
      refine lv_iload hx hb dX2_isNeedless_43 (lv_at hl 6 rfl) ?_
      refine lv_bipush (v := nI 7) hx hb dX2_isNeedless_45 (by decide) ?_
      refine nn_icmp_ge (tgt := 85) hx hb dX2_isNeedless_47 (by decide) (by omega) (by omega) (fun c_47 => ?_) (fun c_47 => ?_)
      · exfalso; omega
      · refine lv_iload hx hb dX2_isNeedless_50 (lv_at hl 4 rfl) ?_
        refine lv_iload hx hb dX2_isNeedless_52 (lv_at hl 6 rfl) ?_
        refine nn_ishr hx hb (Nat.lt_trans hrv (by decide)) (by omega) dX2_isNeedless_54 ?_
        refine lv_iconst (v := nI 1) hx hb dX2_isNeedless_55 (by decide) ?_
        refine nn_iand hx hb dX2_isNeedless_56 ?_
        refine nn_if_eq (tgt := 79) hx hb dX2_isNeedless_57 (by decide) (and1_lt _) (fun c_57 => ?_) (fun c_57 => ?_)
        · refine lv_iinc (v := (nI (r + 1))) (lv' := [(6, .int (nI (r + 1))), (0, .ref sa), (1, .int (nI na)), (2, .int (nI cd)), (3, .int (nI bf)), (4, .int (nI (rivF (fho na) cd bf))), (5, .int (nI ((na * 7 + cd) * 8 + 0)))]) hx hb dX2_isNeedless_79 hl (k := 6) rfl (nI_add _ _) (by decide) rfl (fun ls hl => ?_)
          refine lv_goto (tgt := 43) hx hb dX2_isNeedless_82 (by decide) ?_
          exact ih (r + 1) (by omega) (by first | (rw [← hE, ndL, if_pos c_57]; done) | (rw [← hE, ndL, if_neg c_57, if_pos c_74]; done)) _ _ _ hP hD hS (lv_sub hl [1, 2, 3, 4, 5, 6, 0] rfl)
        · refine lv_aload_n hx hb dX2_isNeedless_60 rfl (lv_at hl 0 rfl) ?_
          refine lv_iload_n hx hb dX2_isNeedless_61 rfl (lv_at hl 1 rfl) ?_
          refine lv_iload_n hx hb dX2_isNeedless_62 rfl (lv_at hl 1 rfl) ?_
          refine lv_iload hx hb dX2_isNeedless_63 (lv_at hl 6 rfl) ?_
          refine lv_iconst (v := nI 0) hx hb dX2_isNeedless_65 (by decide) ?_
          refine zz_callI (av := []) (wc := []) (wr := [(sa, .inr (4, [.ref ra, .ref le, .ref ho, .ref tr, .ref ke, .int (nI nm), .int (nI kc), .int (nI cb), .int (nI ef)])), (le, .inl (cA, 72, .inl (aN fle))), (ho, .inl (cA, 8, .inl (aN fho))), (ra, .inr (3, [.ref al, .ref be])), (be, .inl (cA, 448, .inl (aN fbe)))]) hS hA hP hD [] [0, 1, 2, 3, 4] rfl rfl (by decide) (by decide) (va_runSN (As := [.int (nI na), .int (nI r), .int (nI 0)]) (rest := [.int (nI na), .ref sa]) ⟨hx, hb, hml, hown, hts⟩ (kX1_place l D cA H.size na r 0 ) ⟨va_cnB 3 hts gX2_isNeedless_X1_place_n83 rfl rfl rfl (hK.2 _ nkX2_83) (hts _ iniX2_isNeedless_X1) (by decide +kernel) ⟨Nat.le_of_ble_eq_true rfl, Nat.le_of_ble_eq_true rfl⟩, hts _ stX2_isNeedless_X1_place, trivial⟩ (zPreS (av := [.int (nI na), .int (nI r), .int (nI 0)]) (wc := []) hK hP hD [] rfl (by decide) rfl) rfl rfl hl.1 rfl (lv_room (Nat.le_of_ble_eq_true rfl)) dX2_isNeedless_66 ⟨Nat.zero_le _, Nat.zero_le _⟩) (fun H locs hP hD hS => ?_)
          have hP : va_P D vwCl [(sa, .inr (4, [.ref ra, .ref le, .ref ho, .ref tr, .ref ke, .int (nI nm), .int (nI kc), .int (nI cb), .int (nI ef)])), (le, .inl (cA, 72, .inl (aN fle))), (ho, .inl (cA, 8, .inl (aN fho))), (ra, .inr (3, [.ref al, .ref be])), (be, .inl (cA, 448, .inl (aN fbe)))] H := hP
          have hD : va_D A [(sa, .inr (4, [.ref ra, .ref le, .ref ho, .ref tr, .ref ke, .int (nI nm), .int (nI kc), .int (nI cb), .int (nI ef)])), (le, .inl (cA, 72, .inl (aN fle))), (ho, .inl (cA, 8, .inl (aN fho))), (ra, .inr (3, [.ref al, .ref be])), (be, .inl (cA, 448, .inl (aN fbe)))] := hD
          refine lv_iload hx hb dX2_isNeedless_69 (lv_at hl 5 rfl) ?_
          refine zz_callI (av := []) (wc := [(sa, .inr (4, [.ref ra, .ref le, .ref ho, .ref tr, .ref ke, .int (nI nm), .int (nI kc), .int (nI cb), .int (nI ef)])), (le, .inl (cA, 72, .inl (aN fle))), (ra, .inr (3, [.ref al, .ref be])), (be, .inl (cA, 448, .inl (aN fbe)))]) (wr := [(ho, .inl (cA, 8, .inl (aN fho)))]) hS hA hP hD [0, 1, 3, 4] [2] rfl rfl (by decide) (by decide) (va_runV (As := [.int (nI na), .int (nI ((na * 7 + r) * 8 + 0)), .int (nI ((na * 7 + cd) * 8 + 0))]) (rest := []) ⟨hx, hb, hml, hown, hts⟩ (kX2_leavesAsMuch l D cA H.size sa le ho tr ke ra al be fle fbe nm kc cb ef na ((na * 7 + r) * 8 + 0) ((na * 7 + cd) * 8 + 0) (by omega) (by omega) (by omega) (by omega) hle) (cwV 3 hts gX2_isNeedless_X2_leavesAsMuch rfl rfl rfl (by decide +kernel) ⟨Nat.le_of_ble_eq_true rfl, Nat.le_of_ble_eq_true rfl⟩) ⟨(zPreS (av := [.ref sa, .int (nI na), .int (nI ((na * 7 + r) * 8 + 0)), .int (nI ((na * 7 + cd) * 8 + 0))]) (wc := [(sa, .inr (4, [.ref ra, .ref le, .ref ho, .ref tr, .ref ke, .int (nI nm), .int (nI kc), .int (nI cb), .int (nI ef)])), (le, .inl (cA, 72, .inl (aN fle))), (ra, .inr (3, [.ref al, .ref be])), (be, .inl (cA, 448, .inl (aN fbe)))]) hK hP hD [0, 1, 3, 4] rfl (by decide) rfl).1, (va_recv hK.1 hP (ci := 4) (q0 := 0) rfl rfl), (zPreS (av := [.ref sa, .int (nI na), .int (nI ((na * 7 + r) * 8 + 0)), .int (nI ((na * 7 + cd) * 8 + 0))]) (wc := [(sa, .inr (4, [.ref ra, .ref le, .ref ho, .ref tr, .ref ke, .int (nI nm), .int (nI kc), .int (nI cb), .int (nI ef)])), (le, .inl (cA, 72, .inl (aN fle))), (ra, .inr (3, [.ref al, .ref be])), (be, .inl (cA, 448, .inl (aN fbe)))]) hK hP hD [0, 1, 3, 4] rfl (by decide) rfl).2⟩ rfl rfl hl.1 rfl (lv_room (Nat.le_of_ble_eq_true rfl)) dX2_isNeedless_71 ⟨Nat.zero_le _, Nat.zero_le _⟩) (fun H locs hP hD hS => ?_)
          have hP : va_P D vwCl [(ho, .inl (cA, 8, .inl (aN fho))), (sa, .inr (4, [.ref ra, .ref le, .ref ho, .ref tr, .ref ke, .int (nI nm), .int (nI kc), .int (nI cb), .int (nI ef)])), (le, .inl (cA, 72, .inl (aN fle))), (ra, .inr (3, [.ref al, .ref be])), (be, .inl (cA, 448, .inl (aN fbe)))] H := hP
          have hD : va_D A [(ho, .inl (cA, 8, .inl (aN fho))), (sa, .inr (4, [.ref ra, .ref le, .ref ho, .ref tr, .ref ke, .int (nI nm), .int (nI kc), .int (nI cb), .int (nI ef)])), (le, .inl (cA, 72, .inl (aN fle))), (ra, .inr (3, [.ref al, .ref be])), (be, .inl (cA, 448, .inl (aN fbe)))] := hD
          have hP : va_P D vwCl [(sa, .inr (4, [.ref ra, .ref le, .ref ho, .ref tr, .ref ke, .int (nI nm), .int (nI kc), .int (nI cb), .int (nI ef)])), (le, .inl (cA, 72, .inl (aN fle))), (ho, .inl (cA, 8, .inl (aN fho))), (ra, .inr (3, [.ref al, .ref be])), (be, .inl (cA, 448, .inl (aN fbe)))] H := hP.sub [1, 2, 0, 3, 4] rfl
          have hD : va_D A [(sa, .inr (4, [.ref ra, .ref le, .ref ho, .ref tr, .ref ke, .int (nI nm), .int (nI kc), .int (nI cb), .int (nI ef)])), (le, .inl (cA, 72, .inl (aN fle))), (ho, .inl (cA, 8, .inl (aN fho))), (ra, .inr (3, [.ref al, .ref be])), (be, .inl (cA, 448, .inl (aN fbe)))] := hD.sub [1, 2, 0, 3, 4] (by decide) rfl
          refine nn_if_eq (tgt := 79) hx hb dX2_isNeedless_74 (by decide) lamF_lt (fun c_74 => ?_) (fun c_74 => ?_)
          · refine lv_iinc (v := (nI (r + 1))) (lv' := [(6, .int (nI (r + 1))), (0, .ref sa), (1, .int (nI na)), (2, .int (nI cd)), (3, .int (nI bf)), (4, .int (nI (rivF (fho na) cd bf))), (5, .int (nI ((na * 7 + cd) * 8 + 0)))]) hx hb dX2_isNeedless_79 hl (k := 6) rfl (nI_add _ _) (by decide) rfl (fun ls hl => ?_)
            refine lv_goto (tgt := 43) hx hb dX2_isNeedless_82 (by decide) ?_
            exact ih (r + 1) (by omega) (by first | (rw [← hE, ndL, if_pos c_57]; done) | (rw [← hE, ndL, if_neg c_57, if_pos c_74]; done)) _ _ _ hP hD hS (lv_sub hl [1, 2, 3, 4, 5, 6, 0] rfl)
          · refine lv_iconst (v := nI 1) hx hb dX2_isNeedless_77 (by decide) ?_
            exact W.zret (v := (nI 1)) hx hb hr rfl (fun t ht hW => ⟨⟨(nI 1), (), rfl, (by rw [← hE, ndL, if_neg c_57, if_neg c_74]), by rw [ht]; exact hP, hD⟩, hS.F ht⟩) hS.2.2 dX2_isNeedless_78
  · have c_10 := if01_ne c_10
    refine lv_iload_n hx hb dX2_isNeedless_13 rfl (lv_at hl 3 rfl) ?_
    refine lv_goto (tgt := 30) hx hb dX2_isNeedless_14 (by decide) ?_
    refine zz_top (y := nI (rivF (fho na) cd bf)) (by unfold rivF; first | (rw [if_pos c_10]; done) | (rw [if_neg c_10]; done)) ?_
    have hrv : rivF (fho na) cd bf < 128 := Nat.lt_of_le_of_lt rivF_le hbf
    refine lv_istore (lv' := [(4, .int (nI (rivF (fho na) cd bf))), (0, .ref sa), (1, .int (nI na)), (2, .int (nI cd)), (3, .int (nI bf))]) hx hb dX2_isNeedless_30 hl (by decide) rfl (fun ls hl => ?_)
    refine lv_iload_n hx hb dX2_isNeedless_32 rfl (lv_at hl 2 rfl) ?_
    refine lv_iload_n hx hb dX2_isNeedless_33 rfl (lv_at hl 3 rfl) ?_
    refine lv_iconst (v := nI 0) hx hb dX2_isNeedless_34 (by decide) ?_
    refine zz_callI (av := []) (wc := []) (wr := [(sa, .inr (4, [.ref ra, .ref le, .ref ho, .ref tr, .ref ke, .int (nI nm), .int (nI kc), .int (nI cb), .int (nI ef)])), (le, .inl (cA, 72, .inl (aN fle))), (ho, .inl (cA, 8, .inl (aN fho))), (ra, .inr (3, [.ref al, .ref be])), (be, .inl (cA, 448, .inl (aN fbe)))]) hS hA hP hD [] [0, 1, 2, 3, 4] rfl rfl (by decide) (by decide) (va_runSN (As := [.int (nI na), .int (nI cd), .int (nI 0)]) (rest := []) ⟨hx, hb, hml, hown, hts⟩ (kX1_place l D cA H.size na cd 0 ) ⟨va_cnB 3 hts gX2_isNeedless_X1_place_n83 rfl rfl rfl (hK.2 _ nkX2_83) (hts _ iniX2_isNeedless_X1) (by decide +kernel) ⟨Nat.le_of_ble_eq_true rfl, Nat.le_of_ble_eq_true rfl⟩, hts _ stX2_isNeedless_X1_place, trivial⟩ (zPreS (av := [.int (nI na), .int (nI cd), .int (nI 0)]) (wc := []) hK hP hD [] rfl (by decide) rfl) rfl rfl hl.1 rfl (lv_room (Nat.le_of_ble_eq_true rfl)) dX2_isNeedless_35 ⟨Nat.zero_le _, Nat.zero_le _⟩) (fun H locs hP hD hS => ?_)
    have hP : va_P D vwCl [(sa, .inr (4, [.ref ra, .ref le, .ref ho, .ref tr, .ref ke, .int (nI nm), .int (nI kc), .int (nI cb), .int (nI ef)])), (le, .inl (cA, 72, .inl (aN fle))), (ho, .inl (cA, 8, .inl (aN fho))), (ra, .inr (3, [.ref al, .ref be])), (be, .inl (cA, 448, .inl (aN fbe)))] H := hP
    have hD : va_D A [(sa, .inr (4, [.ref ra, .ref le, .ref ho, .ref tr, .ref ke, .int (nI nm), .int (nI kc), .int (nI cb), .int (nI ef)])), (le, .inl (cA, 72, .inl (aN fle))), (ho, .inl (cA, 8, .inl (aN fho))), (ra, .inr (3, [.ref al, .ref be])), (be, .inl (cA, 448, .inl (aN fbe)))] := hD
    refine lv_istore (lv' := [(5, .int (nI ((na * 7 + cd) * 8 + 0))), (4, .int (nI (rivF (fho na) cd bf))), (0, .ref sa), (1, .int (nI na)), (2, .int (nI cd)), (3, .int (nI bf))]) hx hb dX2_isNeedless_38 hl (by decide) rfl (fun ls hl => ?_)
    refine lv_iconst (v := nI 0) hx hb dX2_isNeedless_40 (by decide) ?_
    refine lv_istore (lv' := [(6, .int (nI 0)), (5, .int (nI ((na * 7 + cd) * 8 + 0))), (4, .int (nI (rivF (fho na) cd bf))), (0, .ref sa), (1, .int (nI na)), (2, .int (nI cd)), (3, .int (nI bf))]) hx hb dX2_isNeedless_41 hl (by decide) rfl (fun ls hl => ?_)
    suffices hgo : ∀ (k : Nat) (r : Nat), (r + k = 7) → (ndL (fun r => lamF nm fbe fle na ((na * 7 + r) * 8 + 0) ((na * 7 + cd) * 8 + 0)) (rivF (fho na) cd bf) k r = ndF nm fbe fle (fho na) na cd bf) → ∀ (H : Heap) (locs : List Loc) (ls : Array Slot), va_P D vwCl [(sa, .inr (4, [.ref ra, .ref le, .ref ho, .ref tr, .ref ke, .int (nI nm), .int (nI kc), .int (nI cb), .int (nI ef)])), (le, .inl (cA, 72, .inl (aN fle))), (ho, .inl (cA, 8, .inl (aN fho))), (ra, .inr (3, [.ref al, .ref be])), (be, .inl (cA, 448, .inl (aN fbe)))] H → va_D A [(sa, .inr (4, [.ref ra, .ref le, .ref ho, .ref tr, .ref ke, .int (nI nm), .int (nI kc), .int (nI cb), .int (nI ef)])), (le, .inl (cA, 72, .inl (aN fle))), (ho, .inl (cA, 8, .inl (aN fho))), (ra, .inr (3, [.ref al, .ref be])), (be, .inl (cA, 448, .inl (aN fbe)))] → va_S A s.heap H locs → lv_has ls 7 [(0, .ref sa), (1, .int (nI na)), (2, .int (nI cd)), (3, .int (nI bf)), (4, .int (nI (rivF (fho na) cd bf))), (5, .int (nI ((na * 7 + cd) * 8 + 0))), (6, .int (nI r))] → W p l e (headSpec wsX2_isNeedless ({ frames := 1, cells := 0, slots := 0, locals := 25 })).room s m ([.ref sa, .int (nI na), .int (nI cd), .int (nI bf)]).toArray below meth c H locs 0 0 (MQ below (va_Qi (fun r _ => r = (nI (ndF nm fbe fle (fho na) na cd bf))) (zB D A [(sa, .inr (4, [.ref ra, .ref le, .ref ho, .ref tr, .ref ke, .int (nI nm), .int (nI kc), .int (nI cb), .int (nI ef)])), (le, .inl (cA, 72, .inl (aN fle))), (ho, .inl (cA, 8, .inl (aN fho))), (ra, .inr (3, [.ref al, .ref be])), (be, .inl (cA, 448, .inl (aN fbe)))]) A) ([.ref sa, .int (nI na), .int (nI cd), .int (nI bf)]).toArray s 0 0 A) (F0 m 43 ls []) from hgo 7 0 (by omega) rfl _ _ ls hP hD hS (lv_sub hl [3, 4, 5, 6, 2, 1, 0] rfl)
    clear hP hD hS hl
    intro k
    induction k with
    | zero =>
      intro r hi hE H locs ls hP hD hS hl
      refine lv_iload hx hb dX2_isNeedless_43 (lv_at hl 6 rfl) ?_
      refine lv_bipush (v := nI 7) hx hb dX2_isNeedless_45 (by decide) ?_
      refine nn_icmp_ge (tgt := 85) hx hb dX2_isNeedless_47 (by decide) (by omega) (by omega) (fun c_47 => ?_) (fun c_47 => ?_)
      · refine lv_iconst (v := nI 0) hx hb dX2_isNeedless_85 (by decide) ?_
        exact W.zret (v := (nI 0)) hx hb hr rfl (fun t ht hW => ⟨⟨(nI 0), (), rfl, (by rw [← hE]; rfl), by rw [ht]; exact hP, hD⟩, hS.F ht⟩) hS.2.2 dX2_isNeedless_86
      · exfalso; omega
    | succ k ih =>
      intro r hi hE H locs ls hP hD hS hl
      refine lv_iload hx hb dX2_isNeedless_43 (lv_at hl 6 rfl) ?_
      refine lv_bipush (v := nI 7) hx hb dX2_isNeedless_45 (by decide) ?_
      refine nn_icmp_ge (tgt := 85) hx hb dX2_isNeedless_47 (by decide) (by omega) (by omega) (fun c_47 => ?_) (fun c_47 => ?_)
      · exfalso; omega
      · refine lv_iload hx hb dX2_isNeedless_50 (lv_at hl 4 rfl) ?_
        refine lv_iload hx hb dX2_isNeedless_52 (lv_at hl 6 rfl) ?_
        refine nn_ishr hx hb (Nat.lt_trans hrv (by decide)) (by omega) dX2_isNeedless_54 ?_
        refine lv_iconst (v := nI 1) hx hb dX2_isNeedless_55 (by decide) ?_
        refine nn_iand hx hb dX2_isNeedless_56 ?_
        refine nn_if_eq (tgt := 79) hx hb dX2_isNeedless_57 (by decide) (and1_lt _) (fun c_57 => ?_) (fun c_57 => ?_)
        · refine lv_iinc (v := (nI (r + 1))) (lv' := [(6, .int (nI (r + 1))), (0, .ref sa), (1, .int (nI na)), (2, .int (nI cd)), (3, .int (nI bf)), (4, .int (nI (rivF (fho na) cd bf))), (5, .int (nI ((na * 7 + cd) * 8 + 0)))]) hx hb dX2_isNeedless_79 hl (k := 6) rfl (nI_add _ _) (by decide) rfl (fun ls hl => ?_)
          refine lv_goto (tgt := 43) hx hb dX2_isNeedless_82 (by decide) ?_
          exact ih (r + 1) (by omega) (by first | (rw [← hE, ndL, if_pos c_57]; done) | (rw [← hE, ndL, if_neg c_57, if_pos c_74]; done)) _ _ _ hP hD hS (lv_sub hl [1, 2, 3, 4, 5, 6, 0] rfl)
        · refine lv_aload_n hx hb dX2_isNeedless_60 rfl (lv_at hl 0 rfl) ?_
          refine lv_iload_n hx hb dX2_isNeedless_61 rfl (lv_at hl 1 rfl) ?_
          refine lv_iload_n hx hb dX2_isNeedless_62 rfl (lv_at hl 1 rfl) ?_
          refine lv_iload hx hb dX2_isNeedless_63 (lv_at hl 6 rfl) ?_
          refine lv_iconst (v := nI 0) hx hb dX2_isNeedless_65 (by decide) ?_
          refine zz_callI (av := []) (wc := []) (wr := [(sa, .inr (4, [.ref ra, .ref le, .ref ho, .ref tr, .ref ke, .int (nI nm), .int (nI kc), .int (nI cb), .int (nI ef)])), (le, .inl (cA, 72, .inl (aN fle))), (ho, .inl (cA, 8, .inl (aN fho))), (ra, .inr (3, [.ref al, .ref be])), (be, .inl (cA, 448, .inl (aN fbe)))]) hS hA hP hD [] [0, 1, 2, 3, 4] rfl rfl (by decide) (by decide) (va_runSN (As := [.int (nI na), .int (nI r), .int (nI 0)]) (rest := [.int (nI na), .ref sa]) ⟨hx, hb, hml, hown, hts⟩ (kX1_place l D cA H.size na r 0 ) ⟨va_cnB 3 hts gX2_isNeedless_X1_place_n83 rfl rfl rfl (hK.2 _ nkX2_83) (hts _ iniX2_isNeedless_X1) (by decide +kernel) ⟨Nat.le_of_ble_eq_true rfl, Nat.le_of_ble_eq_true rfl⟩, hts _ stX2_isNeedless_X1_place, trivial⟩ (zPreS (av := [.int (nI na), .int (nI r), .int (nI 0)]) (wc := []) hK hP hD [] rfl (by decide) rfl) rfl rfl hl.1 rfl (lv_room (Nat.le_of_ble_eq_true rfl)) dX2_isNeedless_66 ⟨Nat.zero_le _, Nat.zero_le _⟩) (fun H locs hP hD hS => ?_)
          have hP : va_P D vwCl [(sa, .inr (4, [.ref ra, .ref le, .ref ho, .ref tr, .ref ke, .int (nI nm), .int (nI kc), .int (nI cb), .int (nI ef)])), (le, .inl (cA, 72, .inl (aN fle))), (ho, .inl (cA, 8, .inl (aN fho))), (ra, .inr (3, [.ref al, .ref be])), (be, .inl (cA, 448, .inl (aN fbe)))] H := hP
          have hD : va_D A [(sa, .inr (4, [.ref ra, .ref le, .ref ho, .ref tr, .ref ke, .int (nI nm), .int (nI kc), .int (nI cb), .int (nI ef)])), (le, .inl (cA, 72, .inl (aN fle))), (ho, .inl (cA, 8, .inl (aN fho))), (ra, .inr (3, [.ref al, .ref be])), (be, .inl (cA, 448, .inl (aN fbe)))] := hD
          refine lv_iload hx hb dX2_isNeedless_69 (lv_at hl 5 rfl) ?_
          refine zz_callI (av := []) (wc := [(sa, .inr (4, [.ref ra, .ref le, .ref ho, .ref tr, .ref ke, .int (nI nm), .int (nI kc), .int (nI cb), .int (nI ef)])), (le, .inl (cA, 72, .inl (aN fle))), (ra, .inr (3, [.ref al, .ref be])), (be, .inl (cA, 448, .inl (aN fbe)))]) (wr := [(ho, .inl (cA, 8, .inl (aN fho)))]) hS hA hP hD [0, 1, 3, 4] [2] rfl rfl (by decide) (by decide) (va_runV (As := [.int (nI na), .int (nI ((na * 7 + r) * 8 + 0)), .int (nI ((na * 7 + cd) * 8 + 0))]) (rest := []) ⟨hx, hb, hml, hown, hts⟩ (kX2_leavesAsMuch l D cA H.size sa le ho tr ke ra al be fle fbe nm kc cb ef na ((na * 7 + r) * 8 + 0) ((na * 7 + cd) * 8 + 0) (by omega) (by omega) (by omega) (by omega) hle) (cwV 3 hts gX2_isNeedless_X2_leavesAsMuch rfl rfl rfl (by decide +kernel) ⟨Nat.le_of_ble_eq_true rfl, Nat.le_of_ble_eq_true rfl⟩) ⟨(zPreS (av := [.ref sa, .int (nI na), .int (nI ((na * 7 + r) * 8 + 0)), .int (nI ((na * 7 + cd) * 8 + 0))]) (wc := [(sa, .inr (4, [.ref ra, .ref le, .ref ho, .ref tr, .ref ke, .int (nI nm), .int (nI kc), .int (nI cb), .int (nI ef)])), (le, .inl (cA, 72, .inl (aN fle))), (ra, .inr (3, [.ref al, .ref be])), (be, .inl (cA, 448, .inl (aN fbe)))]) hK hP hD [0, 1, 3, 4] rfl (by decide) rfl).1, (va_recv hK.1 hP (ci := 4) (q0 := 0) rfl rfl), (zPreS (av := [.ref sa, .int (nI na), .int (nI ((na * 7 + r) * 8 + 0)), .int (nI ((na * 7 + cd) * 8 + 0))]) (wc := [(sa, .inr (4, [.ref ra, .ref le, .ref ho, .ref tr, .ref ke, .int (nI nm), .int (nI kc), .int (nI cb), .int (nI ef)])), (le, .inl (cA, 72, .inl (aN fle))), (ra, .inr (3, [.ref al, .ref be])), (be, .inl (cA, 448, .inl (aN fbe)))]) hK hP hD [0, 1, 3, 4] rfl (by decide) rfl).2⟩ rfl rfl hl.1 rfl (lv_room (Nat.le_of_ble_eq_true rfl)) dX2_isNeedless_71 ⟨Nat.zero_le _, Nat.zero_le _⟩) (fun H locs hP hD hS => ?_)
          have hP : va_P D vwCl [(ho, .inl (cA, 8, .inl (aN fho))), (sa, .inr (4, [.ref ra, .ref le, .ref ho, .ref tr, .ref ke, .int (nI nm), .int (nI kc), .int (nI cb), .int (nI ef)])), (le, .inl (cA, 72, .inl (aN fle))), (ra, .inr (3, [.ref al, .ref be])), (be, .inl (cA, 448, .inl (aN fbe)))] H := hP
          have hD : va_D A [(ho, .inl (cA, 8, .inl (aN fho))), (sa, .inr (4, [.ref ra, .ref le, .ref ho, .ref tr, .ref ke, .int (nI nm), .int (nI kc), .int (nI cb), .int (nI ef)])), (le, .inl (cA, 72, .inl (aN fle))), (ra, .inr (3, [.ref al, .ref be])), (be, .inl (cA, 448, .inl (aN fbe)))] := hD
          have hP : va_P D vwCl [(sa, .inr (4, [.ref ra, .ref le, .ref ho, .ref tr, .ref ke, .int (nI nm), .int (nI kc), .int (nI cb), .int (nI ef)])), (le, .inl (cA, 72, .inl (aN fle))), (ho, .inl (cA, 8, .inl (aN fho))), (ra, .inr (3, [.ref al, .ref be])), (be, .inl (cA, 448, .inl (aN fbe)))] H := hP.sub [1, 2, 0, 3, 4] rfl
          have hD : va_D A [(sa, .inr (4, [.ref ra, .ref le, .ref ho, .ref tr, .ref ke, .int (nI nm), .int (nI kc), .int (nI cb), .int (nI ef)])), (le, .inl (cA, 72, .inl (aN fle))), (ho, .inl (cA, 8, .inl (aN fho))), (ra, .inr (3, [.ref al, .ref be])), (be, .inl (cA, 448, .inl (aN fbe)))] := hD.sub [1, 2, 0, 3, 4] (by decide) rfl
          refine nn_if_eq (tgt := 79) hx hb dX2_isNeedless_74 (by decide) lamF_lt (fun c_74 => ?_) (fun c_74 => ?_)
          · refine lv_iinc (v := (nI (r + 1))) (lv' := [(6, .int (nI (r + 1))), (0, .ref sa), (1, .int (nI na)), (2, .int (nI cd)), (3, .int (nI bf)), (4, .int (nI (rivF (fho na) cd bf))), (5, .int (nI ((na * 7 + cd) * 8 + 0)))]) hx hb dX2_isNeedless_79 hl (k := 6) rfl (nI_add _ _) (by decide) rfl (fun ls hl => ?_)
            refine lv_goto (tgt := 43) hx hb dX2_isNeedless_82 (by decide) ?_
            exact ih (r + 1) (by omega) (by first | (rw [← hE, ndL, if_pos c_57]; done) | (rw [← hE, ndL, if_neg c_57, if_pos c_74]; done)) _ _ _ hP hD hS (lv_sub hl [1, 2, 3, 4, 5, 6, 0] rfl)
          · refine lv_iconst (v := nI 1) hx hb dX2_isNeedless_77 (by decide) ?_
            exact W.zret (v := (nI 1)) hx hb hr rfl (fun t ht hW => ⟨⟨(nI 1), (), rfl, (by rw [← hE, ndL, if_neg c_57, if_neg c_74]), by rw [ht]; exact hP, hD⟩, hS.F ht⟩) hS.2.2 dX2_isNeedless_78

theorem lkX2_give_15 : Cond.fieldLink RX2 15 "LeastChange$Search" "home" "[I" ∈ wsX2_give := by decide +kernel
theorem lkX2_give_18 : Cond.fieldLink RX2 18 "LeastChange$Search" "tried" "[I" ∈ wsX2_give := by decide +kernel
theorem lkX2_give_31 : Cond.fieldLink RX2 31 "LeastChange$Search" "costBound" "I" ∈ wsX2_give := by decide +kernel
theorem inX2_give_X2 : ∀ w ∈ wsX20, w ∈ wsX2_give := by decide +kernel
set_option maxHeartbeats 4000000 in
set_option maxRecDepth 100000 in
theorem kX2_give (l : Launch) (D : va_G) (cA : ClassId) (sz : Nat) (sa : Nat) (le : Nat) (ho : Nat) (tr : Nat) (ke : Nat) (ra : Nat) (al : Nat) (be : Nat) (fho : Nat → Nat) (fal : Nat → Nat) (fbe : Nat → Nat) (nm : Nat) (ef : Nat) (d : Nat) (na : Nat) (cd : Nat) (co : Nat) (bf : Nat) (x : Sg) (hn : nm ≤ 8) (hho : ∀ j, fho j < 32) (he : ef < 2) (ihg : ∀ (sz na co : Nat) (x : Sg), na + d = nm → co ≤ 17 * na → GInv x → zMv l yX2_giveFrom wsX2_giveFrom ({ frames := 2 * d + 2, cells := 0, slots := 0, locals := 51 * d + 30 }) D cA [.ref sa, .int (nI na), .int (nI co)] sz [(sa, .inr (4, [.ref ra, .ref le, .ref ho, .ref tr, .ref ke, .int (nI nm), .int (nI x.2.2.2.1), .int (nI x.2.2.2.2), .int (nI ef)])), (le, .inl (cA, 72, .inl (aN x.1))), (ho, .inl (cA, 8, .inl (aN fho))), (tr, .inl (cA, 8, .inl (aN x.2.1))), (ke, .inl (cA, 8, .inl (aN x.2.2.1))), (ra, .inr (3, [.ref al, .ref be])), (al, .inl (cA, 8, .inl (aN fal))), (be, .inl (cA, 448, .inl (aN fbe)))] [(sa, .inr (4, [.ref ra, .ref le, .ref ho, .ref tr, .ref ke, .int (nI nm), .int (nI ((giveFromF nm ef fbe fho d na co x).2.2.2.1)), .int (nI ((giveFromF nm ef fbe fho d na co x).2.2.2.2)), .int (nI ef)])), (le, .inl (cA, 72, .inl (aN ((giveFromF nm ef fbe fho d na co x).1)))), (ho, .inl (cA, 8, .inl (aN fho))), (tr, .inl (cA, 8, .inl (aN ((giveFromF nm ef fbe fho d na co x).2.1)))), (ke, .inl (cA, 8, .inl (aN ((giveFromF nm ef fbe fho d na co x).2.2.1)))), (ra, .inr (3, [.ref al, .ref be])), (al, .inl (cA, 8, .inl (aN fal))), (be, .inl (cA, 448, .inl (aN fbe)))]) (hna : na + (d + 1) = nm) (hcd : cd < 7) (hco : co ≤ 17 * na) (hbf : bf < 128) (hg : GInv x) : zMv l yX2_give wsX2_give ({ frames := 2 * d + 3, cells := 0, slots := 0, locals := 51 * d + 56 }) D cA [.ref sa, .int (nI na), .int (nI cd), .int (nI co), .int (nI bf)] sz [(sa, .inr (4, [.ref ra, .ref le, .ref ho, .ref tr, .ref ke, .int (nI nm), .int (nI x.2.2.2.1), .int (nI x.2.2.2.2), .int (nI ef)])), (le, .inl (cA, 72, .inl (aN x.1))), (ho, .inl (cA, 8, .inl (aN fho))), (tr, .inl (cA, 8, .inl (aN x.2.1))), (ke, .inl (cA, 8, .inl (aN x.2.2.1))), (ra, .inr (3, [.ref al, .ref be])), (al, .inl (cA, 8, .inl (aN fal))), (be, .inl (cA, 448, .inl (aN fbe)))] [(sa, .inr (4, [.ref ra, .ref le, .ref ho, .ref tr, .ref ke, .int (nI nm), .int (nI ((giveStep (giveFromF nm ef fbe fho d) nm fbe fho na cd co bf x).2.2.2.1)), .int (nI ((giveStep (giveFromF nm ef fbe fho d) nm fbe fho na cd co bf x).2.2.2.2)), .int (nI ef)])), (le, .inl (cA, 72, .inl (aN ((giveStep (giveFromF nm ef fbe fho d) nm fbe fho na cd co bf x).1)))), (ho, .inl (cA, 8, .inl (aN fho))), (tr, .inl (cA, 8, .inl (aN ((giveStep (giveFromF nm ef fbe fho d) nm fbe fho na cd co bf x).2.1)))), (ke, .inl (cA, 8, .inl (aN ((giveStep (giveFromF nm ef fbe fho d) nm fbe fho na cd co bf x).2.2.1)))), (ra, .inr (3, [.ref al, .ref be])), (al, .inl (cA, 8, .inl (aN fal))), (be, .inl (cA, 448, .inl (aN fbe)))] := by
  refine Met.ofW (cc := cX2_give) (maxL := 6) (ret := none) (by decide) rfl ?_
  intro p e s m args below meth c s₁ B hml hv
  obtain ⟨rfl, hsz, hP, hK, hD0⟩ := hv
  have hx := B.exec
  have hb := B.bytes
  have hr := B.returns
  have hts := atoms_spec (ws := wsX2_give) B.pre
  have hown : s.vm.findClass RX2 = some m.cls := findClass_of_methodNamed B.named
  have hlocks := B.notSynchronized
  subst hsz
  have hD := hD0.self (sz := s.heap.size)
  generalize hAe : va_A [(sa, .inr (4, [.ref ra, .ref le, .ref ho, .ref tr, .ref ke, .int (nI nm), .int (nI x.2.2.2.1), .int (nI x.2.2.2.2), .int (nI ef)])), (le, .inl (cA, 72, .inl (aN x.1))), (ho, .inl (cA, 8, .inl (aN fho))), (tr, .inl (cA, 8, .inl (aN x.2.1))), (ke, .inl (cA, 8, .inl (aN x.2.2.1))), (ra, .inr (3, [.ref al, .ref be])), (al, .inl (cA, 8, .inl (aN fal))), (be, .inl (cA, 448, .inl (aN fbe)))] s.heap.size = A at hD ⊢
  have hA : ∀ q : Nat, s.heap.size ≤ q → A q := fun q h => by rw [← hAe]; exact Or.inr h
  have hS : va_S A s.heap s.heap [] := va_S.rf
  have hP : va_P D vwCl [(sa, .inr (4, [.ref ra, .ref le, .ref ho, .ref tr, .ref ke, .int (nI nm), .int (nI x.2.2.2.1), .int (nI x.2.2.2.2), .int (nI ef)])), (le, .inl (cA, 72, .inl (aN x.1))), (ho, .inl (cA, 8, .inl (aN fho))), (tr, .inl (cA, 8, .inl (aN x.2.1))), (ke, .inl (cA, 8, .inl (aN x.2.2.1))), (ra, .inr (3, [.ref al, .ref be])), (al, .inl (cA, 8, .inl (aN fal))), (be, .inl (cA, 448, .inl (aN fbe)))] s.heap := hP
  have hl := lv_entry ([.ref sa, .int (nI na), .int (nI cd), .int (nI co), .int (nI bf)]) (n := 6) (Nat.le_of_ble_eq_true rfl)
  rw [lg_entry_eq]
  generalize (lg_sl ([.ref sa, .int (nI na), .int (nI cd), .int (nI co), .int (nI bf)]) ++ List.replicate (6 - (lg_sl ([.ref sa, .int (nI na), .int (nI cd), .int (nI co), .int (nI bf)])).length) Slot.unset).toArray = ls at hl ⊢
  have hl : lv_has ls 6 [(0, .ref sa), (1, .int (nI na)), (2, .int (nI cd)), (3, .int (nI co)), (4, .int (nI bf))] := hl
  refine lv_iload_n hx hb dX2_give_0 rfl (lv_at hl 3 rfl) ?_
  refine lv_iload_n hx hb dX2_give_1 rfl (lv_at hl 2 rfl) ?_
  refine lv_aload_n hx hb dX2_give_2 rfl (lv_at hl 0 rfl) ?_
  refine va_get (D := D) (ci := 4) (v := .ref ho) (C := RX2) (T := TX2) (N := 9) hx hb hts inX2_give_X2 hown hK.1 hP 0 rfl rfl 2 (by decide) (hts _ lkX2_give_15) (fun _ h9 => h9) rfl dX2_give_3 ?_
  refine lv_iload_n hx hb dX2_give_6 rfl (lv_at hl 1 rfl) ?_
  refine nn_ald hx hb hK hP 2 rfl (by omega) (by decide) dX2_give_7 ?_
  refine zz_callI (av := []) (wc := []) (wr := [(sa, .inr (4, [.ref ra, .ref le, .ref ho, .ref tr, .ref ke, .int (nI nm), .int (nI x.2.2.2.1), .int (nI x.2.2.2.2), .int (nI ef)])), (le, .inl (cA, 72, .inl (aN x.1))), (ho, .inl (cA, 8, .inl (aN fho))), (tr, .inl (cA, 8, .inl (aN x.2.1))), (ke, .inl (cA, 8, .inl (aN x.2.2.1))), (ra, .inr (3, [.ref al, .ref be])), (al, .inl (cA, 8, .inl (aN fal))), (be, .inl (cA, 448, .inl (aN fbe)))]) hS hA hP hD [] [0, 1, 2, 3, 4, 5, 6, 7] rfl rfl (by decide) (by decide) (va_runS (As := [.int (nI cd), .int (nI (fho na))]) (rest := [.int (nI co)]) ⟨hx, hb, hml, hown, hts⟩ (kX2_costOf l D cA s.heap.size cd (fho na) (by omega) (Nat.lt_trans (hho _) (by decide))) (va_cwS 2 hts gX2_give_X2_costOf rfl rfl rfl (by decide +kernel) ⟨by show 1 + 1 ≤ 2 * d + 3; omega, by show 8 + (2 + 11) + 21 ≤ 51 * d + 56; omega⟩) (zPreS (av := [.int (nI cd), .int (nI (fho na))]) (wc := []) hK hP hD [] rfl (by decide) rfl) rfl rfl hl.1 rfl (lv_room (Nat.le_of_ble_eq_true rfl)) dX2_give_8 ⟨Nat.zero_le _, Nat.zero_le _⟩) (fun H locs hP hD hS => ?_)
  have hP : va_P D vwCl [(sa, .inr (4, [.ref ra, .ref le, .ref ho, .ref tr, .ref ke, .int (nI nm), .int (nI x.2.2.2.1), .int (nI x.2.2.2.2), .int (nI ef)])), (le, .inl (cA, 72, .inl (aN x.1))), (ho, .inl (cA, 8, .inl (aN fho))), (tr, .inl (cA, 8, .inl (aN x.2.1))), (ke, .inl (cA, 8, .inl (aN x.2.2.1))), (ra, .inr (3, [.ref al, .ref be])), (al, .inl (cA, 8, .inl (aN fal))), (be, .inl (cA, 448, .inl (aN fbe)))] H := hP
  have hD : va_D A [(sa, .inr (4, [.ref ra, .ref le, .ref ho, .ref tr, .ref ke, .int (nI nm), .int (nI x.2.2.2.1), .int (nI x.2.2.2.2), .int (nI ef)])), (le, .inl (cA, 72, .inl (aN x.1))), (ho, .inl (cA, 8, .inl (aN fho))), (tr, .inl (cA, 8, .inl (aN x.2.1))), (ke, .inl (cA, 8, .inl (aN x.2.2.1))), (ra, .inr (3, [.ref al, .ref be])), (al, .inl (cA, 8, .inl (aN fal))), (be, .inl (cA, 448, .inl (aN fbe)))] := hD
  refine nn_iadd hx hb dX2_give_11 ?_
  refine lv_istore (lv' := [(5, .int (nI (co + (costN cd (fho na))))), (0, .ref sa), (1, .int (nI na)), (2, .int (nI cd)), (3, .int (nI co)), (4, .int (nI bf))]) hx hb dX2_give_12 hl (by decide) rfl (fun ls hl => ?_)
  refine lv_iload hx hb dX2_give_14 (lv_at hl 0 rfl) ?_
  refine lv_aload_n hx hb dX2_give_16 rfl (lv_at hl 1 rfl) ?_
  refine lv_iload_n hx hb dX2_give_17 rfl (lv_at hl 2 rfl) ?_
  refine lv_iload_n hx hb dX2_give_18 rfl (lv_at hl 3 rfl) ?_
  refine lv_aload_n hx hb dX2_give_19 rfl (lv_at hl 1 rfl) ?_
  refine va_get (D := D) (ci := 4) (v := .int (nI x.2.2.2.2)) (C := RX2) (T := TX2) (N := 9) hx hb hts inX2_give_X2 hown hK.1 hP 0 rfl rfl 7 (by decide) (hts _ lkX2_give_31) (fun _ h9 => h9) rfl dX2_give_20 ?_
  refine lv_iload hx hb dX2_give_23 (lv_at hl 0 rfl) ?_
  refine lv_isub hx hb dX2_give_25 ?_
  refine zz_callI (av := []) (wc := [(sa, .inr (4, [.ref ra, .ref le, .ref ho, .ref tr, .ref ke, .int (nI nm), .int (nI x.2.2.2.1), .int (nI x.2.2.2.2), .int (nI ef)])), (le, .inl (cA, 72, .inl (aN x.1))), (ho, .inl (cA, 8, .inl (aN fho))), (tr, .inl (cA, 8, .inl (aN x.2.1))), (ke, .inl (cA, 8, .inl (aN x.2.2.1))), (ra, .inr (3, [.ref al, .ref be])), (al, .inl (cA, 8, .inl (aN fal))), (be, .inl (cA, 448, .inl (aN fbe)))]) (wr := []) hS hA hP hD [0, 1, 2, 3, 4, 5, 6, 7] [] rfl rfl (by decide) (by decide) (va_runV (As := [.int (nI na), .int (nI cd), .int ((nI x.2.2.2.2) - (nI (co + (costN cd (fho na)))))]) (rest := [.int (nI (co + (costN cd (fho na))))]) ⟨hx, hb, hml, hown, hts⟩ (kX2_narrowRest l D cA H.size sa le ho tr ke ra al be x.1 fho x.2.1 x.2.2.1 fal fbe nm x.2.2.2.1 x.2.2.2.2 ef na cd x.2.2.2.2 (co + costN cd (fho na)) (by omega) (by omega) (by omega) (Nat.lt_of_le_of_lt hg.2 (by decide)) (by have := costN_le cd (fho na); omega) hho hg.1) (cwV 3 hts gX2_give_X2_narrowRest rfl rfl rfl (by decide +kernel) ⟨by show 1 + 1 ≤ 2 * d + 3; omega, by show 8 + (10 + 11) + 22 ≤ 51 * d + 56; omega⟩) ⟨(zPreS (av := [.ref sa, .int (nI na), .int (nI cd), .int ((nI x.2.2.2.2) - (nI (co + (costN cd (fho na)))))]) (wc := [(sa, .inr (4, [.ref ra, .ref le, .ref ho, .ref tr, .ref ke, .int (nI nm), .int (nI x.2.2.2.1), .int (nI x.2.2.2.2), .int (nI ef)])), (le, .inl (cA, 72, .inl (aN x.1))), (ho, .inl (cA, 8, .inl (aN fho))), (tr, .inl (cA, 8, .inl (aN x.2.1))), (ke, .inl (cA, 8, .inl (aN x.2.2.1))), (ra, .inr (3, [.ref al, .ref be])), (al, .inl (cA, 8, .inl (aN fal))), (be, .inl (cA, 448, .inl (aN fbe)))]) hK hP hD [0, 1, 2, 3, 4, 5, 6, 7] rfl (by decide) rfl).1, (va_recv hK.1 hP (ci := 4) (q0 := 0) rfl rfl), (zPreS (av := [.ref sa, .int (nI na), .int (nI cd), .int ((nI x.2.2.2.2) - (nI (co + (costN cd (fho na)))))]) (wc := [(sa, .inr (4, [.ref ra, .ref le, .ref ho, .ref tr, .ref ke, .int (nI nm), .int (nI x.2.2.2.1), .int (nI x.2.2.2.2), .int (nI ef)])), (le, .inl (cA, 72, .inl (aN x.1))), (ho, .inl (cA, 8, .inl (aN fho))), (tr, .inl (cA, 8, .inl (aN x.2.1))), (ke, .inl (cA, 8, .inl (aN x.2.2.1))), (ra, .inr (3, [.ref al, .ref be])), (al, .inl (cA, 8, .inl (aN fal))), (be, .inl (cA, 448, .inl (aN fbe)))]) hK hP hD [0, 1, 2, 3, 4, 5, 6, 7] rfl (by decide) rfl).2⟩ rfl rfl hl.1 rfl (lv_room (Nat.le_of_ble_eq_true rfl)) dX2_give_26 ⟨Nat.zero_le _, Nat.zero_le _⟩) (fun H locs hP hD hS => ?_)
  have hP : va_P D vwCl [(sa, .inr (4, [.ref ra, .ref le, .ref ho, .ref tr, .ref ke, .int (nI nm), .int (nI x.2.2.2.1), .int (nI x.2.2.2.2), .int (nI ef)])), (le, .inl (cA, 72, .inl (aN ((nrF nm fbe fho na cd x.2.2.2.2 (co + costN cd (fho na)) x.1).2)))), (ho, .inl (cA, 8, .inl (aN fho))), (tr, .inl (cA, 8, .inl (aN x.2.1))), (ke, .inl (cA, 8, .inl (aN x.2.2.1))), (ra, .inr (3, [.ref al, .ref be])), (al, .inl (cA, 8, .inl (aN fal))), (be, .inl (cA, 448, .inl (aN fbe)))] H := hP
  have hD : va_D A [(sa, .inr (4, [.ref ra, .ref le, .ref ho, .ref tr, .ref ke, .int (nI nm), .int (nI x.2.2.2.1), .int (nI x.2.2.2.2), .int (nI ef)])), (le, .inl (cA, 72, .inl (aN ((nrF nm fbe fho na cd x.2.2.2.2 (co + costN cd (fho na)) x.1).2)))), (ho, .inl (cA, 8, .inl (aN fho))), (tr, .inl (cA, 8, .inl (aN x.2.1))), (ke, .inl (cA, 8, .inl (aN x.2.2.1))), (ra, .inr (3, [.ref al, .ref be])), (al, .inl (cA, 8, .inl (aN fal))), (be, .inl (cA, 448, .inl (aN fbe)))] := hD
  refine nn_iadd hx hb dX2_give_29 ?_
  refine lv_aload_n hx hb dX2_give_30 rfl (lv_at hl 1 rfl) ?_
  refine va_get (D := D) (ci := 4) (v := .int (nI x.2.2.2.2)) (C := RX2) (T := TX2) (N := 9) hx hb hts inX2_give_X2 hown hK.1 hP 0 rfl rfl 7 (by decide) (hts _ lkX2_give_31) (fun _ h9 => h9) rfl dX2_give_31 ?_
  have hr9 : (nrF nm fbe fho na cd x.2.2.2.2 (co + costN cd (fho na)) x.1).1 ≤ 1152 := nrF_le hn
  have hc9 := costN_le cd (fho na)
  have hg2 := hg.2
  refine nn_icmp_ge (tgt := 64) hx hb dX2_give_34 (by decide) (by omega) (by omega) (fun c_34 => ?_) (fun c_34 => ?_)
  · have eW : ([(sa, .inr (4, [.ref ra, .ref le, .ref ho, .ref tr, .ref ke, .int (nI nm), .int (nI x.2.2.2.1), .int (nI x.2.2.2.2), .int (nI ef)])), (le, .inl (cA, 72, .inl (aN ((nrF nm fbe fho na cd x.2.2.2.2 (co + costN cd (fho na)) x.1).2)))), (ho, .inl (cA, 8, .inl (aN fho))), (tr, .inl (cA, 8, .inl (aN x.2.1))), (ke, .inl (cA, 8, .inl (aN x.2.2.1))), (ra, .inr (3, [.ref al, .ref be])), (al, .inl (cA, 8, .inl (aN fal))), (be, .inl (cA, 448, .inl (aN fbe)))] : va_W) = [(sa, .inr (4, [.ref ra, .ref le, .ref ho, .ref tr, .ref ke, .int (nI nm), .int (nI ((giveStep (giveFromF nm ef fbe fho d) nm fbe fho na cd co bf x).2.2.2.1)), .int (nI ((giveStep (giveFromF nm ef fbe fho d) nm fbe fho na cd co bf x).2.2.2.2)), .int (nI ef)])), (le, .inl (cA, 72, .inl (aN ((giveStep (giveFromF nm ef fbe fho d) nm fbe fho na cd co bf x).1)))), (ho, .inl (cA, 8, .inl (aN fho))), (tr, .inl (cA, 8, .inl (aN ((giveStep (giveFromF nm ef fbe fho d) nm fbe fho na cd co bf x).2.1)))), (ke, .inl (cA, 8, .inl (aN ((giveStep (giveFromF nm ef fbe fho d) nm fbe fho na cd co bf x).2.2.1)))), (ra, .inr (3, [.ref al, .ref be])), (al, .inl (cA, 8, .inl (aN fal))), (be, .inl (cA, 448, .inl (aN fbe)))] := by unfold giveStep; first | (rw [if_neg (show ¬ ((co + costN cd (fho na)) + (nrF nm fbe fho na cd x.2.2.2.2 (co + costN cd (fho na)) x.1).1 < x.2.2.2.2) by omega)]; done) | (rw [if_pos (show (co + costN cd (fho na)) + (nrF nm fbe fho na cd x.2.2.2.2 (co + costN cd (fho na)) x.1).1 < x.2.2.2.2 by omega), if_neg c_45]; done) | (rw [if_pos (show (co + costN cd (fho na)) + (nrF nm fbe fho na cd x.2.2.2.2 (co + costN cd (fho na)) x.1).1 < x.2.2.2.2 by omega), if_pos c_45]; done)
    rw [eW] at hP hD
    exact W.vret hx hb hr (fun t ht hW => ⟨⟨(), rfl, trivial, by rw [ht]; exact hP, hD⟩, hS.F ht⟩) hS.2.2 dX2_give_64
  · refine lv_aload_n hx hb dX2_give_37 rfl (lv_at hl 1 rfl) ?_
    refine lv_iload_n hx hb dX2_give_38 rfl (lv_at hl 2 rfl) ?_
    refine lv_iload_n hx hb dX2_give_39 rfl (lv_at hl 3 rfl) ?_
    refine lv_iload hx hb dX2_give_40 (lv_at hl 5 rfl) ?_
    refine zz_callI (av := []) (wc := [(sa, .inr (4, [.ref ra, .ref le, .ref ho, .ref tr, .ref ke, .int (nI nm), .int (nI x.2.2.2.1), .int (nI x.2.2.2.2), .int (nI ef)])), (le, .inl (cA, 72, .inl (aN ((nrF nm fbe fho na cd x.2.2.2.2 (co + costN cd (fho na)) x.1).2)))), (ho, .inl (cA, 8, .inl (aN fho))), (ra, .inr (3, [.ref al, .ref be])), (be, .inl (cA, 448, .inl (aN fbe)))]) (wr := [(tr, .inl (cA, 8, .inl (aN x.2.1))), (ke, .inl (cA, 8, .inl (aN x.2.2.1))), (al, .inl (cA, 8, .inl (aN fal)))]) hS hA hP hD [0, 1, 2, 5, 7] [3, 4, 6] rfl rfl (by decide) (by decide) (va_runV (As := [.int (nI na), .int (nI cd), .int (nI bf)]) (rest := []) ⟨hx, hb, hml, hown, hts⟩ (kX2_isNeedless l D cA H.size sa le ho tr ke ra al be ((nrF nm fbe fho na cd x.2.2.2.2 (co + costN cd (fho na)) x.1).2) fho fbe nm x.2.2.2.1 x.2.2.2.2 ef na cd bf (by omega) (by omega) (by omega) (by omega) hho (nrF_lt hg.1)) (cwV 3 hts gX2_give_X2_isNeedless rfl rfl rfl (by decide +kernel) ⟨by show 1 + 1 ≤ 2 * d + 3; omega, by show 8 + (7 + 11) + 25 ≤ 51 * d + 56; omega⟩) ⟨(zPreS (av := [.ref sa, .int (nI na), .int (nI cd), .int (nI bf)]) (wc := [(sa, .inr (4, [.ref ra, .ref le, .ref ho, .ref tr, .ref ke, .int (nI nm), .int (nI x.2.2.2.1), .int (nI x.2.2.2.2), .int (nI ef)])), (le, .inl (cA, 72, .inl (aN ((nrF nm fbe fho na cd x.2.2.2.2 (co + costN cd (fho na)) x.1).2)))), (ho, .inl (cA, 8, .inl (aN fho))), (ra, .inr (3, [.ref al, .ref be])), (be, .inl (cA, 448, .inl (aN fbe)))]) hK hP hD [0, 1, 2, 5, 7] rfl (by decide) rfl).1, (va_recv hK.1 hP (ci := 4) (q0 := 0) rfl rfl), (zPreS (av := [.ref sa, .int (nI na), .int (nI cd), .int (nI bf)]) (wc := [(sa, .inr (4, [.ref ra, .ref le, .ref ho, .ref tr, .ref ke, .int (nI nm), .int (nI x.2.2.2.1), .int (nI x.2.2.2.2), .int (nI ef)])), (le, .inl (cA, 72, .inl (aN ((nrF nm fbe fho na cd x.2.2.2.2 (co + costN cd (fho na)) x.1).2)))), (ho, .inl (cA, 8, .inl (aN fho))), (ra, .inr (3, [.ref al, .ref be])), (be, .inl (cA, 448, .inl (aN fbe)))]) hK hP hD [0, 1, 2, 5, 7] rfl (by decide) rfl).2⟩ rfl rfl hl.1 rfl (lv_room (Nat.le_of_ble_eq_true rfl)) dX2_give_42 ⟨Nat.zero_le _, Nat.zero_le _⟩) (fun H locs hP hD hS => ?_)
    have hP : va_P D vwCl [(tr, .inl (cA, 8, .inl (aN x.2.1))), (ke, .inl (cA, 8, .inl (aN x.2.2.1))), (al, .inl (cA, 8, .inl (aN fal))), (sa, .inr (4, [.ref ra, .ref le, .ref ho, .ref tr, .ref ke, .int (nI nm), .int (nI x.2.2.2.1), .int (nI x.2.2.2.2), .int (nI ef)])), (le, .inl (cA, 72, .inl (aN ((nrF nm fbe fho na cd x.2.2.2.2 (co + costN cd (fho na)) x.1).2)))), (ho, .inl (cA, 8, .inl (aN fho))), (ra, .inr (3, [.ref al, .ref be])), (be, .inl (cA, 448, .inl (aN fbe)))] H := hP
    have hD : va_D A [(tr, .inl (cA, 8, .inl (aN x.2.1))), (ke, .inl (cA, 8, .inl (aN x.2.2.1))), (al, .inl (cA, 8, .inl (aN fal))), (sa, .inr (4, [.ref ra, .ref le, .ref ho, .ref tr, .ref ke, .int (nI nm), .int (nI x.2.2.2.1), .int (nI x.2.2.2.2), .int (nI ef)])), (le, .inl (cA, 72, .inl (aN ((nrF nm fbe fho na cd x.2.2.2.2 (co + costN cd (fho na)) x.1).2)))), (ho, .inl (cA, 8, .inl (aN fho))), (ra, .inr (3, [.ref al, .ref be])), (be, .inl (cA, 448, .inl (aN fbe)))] := hD
    have hP : va_P D vwCl [(sa, .inr (4, [.ref ra, .ref le, .ref ho, .ref tr, .ref ke, .int (nI nm), .int (nI x.2.2.2.1), .int (nI x.2.2.2.2), .int (nI ef)])), (le, .inl (cA, 72, .inl (aN ((nrF nm fbe fho na cd x.2.2.2.2 (co + costN cd (fho na)) x.1).2)))), (ho, .inl (cA, 8, .inl (aN fho))), (tr, .inl (cA, 8, .inl (aN x.2.1))), (ke, .inl (cA, 8, .inl (aN x.2.2.1))), (ra, .inr (3, [.ref al, .ref be])), (al, .inl (cA, 8, .inl (aN fal))), (be, .inl (cA, 448, .inl (aN fbe)))] H := hP.sub [3, 4, 5, 0, 1, 6, 2, 7] rfl
    have hD : va_D A [(sa, .inr (4, [.ref ra, .ref le, .ref ho, .ref tr, .ref ke, .int (nI nm), .int (nI x.2.2.2.1), .int (nI x.2.2.2.2), .int (nI ef)])), (le, .inl (cA, 72, .inl (aN ((nrF nm fbe fho na cd x.2.2.2.2 (co + costN cd (fho na)) x.1).2)))), (ho, .inl (cA, 8, .inl (aN fho))), (tr, .inl (cA, 8, .inl (aN x.2.1))), (ke, .inl (cA, 8, .inl (aN x.2.2.1))), (ra, .inr (3, [.ref al, .ref be])), (al, .inl (cA, 8, .inl (aN fal))), (be, .inl (cA, 448, .inl (aN fbe)))] := hD.sub [3, 4, 5, 0, 1, 6, 2, 7] (by decide) rfl
    refine nn_if_ne (tgt := 64) hx hb dX2_give_45 (by decide) ndF_lt (fun c_45 => ?_) (fun c_45 => ?_)
    · have eW : ([(sa, .inr (4, [.ref ra, .ref le, .ref ho, .ref tr, .ref ke, .int (nI nm), .int (nI x.2.2.2.1), .int (nI x.2.2.2.2), .int (nI ef)])), (le, .inl (cA, 72, .inl (aN ((nrF nm fbe fho na cd x.2.2.2.2 (co + costN cd (fho na)) x.1).2)))), (ho, .inl (cA, 8, .inl (aN fho))), (tr, .inl (cA, 8, .inl (aN x.2.1))), (ke, .inl (cA, 8, .inl (aN x.2.2.1))), (ra, .inr (3, [.ref al, .ref be])), (al, .inl (cA, 8, .inl (aN fal))), (be, .inl (cA, 448, .inl (aN fbe)))] : va_W) = [(sa, .inr (4, [.ref ra, .ref le, .ref ho, .ref tr, .ref ke, .int (nI nm), .int (nI ((giveStep (giveFromF nm ef fbe fho d) nm fbe fho na cd co bf x).2.2.2.1)), .int (nI ((giveStep (giveFromF nm ef fbe fho d) nm fbe fho na cd co bf x).2.2.2.2)), .int (nI ef)])), (le, .inl (cA, 72, .inl (aN ((giveStep (giveFromF nm ef fbe fho d) nm fbe fho na cd co bf x).1)))), (ho, .inl (cA, 8, .inl (aN fho))), (tr, .inl (cA, 8, .inl (aN ((giveStep (giveFromF nm ef fbe fho d) nm fbe fho na cd co bf x).2.1)))), (ke, .inl (cA, 8, .inl (aN ((giveStep (giveFromF nm ef fbe fho d) nm fbe fho na cd co bf x).2.2.1)))), (ra, .inr (3, [.ref al, .ref be])), (al, .inl (cA, 8, .inl (aN fal))), (be, .inl (cA, 448, .inl (aN fbe)))] := by unfold giveStep; first | (rw [if_neg (show ¬ ((co + costN cd (fho na)) + (nrF nm fbe fho na cd x.2.2.2.2 (co + costN cd (fho na)) x.1).1 < x.2.2.2.2) by omega)]; done) | (rw [if_pos (show (co + costN cd (fho na)) + (nrF nm fbe fho na cd x.2.2.2.2 (co + costN cd (fho na)) x.1).1 < x.2.2.2.2 by omega), if_neg c_45]; done) | (rw [if_pos (show (co + costN cd (fho na)) + (nrF nm fbe fho na cd x.2.2.2.2 (co + costN cd (fho na)) x.1).1 < x.2.2.2.2 by omega), if_pos c_45]; done)
      rw [eW] at hP hD
      exact W.vret hx hb hr (fun t ht hW => ⟨⟨(), rfl, trivial, by rw [ht]; exact hP, hD⟩, hS.F ht⟩) hS.2.2 dX2_give_64
    · refine lv_aload_n hx hb dX2_give_48 rfl (lv_at hl 1 rfl) ?_
      refine va_get (D := D) (ci := 4) (v := .ref tr) (C := RX2) (T := TX2) (N := 9) hx hb hts inX2_give_X2 hown hK.1 hP 0 rfl rfl 3 (by decide) (hts _ lkX2_give_18) (fun _ h9 => h9) rfl dX2_give_49 ?_
      refine lv_iload_n hx hb dX2_give_52 rfl (lv_at hl 2 rfl) ?_
      refine lv_iload_n hx hb dX2_give_53 rfl (lv_at hl 3 rfl) ?_
      refine nn_ast hx hb hK hP hD hS 3 rfl (by omega) (by decide) dX2_give_54 (fun H locs hP hD hS => ?_)
      have hP : va_P D vwCl [(sa, .inr (4, [.ref ra, .ref le, .ref ho, .ref tr, .ref ke, .int (nI nm), .int (nI x.2.2.2.1), .int (nI x.2.2.2.2), .int (nI ef)])), (le, .inl (cA, 72, .inl (aN ((nrF nm fbe fho na cd x.2.2.2.2 (co + costN cd (fho na)) x.1).2)))), (ho, .inl (cA, 8, .inl (aN fho))), (tr, .inl (cA, 8, .inl (aN (va_up x.2.1 na cd)))), (ke, .inl (cA, 8, .inl (aN x.2.2.1))), (ra, .inr (3, [.ref al, .ref be])), (al, .inl (cA, 8, .inl (aN fal))), (be, .inl (cA, 448, .inl (aN fbe)))] H := hP
      have hD : va_D A [(sa, .inr (4, [.ref ra, .ref le, .ref ho, .ref tr, .ref ke, .int (nI nm), .int (nI x.2.2.2.1), .int (nI x.2.2.2.2), .int (nI ef)])), (le, .inl (cA, 72, .inl (aN ((nrF nm fbe fho na cd x.2.2.2.2 (co + costN cd (fho na)) x.1).2)))), (ho, .inl (cA, 8, .inl (aN fho))), (tr, .inl (cA, 8, .inl (aN (va_up x.2.1 na cd)))), (ke, .inl (cA, 8, .inl (aN x.2.2.1))), (ra, .inr (3, [.ref al, .ref be])), (al, .inl (cA, 8, .inl (aN fal))), (be, .inl (cA, 448, .inl (aN fbe)))] := hD
      refine lv_aload_n hx hb dX2_give_55 rfl (lv_at hl 1 rfl) ?_
      refine lv_iload_n hx hb dX2_give_56 rfl (lv_at hl 2 rfl) ?_
      refine lv_iconst (v := nI 1) hx hb dX2_give_57 (by decide) ?_
      refine nn_iadd hx hb dX2_give_58 ?_
      refine lv_iload hx hb dX2_give_59 (lv_at hl 0 rfl) ?_
      refine zz_callV (av := []) (wc := [(sa, .inr (4, [.ref ra, .ref le, .ref ho, .ref tr, .ref ke, .int (nI nm), .int (nI (((nrF nm fbe fho na cd x.2.2.2.2 (co + costN cd (fho na)) x.1).2, va_up x.2.1 na cd, x.2.2).2.2.2.1)), .int (nI (((nrF nm fbe fho na cd x.2.2.2.2 (co + costN cd (fho na)) x.1).2, va_up x.2.1 na cd, x.2.2).2.2.2.2)), .int (nI ef)])), (le, .inl (cA, 72, .inl (aN (((nrF nm fbe fho na cd x.2.2.2.2 (co + costN cd (fho na)) x.1).2, va_up x.2.1 na cd, x.2.2).1)))), (ho, .inl (cA, 8, .inl (aN fho))), (tr, .inl (cA, 8, .inl (aN (((nrF nm fbe fho na cd x.2.2.2.2 (co + costN cd (fho na)) x.1).2, va_up x.2.1 na cd, x.2.2).2.1)))), (ke, .inl (cA, 8, .inl (aN (((nrF nm fbe fho na cd x.2.2.2.2 (co + costN cd (fho na)) x.1).2, va_up x.2.1 na cd, x.2.2).2.2.1)))), (ra, .inr (3, [.ref al, .ref be])), (al, .inl (cA, 8, .inl (aN fal))), (be, .inl (cA, 448, .inl (aN fbe)))]) (wr := []) hS hA hP hD [0, 1, 2, 3, 4, 5, 6, 7] [] rfl rfl (by decide) (by decide) (va_runV (As := [.int (nI (na + 1)), .int (nI (co + (costN cd (fho na))))]) (rest := []) ⟨hx, hb, hml, hown, hts⟩ (ihg H.size (na + 1) (co + costN cd (fho na)) ((nrF nm fbe fho na cd x.2.2.2.2 (co + costN cd (fho na)) x.1).2, va_up x.2.1 na cd, x.2.2) (by omega) (by have := costN_le cd (fho na); omega) ⟨nrF_lt hg.1, hg.2⟩) (cwV 2 hts gX2_give_X2_giveFrom rfl rfl rfl (by decide +kernel) ⟨by show (2 * d + 2) + 1 ≤ 2 * d + 3; omega, by show 8 + (7 + 11) + (51 * d + 30) ≤ 51 * d + 56; omega⟩) ⟨(zPreS (av := [.ref sa, .int (nI (na + 1)), .int (nI (co + (costN cd (fho na))))]) (wc := [(sa, .inr (4, [.ref ra, .ref le, .ref ho, .ref tr, .ref ke, .int (nI nm), .int (nI (((nrF nm fbe fho na cd x.2.2.2.2 (co + costN cd (fho na)) x.1).2, va_up x.2.1 na cd, x.2.2).2.2.2.1)), .int (nI (((nrF nm fbe fho na cd x.2.2.2.2 (co + costN cd (fho na)) x.1).2, va_up x.2.1 na cd, x.2.2).2.2.2.2)), .int (nI ef)])), (le, .inl (cA, 72, .inl (aN (((nrF nm fbe fho na cd x.2.2.2.2 (co + costN cd (fho na)) x.1).2, va_up x.2.1 na cd, x.2.2).1)))), (ho, .inl (cA, 8, .inl (aN fho))), (tr, .inl (cA, 8, .inl (aN (((nrF nm fbe fho na cd x.2.2.2.2 (co + costN cd (fho na)) x.1).2, va_up x.2.1 na cd, x.2.2).2.1)))), (ke, .inl (cA, 8, .inl (aN (((nrF nm fbe fho na cd x.2.2.2.2 (co + costN cd (fho na)) x.1).2, va_up x.2.1 na cd, x.2.2).2.2.1)))), (ra, .inr (3, [.ref al, .ref be])), (al, .inl (cA, 8, .inl (aN fal))), (be, .inl (cA, 448, .inl (aN fbe)))]) hK hP hD [0, 1, 2, 3, 4, 5, 6, 7] rfl (by decide) rfl).1, (va_recv hK.1 hP (ci := 4) (q0 := 0) rfl rfl), (zPreS (av := [.ref sa, .int (nI (na + 1)), .int (nI (co + (costN cd (fho na))))]) (wc := [(sa, .inr (4, [.ref ra, .ref le, .ref ho, .ref tr, .ref ke, .int (nI nm), .int (nI (((nrF nm fbe fho na cd x.2.2.2.2 (co + costN cd (fho na)) x.1).2, va_up x.2.1 na cd, x.2.2).2.2.2.1)), .int (nI (((nrF nm fbe fho na cd x.2.2.2.2 (co + costN cd (fho na)) x.1).2, va_up x.2.1 na cd, x.2.2).2.2.2.2)), .int (nI ef)])), (le, .inl (cA, 72, .inl (aN (((nrF nm fbe fho na cd x.2.2.2.2 (co + costN cd (fho na)) x.1).2, va_up x.2.1 na cd, x.2.2).1)))), (ho, .inl (cA, 8, .inl (aN fho))), (tr, .inl (cA, 8, .inl (aN (((nrF nm fbe fho na cd x.2.2.2.2 (co + costN cd (fho na)) x.1).2, va_up x.2.1 na cd, x.2.2).2.1)))), (ke, .inl (cA, 8, .inl (aN (((nrF nm fbe fho na cd x.2.2.2.2 (co + costN cd (fho na)) x.1).2, va_up x.2.1 na cd, x.2.2).2.2.1)))), (ra, .inr (3, [.ref al, .ref be])), (al, .inl (cA, 8, .inl (aN fal))), (be, .inl (cA, 448, .inl (aN fbe)))]) hK hP hD [0, 1, 2, 3, 4, 5, 6, 7] rfl (by decide) rfl).2⟩ rfl rfl hl.1 rfl (lv_room (Nat.le_of_ble_eq_true rfl)) dX2_give_61 ⟨Nat.zero_le _, Nat.zero_le _⟩) (fun H locs hP hD hS => ?_)
      have hP : va_P D vwCl [(sa, .inr (4, [.ref ra, .ref le, .ref ho, .ref tr, .ref ke, .int (nI nm), .int (nI ((giveFromF nm ef fbe fho d (na + 1) (co + (costN cd (fho na))) ((nrF nm fbe fho na cd x.2.2.2.2 (co + costN cd (fho na)) x.1).2, va_up x.2.1 na cd, x.2.2)).2.2.2.1)), .int (nI ((giveFromF nm ef fbe fho d (na + 1) (co + (costN cd (fho na))) ((nrF nm fbe fho na cd x.2.2.2.2 (co + costN cd (fho na)) x.1).2, va_up x.2.1 na cd, x.2.2)).2.2.2.2)), .int (nI ef)])), (le, .inl (cA, 72, .inl (aN ((giveFromF nm ef fbe fho d (na + 1) (co + (costN cd (fho na))) ((nrF nm fbe fho na cd x.2.2.2.2 (co + costN cd (fho na)) x.1).2, va_up x.2.1 na cd, x.2.2)).1)))), (ho, .inl (cA, 8, .inl (aN fho))), (tr, .inl (cA, 8, .inl (aN ((giveFromF nm ef fbe fho d (na + 1) (co + (costN cd (fho na))) ((nrF nm fbe fho na cd x.2.2.2.2 (co + costN cd (fho na)) x.1).2, va_up x.2.1 na cd, x.2.2)).2.1)))), (ke, .inl (cA, 8, .inl (aN ((giveFromF nm ef fbe fho d (na + 1) (co + (costN cd (fho na))) ((nrF nm fbe fho na cd x.2.2.2.2 (co + costN cd (fho na)) x.1).2, va_up x.2.1 na cd, x.2.2)).2.2.1)))), (ra, .inr (3, [.ref al, .ref be])), (al, .inl (cA, 8, .inl (aN fal))), (be, .inl (cA, 448, .inl (aN fbe)))] H := hP
      have hD : va_D A [(sa, .inr (4, [.ref ra, .ref le, .ref ho, .ref tr, .ref ke, .int (nI nm), .int (nI ((giveFromF nm ef fbe fho d (na + 1) (co + (costN cd (fho na))) ((nrF nm fbe fho na cd x.2.2.2.2 (co + costN cd (fho na)) x.1).2, va_up x.2.1 na cd, x.2.2)).2.2.2.1)), .int (nI ((giveFromF nm ef fbe fho d (na + 1) (co + (costN cd (fho na))) ((nrF nm fbe fho na cd x.2.2.2.2 (co + costN cd (fho na)) x.1).2, va_up x.2.1 na cd, x.2.2)).2.2.2.2)), .int (nI ef)])), (le, .inl (cA, 72, .inl (aN ((giveFromF nm ef fbe fho d (na + 1) (co + (costN cd (fho na))) ((nrF nm fbe fho na cd x.2.2.2.2 (co + costN cd (fho na)) x.1).2, va_up x.2.1 na cd, x.2.2)).1)))), (ho, .inl (cA, 8, .inl (aN fho))), (tr, .inl (cA, 8, .inl (aN ((giveFromF nm ef fbe fho d (na + 1) (co + (costN cd (fho na))) ((nrF nm fbe fho na cd x.2.2.2.2 (co + costN cd (fho na)) x.1).2, va_up x.2.1 na cd, x.2.2)).2.1)))), (ke, .inl (cA, 8, .inl (aN ((giveFromF nm ef fbe fho d (na + 1) (co + (costN cd (fho na))) ((nrF nm fbe fho na cd x.2.2.2.2 (co + costN cd (fho na)) x.1).2, va_up x.2.1 na cd, x.2.2)).2.2.1)))), (ra, .inr (3, [.ref al, .ref be])), (al, .inl (cA, 8, .inl (aN fal))), (be, .inl (cA, 448, .inl (aN fbe)))] := hD
      have eW : ([(sa, .inr (4, [.ref ra, .ref le, .ref ho, .ref tr, .ref ke, .int (nI nm), .int (nI ((giveFromF nm ef fbe fho d (na + 1) (co + (costN cd (fho na))) ((nrF nm fbe fho na cd x.2.2.2.2 (co + costN cd (fho na)) x.1).2, va_up x.2.1 na cd, x.2.2)).2.2.2.1)), .int (nI ((giveFromF nm ef fbe fho d (na + 1) (co + (costN cd (fho na))) ((nrF nm fbe fho na cd x.2.2.2.2 (co + costN cd (fho na)) x.1).2, va_up x.2.1 na cd, x.2.2)).2.2.2.2)), .int (nI ef)])), (le, .inl (cA, 72, .inl (aN ((giveFromF nm ef fbe fho d (na + 1) (co + (costN cd (fho na))) ((nrF nm fbe fho na cd x.2.2.2.2 (co + costN cd (fho na)) x.1).2, va_up x.2.1 na cd, x.2.2)).1)))), (ho, .inl (cA, 8, .inl (aN fho))), (tr, .inl (cA, 8, .inl (aN ((giveFromF nm ef fbe fho d (na + 1) (co + (costN cd (fho na))) ((nrF nm fbe fho na cd x.2.2.2.2 (co + costN cd (fho na)) x.1).2, va_up x.2.1 na cd, x.2.2)).2.1)))), (ke, .inl (cA, 8, .inl (aN ((giveFromF nm ef fbe fho d (na + 1) (co + (costN cd (fho na))) ((nrF nm fbe fho na cd x.2.2.2.2 (co + costN cd (fho na)) x.1).2, va_up x.2.1 na cd, x.2.2)).2.2.1)))), (ra, .inr (3, [.ref al, .ref be])), (al, .inl (cA, 8, .inl (aN fal))), (be, .inl (cA, 448, .inl (aN fbe)))] : va_W) = [(sa, .inr (4, [.ref ra, .ref le, .ref ho, .ref tr, .ref ke, .int (nI nm), .int (nI ((giveStep (giveFromF nm ef fbe fho d) nm fbe fho na cd co bf x).2.2.2.1)), .int (nI ((giveStep (giveFromF nm ef fbe fho d) nm fbe fho na cd co bf x).2.2.2.2)), .int (nI ef)])), (le, .inl (cA, 72, .inl (aN ((giveStep (giveFromF nm ef fbe fho d) nm fbe fho na cd co bf x).1)))), (ho, .inl (cA, 8, .inl (aN fho))), (tr, .inl (cA, 8, .inl (aN ((giveStep (giveFromF nm ef fbe fho d) nm fbe fho na cd co bf x).2.1)))), (ke, .inl (cA, 8, .inl (aN ((giveStep (giveFromF nm ef fbe fho d) nm fbe fho na cd co bf x).2.2.1)))), (ra, .inr (3, [.ref al, .ref be])), (al, .inl (cA, 8, .inl (aN fal))), (be, .inl (cA, 448, .inl (aN fbe)))] := by unfold giveStep; first | (rw [if_neg (show ¬ ((co + costN cd (fho na)) + (nrF nm fbe fho na cd x.2.2.2.2 (co + costN cd (fho na)) x.1).1 < x.2.2.2.2) by omega)]; done) | (rw [if_pos (show (co + costN cd (fho na)) + (nrF nm fbe fho na cd x.2.2.2.2 (co + costN cd (fho na)) x.1).1 < x.2.2.2.2 by omega), if_neg c_45]; done) | (rw [if_pos (show (co + costN cd (fho na)) + (nrF nm fbe fho na cd x.2.2.2.2 (co + costN cd (fho na)) x.1).1 < x.2.2.2.2 by omega), if_pos c_45]; done)
      rw [eW] at hP hD
      exact W.vret hx hb hr (fun t ht hW => ⟨⟨(), rfl, trivial, by rw [ht]; exact hP, hD⟩, hS.F ht⟩) hS.2.2 dX2_give_64

set_option maxHeartbeats 4000000 in
set_option maxRecDepth 100000 in
theorem bX2_gf {p : Program} {l : Launch} {e : Env} {R : Room} {s : State} {m : MethodId} {args : Array Value} {below : List Frame} {meth : Method} {c : Code} {Q : State → Prop} {A : Nat → Prop} {H0 : Heap} {D : va_G} {cA : ClassId} (hx : p.tables.exec = Jvm.exec) (hb : c.code = cX2_giveFrom) (hml : c.maxLocals = 7) (hown : s.vm.findClass RX2 = some m.cls) (hts : ∀ w ∈ wsX2_giveFrom, w.before args s = true) (hK : zK D cA s) (hA : ∀ q, H0.size ≤ q → A q) (sa : Nat) (le : Nat) (ho : Nat) (tr : Nat) (ke : Nat) (ra : Nat) (al : Nat) (be : Nat) (fho : Nat → Nat) (fal : Nat → Nat) (fbe : Nat → Nat) (nm : Nat) (ef : Nat) (hn : nm ≤ 8) (hho : ∀ j, fho j < 32) (he : ef < 2) (d : Nat) (ihg : ∀ (sz na co : Nat) (x : Sg), na + d = nm → co ≤ 17 * na → GInv x → zMv l yX2_giveFrom wsX2_giveFrom ({ frames := 2 * d + 2, cells := 0, slots := 0, locals := 51 * d + 30 }) D cA [.ref sa, .int (nI na), .int (nI co)] sz [(sa, .inr (4, [.ref ra, .ref le, .ref ho, .ref tr, .ref ke, .int (nI nm), .int (nI x.2.2.2.1), .int (nI x.2.2.2.2), .int (nI ef)])), (le, .inl (cA, 72, .inl (aN x.1))), (ho, .inl (cA, 8, .inl (aN fho))), (tr, .inl (cA, 8, .inl (aN x.2.1))), (ke, .inl (cA, 8, .inl (aN x.2.2.1))), (ra, .inr (3, [.ref al, .ref be])), (al, .inl (cA, 8, .inl (aN fal))), (be, .inl (cA, 448, .inl (aN fbe)))] [(sa, .inr (4, [.ref ra, .ref le, .ref ho, .ref tr, .ref ke, .int (nI nm), .int (nI ((giveFromF nm ef fbe fho d na co x).2.2.2.1)), .int (nI ((giveFromF nm ef fbe fho d na co x).2.2.2.2)), .int (nI ef)])), (le, .inl (cA, 72, .inl (aN ((giveFromF nm ef fbe fho d na co x).1)))), (ho, .inl (cA, 8, .inl (aN fho))), (tr, .inl (cA, 8, .inl (aN ((giveFromF nm ef fbe fho d na co x).2.1)))), (ke, .inl (cA, 8, .inl (aN ((giveFromF nm ef fbe fho d na co x).2.2.1)))), (ra, .inr (3, [.ref al, .ref be])), (al, .inl (cA, 8, .inl (aN fal))), (be, .inl (cA, 448, .inl (aN fbe)))]) (na : Nat) (co : Nat) (cs : Nat) (fi : Nat) (hna : na + (d + 1) = nm) (hco : co ≤ 17 * na) (hcs : cs < 128) (hfi : fi < 32) (hRf : 2 * d + 4 ≤ R.frames) (hRl : 51 * d + 81 ≤ R.locals)  : ∀ (k : Nat) (bf : Nat) (x : Sg), (k ≤ 7) → (bf < 128) → (GInv x) → ∀ (H : Heap) (locs : List Loc) (ls : Array Slot), va_P D vwCl [(sa, .inr (4, [.ref ra, .ref le, .ref ho, .ref tr, .ref ke, .int (nI nm), .int (nI x.2.2.2.1), .int (nI x.2.2.2.2), .int (nI ef)])), (le, .inl (cA, 72, .inl (aN x.1))), (ho, .inl (cA, 8, .inl (aN fho))), (tr, .inl (cA, 8, .inl (aN x.2.1))), (ke, .inl (cA, 8, .inl (aN x.2.2.1))), (ra, .inr (3, [.ref al, .ref be])), (al, .inl (cA, 8, .inl (aN fal))), (be, .inl (cA, 448, .inl (aN fbe)))] H → va_D A [(sa, .inr (4, [.ref ra, .ref le, .ref ho, .ref tr, .ref ke, .int (nI nm), .int (nI x.2.2.2.1), .int (nI x.2.2.2.2), .int (nI ef)])), (le, .inl (cA, 72, .inl (aN x.1))), (ho, .inl (cA, 8, .inl (aN fho))), (tr, .inl (cA, 8, .inl (aN x.2.1))), (ke, .inl (cA, 8, .inl (aN x.2.2.1))), (ra, .inr (3, [.ref al, .ref be])), (al, .inl (cA, 8, .inl (aN fal))), (be, .inl (cA, 448, .inl (aN fbe)))] → va_S A H0 H locs → lv_has ls 7 [(0, .ref sa), (1, .int (nI na)), (2, .int (nI co)), (3, .int (nI cs)), (4, .int (nI fi)), (5, .int (nI bf)), (6, .int (mI k))] → (∀ (H : Heap) (locs : List Loc) (ls : Array Slot), va_P D vwCl [(sa, .inr (4, [.ref ra, .ref le, .ref ho, .ref tr, .ref ke, .int (nI nm), .int (nI ((gfLoop (fun cd b9 y => giveStep (giveFromF nm ef fbe fho d) nm fbe fho na cd co b9 y) cs fi k bf x).2.2.2.1)), .int (nI ((gfLoop (fun cd b9 y => giveStep (giveFromF nm ef fbe fho d) nm fbe fho na cd co b9 y) cs fi k bf x).2.2.2.2)), .int (nI ef)])), (le, .inl (cA, 72, .inl (aN ((gfLoop (fun cd b9 y => giveStep (giveFromF nm ef fbe fho d) nm fbe fho na cd co b9 y) cs fi k bf x).1)))), (ho, .inl (cA, 8, .inl (aN fho))), (tr, .inl (cA, 8, .inl (aN ((gfLoop (fun cd b9 y => giveStep (giveFromF nm ef fbe fho d) nm fbe fho na cd co b9 y) cs fi k bf x).2.1)))), (ke, .inl (cA, 8, .inl (aN ((gfLoop (fun cd b9 y => giveStep (giveFromF nm ef fbe fho d) nm fbe fho na cd co b9 y) cs fi k bf x).2.2.1)))), (ra, .inr (3, [.ref al, .ref be])), (al, .inl (cA, 8, .inl (aN fal))), (be, .inl (cA, 448, .inl (aN fbe)))] H → va_D A [(sa, .inr (4, [.ref ra, .ref le, .ref ho, .ref tr, .ref ke, .int (nI nm), .int (nI ((gfLoop (fun cd b9 y => giveStep (giveFromF nm ef fbe fho d) nm fbe fho na cd co b9 y) cs fi k bf x).2.2.2.1)), .int (nI ((gfLoop (fun cd b9 y => giveStep (giveFromF nm ef fbe fho d) nm fbe fho na cd co b9 y) cs fi k bf x).2.2.2.2)), .int (nI ef)])), (le, .inl (cA, 72, .inl (aN ((gfLoop (fun cd b9 y => giveStep (giveFromF nm ef fbe fho d) nm fbe fho na cd co b9 y) cs fi k bf x).1)))), (ho, .inl (cA, 8, .inl (aN fho))), (tr, .inl (cA, 8, .inl (aN ((gfLoop (fun cd b9 y => giveStep (giveFromF nm ef fbe fho d) nm fbe fho na cd co b9 y) cs fi k bf x).2.1)))), (ke, .inl (cA, 8, .inl (aN ((gfLoop (fun cd b9 y => giveStep (giveFromF nm ef fbe fho d) nm fbe fho na cd co b9 y) cs fi k bf x).2.2.1)))), (ra, .inr (3, [.ref al, .ref be])), (al, .inl (cA, 8, .inl (aN fal))), (be, .inl (cA, 448, .inl (aN fbe)))] → va_S A H0 H locs → lv_has ls 7 [(0, .ref sa)] → W p l e R s m args below meth c H locs 0 0 Q (F0 m 112 ls [])) → W p l e R s m args below meth c H locs 0 0 Q (F0 m 66 ls []) := by
  intro k
  induction k with
  | zero =>
    intro bf x hk hbf hg H locs ls hP hD hS hl kk
    refine lv_iload hx hb dX2_giveFrom_66 (lv_at hl 6 rfl) ?_
    refine mz_if_lt (tgt := 112) hx hb dX2_giveFrom_68 (by decide) (by omega) (fun c_68 => ?_) (fun c_68 => ?_)
    · exact kk _ _ _ hP hD hS (lv_sub hl [0] rfl)
    · exfalso; omega
  | succ k ih =>
    intro bf x hk hbf hg H locs ls hP hD hS hl kk
    refine lv_iload hx hb dX2_giveFrom_66 (lv_at hl 6 rfl) ?_
    refine mz_if_lt (tgt := 112) hx hb dX2_giveFrom_68 (by decide) (by omega) (fun c_68 => ?_) (fun c_68 => ?_)
    · exfalso; omega
    · have hl : lv_has ls 7 [(0, .ref sa), (1, .int (nI na)), (2, .int (nI co)), (3, .int (nI cs)), (4, .int (nI fi)), (5, .int (nI bf)), (6, .int (nI k))] := by rw [mI_succ k] at hl; exact hl
      refine lv_iload hx hb dX2_giveFrom_71 (lv_at hl 6 rfl) ?_
      refine lv_iload hx hb dX2_giveFrom_73 (lv_at hl 4 rfl) ?_
      refine nn_icmp_eq (tgt := 106) hx hb dX2_giveFrom_75 (by decide) (by omega) (by omega) (fun c_75 => ?_) (fun c_75 => ?_)
      · refine lv_iinc (v := (mI k)) (lv' := [(6, .int (mI k)), (0, .ref sa), (1, .int (nI na)), (2, .int (nI co)), (3, .int (nI cs)), (4, .int (nI fi)), (5, .int (nI bf))]) hx hb dX2_giveFrom_106 hl (k := 6) rfl (nI_decm k) (by decide) rfl (fun ls hl => ?_)
        refine lv_goto (tgt := 66) hx hb dX2_giveFrom_109 (by decide) ?_
        have eL : gfLoop (fun cd b9 y => giveStep (giveFromF nm ef fbe fho d) nm fbe fho na cd co b9 y) cs fi (k + 1) bf x = gfLoop (fun cd b9 y => giveStep (giveFromF nm ef fbe fho d) nm fbe fho na cd co b9 y) cs fi k bf x := by rw [gfLoop]; first | (rw [if_pos c_75]; done) | (rw [if_neg c_75, if_pos c_84]; done) | (rw [if_neg c_75, if_neg c_84]; done)
        rw [eL] at kk
        exact ih bf x (by omega) hbf hg _ _ _ hP hD hS (lv_sub hl [1, 2, 3, 4, 5, 6, 0] rfl) kk
      · refine lv_iload_n hx hb dX2_giveFrom_78 rfl (lv_at hl 3 rfl) ?_
        refine lv_iload hx hb dX2_giveFrom_79 (lv_at hl 6 rfl) ?_
        refine nn_ishr hx hb (by omega) (by omega) dX2_giveFrom_81 ?_
        refine lv_iconst (v := nI 1) hx hb dX2_giveFrom_82 (by decide) ?_
        refine nn_iand hx hb dX2_giveFrom_83 ?_
        refine nn_if_eq (tgt := 106) hx hb dX2_giveFrom_84 (by decide) (and1_lt _) (fun c_84 => ?_) (fun c_84 => ?_)
        · refine lv_iinc (v := (mI k)) (lv' := [(6, .int (mI k)), (0, .ref sa), (1, .int (nI na)), (2, .int (nI co)), (3, .int (nI cs)), (4, .int (nI fi)), (5, .int (nI bf))]) hx hb dX2_giveFrom_106 hl (k := 6) rfl (nI_decm k) (by decide) rfl (fun ls hl => ?_)
          refine lv_goto (tgt := 66) hx hb dX2_giveFrom_109 (by decide) ?_
          have eL : gfLoop (fun cd b9 y => giveStep (giveFromF nm ef fbe fho d) nm fbe fho na cd co b9 y) cs fi (k + 1) bf x = gfLoop (fun cd b9 y => giveStep (giveFromF nm ef fbe fho d) nm fbe fho na cd co b9 y) cs fi k bf x := by rw [gfLoop]; first | (rw [if_pos c_75]; done) | (rw [if_neg c_75, if_pos c_84]; done) | (rw [if_neg c_75, if_neg c_84]; done)
          rw [eL] at kk
          exact ih bf x (by omega) hbf hg _ _ _ hP hD hS (lv_sub hl [1, 2, 3, 4, 5, 6, 0] rfl) kk
        · refine lv_aload_n hx hb dX2_giveFrom_87 rfl (lv_at hl 0 rfl) ?_
          refine lv_iload_n hx hb dX2_giveFrom_88 rfl (lv_at hl 1 rfl) ?_
          refine lv_iload hx hb dX2_giveFrom_89 (lv_at hl 6 rfl) ?_
          refine lv_iload_n hx hb dX2_giveFrom_91 rfl (lv_at hl 2 rfl) ?_
          refine lv_iload hx hb dX2_giveFrom_92 (lv_at hl 5 rfl) ?_
          refine zz_callV (av := []) (wc := [(sa, .inr (4, [.ref ra, .ref le, .ref ho, .ref tr, .ref ke, .int (nI nm), .int (nI x.2.2.2.1), .int (nI x.2.2.2.2), .int (nI ef)])), (le, .inl (cA, 72, .inl (aN x.1))), (ho, .inl (cA, 8, .inl (aN fho))), (tr, .inl (cA, 8, .inl (aN x.2.1))), (ke, .inl (cA, 8, .inl (aN x.2.2.1))), (ra, .inr (3, [.ref al, .ref be])), (al, .inl (cA, 8, .inl (aN fal))), (be, .inl (cA, 448, .inl (aN fbe)))]) (wr := []) hS hA hP hD [0, 1, 2, 3, 4, 5, 6, 7] [] rfl rfl (by decide) (by decide) (va_runV (As := [.int (nI na), .int (nI k), .int (nI co), .int (nI bf)]) (rest := []) ⟨hx, hb, hml, hown, hts⟩ (kX2_give l D cA H.size sa le ho tr ke ra al be fho fal fbe nm ef d na k co bf x (by omega) hho (by omega) ihg (by omega) (by omega) (by omega) (by omega) hg) (cwV 4 hts gX2_giveFrom_X2_give rfl rfl rfl (by decide +kernel) ⟨Nat.le_trans (by show (2 * d + 3) + 1 ≤ 2 * d + 4; omega) hRf, Nat.le_trans (by show 8 + (6 + 11) + (51 * d + 56) ≤ 51 * d + 81; omega) hRl⟩) ⟨(zPreS (av := [.ref sa, .int (nI na), .int (nI k), .int (nI co), .int (nI bf)]) (wc := [(sa, .inr (4, [.ref ra, .ref le, .ref ho, .ref tr, .ref ke, .int (nI nm), .int (nI x.2.2.2.1), .int (nI x.2.2.2.2), .int (nI ef)])), (le, .inl (cA, 72, .inl (aN x.1))), (ho, .inl (cA, 8, .inl (aN fho))), (tr, .inl (cA, 8, .inl (aN x.2.1))), (ke, .inl (cA, 8, .inl (aN x.2.2.1))), (ra, .inr (3, [.ref al, .ref be])), (al, .inl (cA, 8, .inl (aN fal))), (be, .inl (cA, 448, .inl (aN fbe)))]) hK hP hD [0, 1, 2, 3, 4, 5, 6, 7] rfl (by decide) rfl).1, (va_recv hK.1 hP (ci := 4) (q0 := 0) rfl rfl), (zPreS (av := [.ref sa, .int (nI na), .int (nI k), .int (nI co), .int (nI bf)]) (wc := [(sa, .inr (4, [.ref ra, .ref le, .ref ho, .ref tr, .ref ke, .int (nI nm), .int (nI x.2.2.2.1), .int (nI x.2.2.2.2), .int (nI ef)])), (le, .inl (cA, 72, .inl (aN x.1))), (ho, .inl (cA, 8, .inl (aN fho))), (tr, .inl (cA, 8, .inl (aN x.2.1))), (ke, .inl (cA, 8, .inl (aN x.2.2.1))), (ra, .inr (3, [.ref al, .ref be])), (al, .inl (cA, 8, .inl (aN fal))), (be, .inl (cA, 448, .inl (aN fbe)))]) hK hP hD [0, 1, 2, 3, 4, 5, 6, 7] rfl (by decide) rfl).2⟩ rfl rfl hl.1 rfl (lv_room (Nat.le_of_ble_eq_true rfl)) dX2_giveFrom_94 ⟨Nat.zero_le _, Nat.zero_le _⟩) (fun H locs hP hD hS => ?_)
          have hP : va_P D vwCl [(sa, .inr (4, [.ref ra, .ref le, .ref ho, .ref tr, .ref ke, .int (nI nm), .int (nI ((giveStep (giveFromF nm ef fbe fho d) nm fbe fho na k co bf x).2.2.2.1)), .int (nI ((giveStep (giveFromF nm ef fbe fho d) nm fbe fho na k co bf x).2.2.2.2)), .int (nI ef)])), (le, .inl (cA, 72, .inl (aN ((giveStep (giveFromF nm ef fbe fho d) nm fbe fho na k co bf x).1)))), (ho, .inl (cA, 8, .inl (aN fho))), (tr, .inl (cA, 8, .inl (aN ((giveStep (giveFromF nm ef fbe fho d) nm fbe fho na k co bf x).2.1)))), (ke, .inl (cA, 8, .inl (aN ((giveStep (giveFromF nm ef fbe fho d) nm fbe fho na k co bf x).2.2.1)))), (ra, .inr (3, [.ref al, .ref be])), (al, .inl (cA, 8, .inl (aN fal))), (be, .inl (cA, 448, .inl (aN fbe)))] H := hP
          have hD : va_D A [(sa, .inr (4, [.ref ra, .ref le, .ref ho, .ref tr, .ref ke, .int (nI nm), .int (nI ((giveStep (giveFromF nm ef fbe fho d) nm fbe fho na k co bf x).2.2.2.1)), .int (nI ((giveStep (giveFromF nm ef fbe fho d) nm fbe fho na k co bf x).2.2.2.2)), .int (nI ef)])), (le, .inl (cA, 72, .inl (aN ((giveStep (giveFromF nm ef fbe fho d) nm fbe fho na k co bf x).1)))), (ho, .inl (cA, 8, .inl (aN fho))), (tr, .inl (cA, 8, .inl (aN ((giveStep (giveFromF nm ef fbe fho d) nm fbe fho na k co bf x).2.1)))), (ke, .inl (cA, 8, .inl (aN ((giveStep (giveFromF nm ef fbe fho d) nm fbe fho na k co bf x).2.2.1)))), (ra, .inr (3, [.ref al, .ref be])), (al, .inl (cA, 8, .inl (aN fal))), (be, .inl (cA, 448, .inl (aN fbe)))] := hD
          refine lv_iload hx hb dX2_giveFrom_97 (lv_at hl 5 rfl) ?_
          refine lv_iconst (v := nI 1) hx hb dX2_giveFrom_99 (by decide) ?_
          refine lv_iload hx hb dX2_giveFrom_100 (lv_at hl 6 rfl) ?_
          refine nn_ishl hx hb (by omega) dX2_giveFrom_102 ?_
          refine nn_ior hx hb dX2_giveFrom_103 ?_
          refine lv_istore (lv' := [(5, .int (nI (bf ||| (1 <<< k)))), (0, .ref sa), (1, .int (nI na)), (2, .int (nI co)), (3, .int (nI cs)), (4, .int (nI fi)), (6, .int (nI k))]) hx hb dX2_giveFrom_104 hl (by decide) rfl (fun ls hl => ?_)
          refine lv_iinc (v := (mI k)) (lv' := [(6, .int (mI k)), (5, .int (nI (bf ||| (1 <<< k)))), (0, .ref sa), (1, .int (nI na)), (2, .int (nI co)), (3, .int (nI cs)), (4, .int (nI fi))]) hx hb dX2_giveFrom_106 hl (k := 6) rfl (nI_decm k) (by decide) rfl (fun ls hl => ?_)
          refine lv_goto (tgt := 66) hx hb dX2_giveFrom_109 (by decide) ?_
          have eL : gfLoop (fun cd b9 y => giveStep (giveFromF nm ef fbe fho d) nm fbe fho na cd co b9 y) cs fi (k + 1) bf x = gfLoop (fun cd b9 y => giveStep (giveFromF nm ef fbe fho d) nm fbe fho na cd co b9 y) cs fi k (bf ||| (1 <<< k)) (giveStep (giveFromF nm ef fbe fho d) nm fbe fho na k co bf x) := by rw [gfLoop]; first | (rw [if_pos c_75]; done) | (rw [if_neg c_75, if_pos c_84]; done) | (rw [if_neg c_75, if_neg c_84]; done)
          rw [eL] at kk
          exact ih (bf ||| (1 <<< k)) (giveStep (giveFromF nm ef fbe fho d) nm fbe fho na k co bf x) (by omega) (or_lt128 hbf (by omega)) (giveStep_inv (fun co' z h1 h2 => giveFromF_inv d _ _ _ h1 (by omega) h2) hco hg) _ _ _ hP hD hS (lv_sub hl [2, 3, 4, 5, 6, 1, 0] rfl) kk

theorem lkX2_giveFrom_24 : Cond.fieldLink RX2 24 "LeastChange$Search" "names" "I" ∈ wsX2_giveFrom := by decide +kernel
theorem inX2_giveFrom_X2 : ∀ w ∈ wsX20, w ∈ wsX2_giveFrom := by decide +kernel
theorem lkX2_giveFrom_11 : Cond.fieldLink RX2 11 "LeastChange$Search" "left" "[I" ∈ wsX2_giveFrom := by decide +kernel
theorem lkX2_giveFrom_15 : Cond.fieldLink RX2 15 "LeastChange$Search" "home" "[I" ∈ wsX2_giveFrom := by decide +kernel
set_option maxHeartbeats 4000000 in
set_option maxRecDepth 100000 in
theorem kX2_gf (l : Launch) (D : va_G) (cA : ClassId) (sa : Nat) (le : Nat) (ho : Nat) (tr : Nat) (ke : Nat) (ra : Nat) (al : Nat) (be : Nat) (fho : Nat → Nat) (fal : Nat → Nat) (fbe : Nat → Nat) (nm : Nat) (ef : Nat) (hn : nm ≤ 8) (hho : ∀ j, fho j < 32) (he : ef < 2) : ∀ (d : Nat), ∀ (sz na co : Nat) (x : Sg), na + d = nm → co ≤ 17 * na → GInv x → zMv l yX2_giveFrom wsX2_giveFrom ({ frames := 2 * d + 2, cells := 0, slots := 0, locals := 51 * d + 30 }) D cA [.ref sa, .int (nI na), .int (nI co)] sz [(sa, .inr (4, [.ref ra, .ref le, .ref ho, .ref tr, .ref ke, .int (nI nm), .int (nI x.2.2.2.1), .int (nI x.2.2.2.2), .int (nI ef)])), (le, .inl (cA, 72, .inl (aN x.1))), (ho, .inl (cA, 8, .inl (aN fho))), (tr, .inl (cA, 8, .inl (aN x.2.1))), (ke, .inl (cA, 8, .inl (aN x.2.2.1))), (ra, .inr (3, [.ref al, .ref be])), (al, .inl (cA, 8, .inl (aN fal))), (be, .inl (cA, 448, .inl (aN fbe)))] [(sa, .inr (4, [.ref ra, .ref le, .ref ho, .ref tr, .ref ke, .int (nI nm), .int (nI ((giveFromF nm ef fbe fho d na co x).2.2.2.1)), .int (nI ((giveFromF nm ef fbe fho d na co x).2.2.2.2)), .int (nI ef)])), (le, .inl (cA, 72, .inl (aN ((giveFromF nm ef fbe fho d na co x).1)))), (ho, .inl (cA, 8, .inl (aN fho))), (tr, .inl (cA, 8, .inl (aN ((giveFromF nm ef fbe fho d na co x).2.1)))), (ke, .inl (cA, 8, .inl (aN ((giveFromF nm ef fbe fho d na co x).2.2.1)))), (ra, .inr (3, [.ref al, .ref be])), (al, .inl (cA, 8, .inl (aN fal))), (be, .inl (cA, 448, .inl (aN fbe)))] := by
  intro d
  induction d with
  | zero =>
    intro sz na co x hna hco hg
    refine Met.ofW (cc := cX2_giveFrom) (maxL := 7) (ret := none) (by decide) rfl ?_
    intro p e s m args below meth c s₁ B hml hv
    obtain ⟨rfl, hsz, hP, hK, hD0⟩ := hv
    have hx := B.exec
    have hb := B.bytes
    have hr := B.returns
    have hts := atoms_spec (ws := wsX2_giveFrom) B.pre
    have hown : s.vm.findClass RX2 = some m.cls := findClass_of_methodNamed B.named
    have hlocks := B.notSynchronized
    subst hsz
    have hD := hD0.self (sz := s.heap.size)
    generalize hAe : va_A [(sa, .inr (4, [.ref ra, .ref le, .ref ho, .ref tr, .ref ke, .int (nI nm), .int (nI x.2.2.2.1), .int (nI x.2.2.2.2), .int (nI ef)])), (le, .inl (cA, 72, .inl (aN x.1))), (ho, .inl (cA, 8, .inl (aN fho))), (tr, .inl (cA, 8, .inl (aN x.2.1))), (ke, .inl (cA, 8, .inl (aN x.2.2.1))), (ra, .inr (3, [.ref al, .ref be])), (al, .inl (cA, 8, .inl (aN fal))), (be, .inl (cA, 448, .inl (aN fbe)))] s.heap.size = A at hD ⊢
    have hA : ∀ q : Nat, s.heap.size ≤ q → A q := fun q h => by rw [← hAe]; exact Or.inr h
    have hS : va_S A s.heap s.heap [] := va_S.rf
    have hP : va_P D vwCl [(sa, .inr (4, [.ref ra, .ref le, .ref ho, .ref tr, .ref ke, .int (nI nm), .int (nI x.2.2.2.1), .int (nI x.2.2.2.2), .int (nI ef)])), (le, .inl (cA, 72, .inl (aN x.1))), (ho, .inl (cA, 8, .inl (aN fho))), (tr, .inl (cA, 8, .inl (aN x.2.1))), (ke, .inl (cA, 8, .inl (aN x.2.2.1))), (ra, .inr (3, [.ref al, .ref be])), (al, .inl (cA, 8, .inl (aN fal))), (be, .inl (cA, 448, .inl (aN fbe)))] s.heap := hP
    have hl := lv_entry ([.ref sa, .int (nI na), .int (nI co)]) (n := 7) (Nat.le_of_ble_eq_true rfl)
    rw [lg_entry_eq]
    generalize (lg_sl ([.ref sa, .int (nI na), .int (nI co)]) ++ List.replicate (7 - (lg_sl ([.ref sa, .int (nI na), .int (nI co)])).length) Slot.unset).toArray = ls at hl ⊢
    have hl : lv_has ls 7 [(0, .ref sa), (1, .int (nI na)), (2, .int (nI co))] := hl
    refine lv_iload_n hx hb dX2_giveFrom_0 rfl (lv_at hl 1 rfl) ?_
    refine lv_aload_n hx hb dX2_giveFrom_1 rfl (lv_at hl 0 rfl) ?_
    refine va_get (D := D) (ci := 4) (v := .int (nI nm)) (C := RX2) (T := TX2) (N := 9) hx hb hts inX2_giveFrom_X2 hown hK.1 hP 0 rfl rfl 5 (by decide) (hts _ lkX2_giveFrom_24) (fun _ h9 => h9) rfl dX2_giveFrom_2 ?_
    refine nn_icmp_lt (tgt := 14) hx hb dX2_giveFrom_5 (by decide) (by omega) (by omega) (fun c_5 => ?_) (fun c_5 => ?_)
    · exfalso; omega
    · refine lv_aload_n hx hb dX2_giveFrom_8 rfl (lv_at hl 0 rfl) ?_
      refine lv_iload_n hx hb dX2_giveFrom_9 rfl (lv_at hl 2 rfl) ?_
      refine zz_callV (av := []) (wc := [(sa, .inr (4, [.ref ra, .ref le, .ref ho, .ref tr, .ref ke, .int (nI nm), .int (nI x.2.2.2.1), .int (nI x.2.2.2.2), .int (nI ef)])), (tr, .inl (cA, 8, .inl (aN x.2.1))), (ke, .inl (cA, 8, .inl (aN x.2.2.1)))]) (wr := [(le, .inl (cA, 72, .inl (aN x.1))), (ho, .inl (cA, 8, .inl (aN fho))), (ra, .inr (3, [.ref al, .ref be])), (al, .inl (cA, 8, .inl (aN fal))), (be, .inl (cA, 448, .inl (aN fbe)))]) hS hA hP hD [0, 3, 4] [1, 2, 5, 6, 7] rfl rfl (by decide) (by decide) (va_runV (As := [.int (nI co)]) (rest := []) ⟨hx, hb, hml, hown, hts⟩ (kX2_keep l D cA s.heap.size sa le ho tr ke ra x.2.1 x.2.2.1 nm x.2.2.2.1 x.2.2.2.2 ef co hn he) (cwV 1 hts gX2_giveFrom_X2_keep rfl rfl rfl (by decide +kernel) ⟨Nat.le_of_ble_eq_true rfl, Nat.le_of_ble_eq_true rfl⟩) ⟨(zPreS (av := [.ref sa, .int (nI co)]) (wc := [(sa, .inr (4, [.ref ra, .ref le, .ref ho, .ref tr, .ref ke, .int (nI nm), .int (nI x.2.2.2.1), .int (nI x.2.2.2.2), .int (nI ef)])), (tr, .inl (cA, 8, .inl (aN x.2.1))), (ke, .inl (cA, 8, .inl (aN x.2.2.1)))]) hK hP hD [0, 3, 4] rfl (by decide) rfl).1, (va_recv hK.1 hP (ci := 4) (q0 := 0) rfl rfl), (zPreS (av := [.ref sa, .int (nI co)]) (wc := [(sa, .inr (4, [.ref ra, .ref le, .ref ho, .ref tr, .ref ke, .int (nI nm), .int (nI x.2.2.2.1), .int (nI x.2.2.2.2), .int (nI ef)])), (tr, .inl (cA, 8, .inl (aN x.2.1))), (ke, .inl (cA, 8, .inl (aN x.2.2.1)))]) hK hP hD [0, 3, 4] rfl (by decide) rfl).2⟩ rfl rfl hl.1 rfl (lv_room (Nat.le_of_ble_eq_true rfl)) dX2_giveFrom_10 ⟨Nat.zero_le _, Nat.zero_le _⟩) (fun H locs hP hD hS => ?_)
      have hP : va_P D vwCl [(le, .inl (cA, 72, .inl (aN x.1))), (ho, .inl (cA, 8, .inl (aN fho))), (ra, .inr (3, [.ref al, .ref be])), (al, .inl (cA, 8, .inl (aN fal))), (be, .inl (cA, 448, .inl (aN fbe))), (sa, .inr (4, [.ref ra, .ref le, .ref ho, .ref tr, .ref ke, .int (nI nm), .int (nI co), .int (nI (if ef = 0 then co else 0)), .int (nI ef)])), (tr, .inl (cA, 8, .inl (aN x.2.1))), (ke, .inl (cA, 8, .inl (aN (zlp (kpBody x.2.1) nm 0 x.2.2.1))))] H := hP
      have hD : va_D A [(le, .inl (cA, 72, .inl (aN x.1))), (ho, .inl (cA, 8, .inl (aN fho))), (ra, .inr (3, [.ref al, .ref be])), (al, .inl (cA, 8, .inl (aN fal))), (be, .inl (cA, 448, .inl (aN fbe))), (sa, .inr (4, [.ref ra, .ref le, .ref ho, .ref tr, .ref ke, .int (nI nm), .int (nI co), .int (nI (if ef = 0 then co else 0)), .int (nI ef)])), (tr, .inl (cA, 8, .inl (aN x.2.1))), (ke, .inl (cA, 8, .inl (aN (zlp (kpBody x.2.1) nm 0 x.2.2.1))))] := hD
      have hP : va_P D vwCl [(sa, .inr (4, [.ref ra, .ref le, .ref ho, .ref tr, .ref ke, .int (nI nm), .int (nI co), .int (nI (if ef = 0 then co else 0)), .int (nI ef)])), (le, .inl (cA, 72, .inl (aN x.1))), (ho, .inl (cA, 8, .inl (aN fho))), (tr, .inl (cA, 8, .inl (aN x.2.1))), (ke, .inl (cA, 8, .inl (aN (zlp (kpBody x.2.1) nm 0 x.2.2.1)))), (ra, .inr (3, [.ref al, .ref be])), (al, .inl (cA, 8, .inl (aN fal))), (be, .inl (cA, 448, .inl (aN fbe)))] H := hP.sub [5, 0, 1, 6, 7, 2, 3, 4] rfl
      have hD : va_D A [(sa, .inr (4, [.ref ra, .ref le, .ref ho, .ref tr, .ref ke, .int (nI nm), .int (nI co), .int (nI (if ef = 0 then co else 0)), .int (nI ef)])), (le, .inl (cA, 72, .inl (aN x.1))), (ho, .inl (cA, 8, .inl (aN fho))), (tr, .inl (cA, 8, .inl (aN x.2.1))), (ke, .inl (cA, 8, .inl (aN (zlp (kpBody x.2.1) nm 0 x.2.2.1)))), (ra, .inr (3, [.ref al, .ref be])), (al, .inl (cA, 8, .inl (aN fal))), (be, .inl (cA, 448, .inl (aN fbe)))] := hD.sub [5, 0, 1, 6, 7, 2, 3, 4] (by decide) rfl
      have eW : ([(sa, .inr (4, [.ref ra, .ref le, .ref ho, .ref tr, .ref ke, .int (nI nm), .int (nI co), .int (nI (if ef = 0 then co else 0)), .int (nI ef)])), (le, .inl (cA, 72, .inl (aN x.1))), (ho, .inl (cA, 8, .inl (aN fho))), (tr, .inl (cA, 8, .inl (aN x.2.1))), (ke, .inl (cA, 8, .inl (aN (zlp (kpBody x.2.1) nm 0 x.2.2.1)))), (ra, .inr (3, [.ref al, .ref be])), (al, .inl (cA, 8, .inl (aN fal))), (be, .inl (cA, 448, .inl (aN fbe)))] : va_W) = [(sa, .inr (4, [.ref ra, .ref le, .ref ho, .ref tr, .ref ke, .int (nI nm), .int (nI ((giveFromF nm ef fbe fho 0 na co x).2.2.2.1)), .int (nI ((giveFromF nm ef fbe fho 0 na co x).2.2.2.2)), .int (nI ef)])), (le, .inl (cA, 72, .inl (aN ((giveFromF nm ef fbe fho 0 na co x).1)))), (ho, .inl (cA, 8, .inl (aN fho))), (tr, .inl (cA, 8, .inl (aN ((giveFromF nm ef fbe fho 0 na co x).2.1)))), (ke, .inl (cA, 8, .inl (aN ((giveFromF nm ef fbe fho 0 na co x).2.2.1)))), (ra, .inr (3, [.ref al, .ref be])), (al, .inl (cA, 8, .inl (aN fal))), (be, .inl (cA, 448, .inl (aN fbe)))] := by rfl
      rw [eW] at hP hD
      exact W.vret hx hb hr (fun t ht hW => ⟨⟨(), rfl, trivial, by rw [ht]; exact hP, hD⟩, hS.F ht⟩) hS.2.2 dX2_giveFrom_13
  | succ d ihg =>
    intro sz na co x hna hco hg
    refine Met.ofW (cc := cX2_giveFrom) (maxL := 7) (ret := none) (by decide) rfl ?_
    intro p e s m args below meth c s₁ B hml hv
    obtain ⟨rfl, hsz, hP, hK, hD0⟩ := hv
    have hx := B.exec
    have hb := B.bytes
    have hr := B.returns
    have hts := atoms_spec (ws := wsX2_giveFrom) B.pre
    have hown : s.vm.findClass RX2 = some m.cls := findClass_of_methodNamed B.named
    have hlocks := B.notSynchronized
    subst hsz
    have hD := hD0.self (sz := s.heap.size)
    generalize hAe : va_A [(sa, .inr (4, [.ref ra, .ref le, .ref ho, .ref tr, .ref ke, .int (nI nm), .int (nI x.2.2.2.1), .int (nI x.2.2.2.2), .int (nI ef)])), (le, .inl (cA, 72, .inl (aN x.1))), (ho, .inl (cA, 8, .inl (aN fho))), (tr, .inl (cA, 8, .inl (aN x.2.1))), (ke, .inl (cA, 8, .inl (aN x.2.2.1))), (ra, .inr (3, [.ref al, .ref be])), (al, .inl (cA, 8, .inl (aN fal))), (be, .inl (cA, 448, .inl (aN fbe)))] s.heap.size = A at hD ⊢
    have hA : ∀ q : Nat, s.heap.size ≤ q → A q := fun q h => by rw [← hAe]; exact Or.inr h
    have hS : va_S A s.heap s.heap [] := va_S.rf
    have hP : va_P D vwCl [(sa, .inr (4, [.ref ra, .ref le, .ref ho, .ref tr, .ref ke, .int (nI nm), .int (nI x.2.2.2.1), .int (nI x.2.2.2.2), .int (nI ef)])), (le, .inl (cA, 72, .inl (aN x.1))), (ho, .inl (cA, 8, .inl (aN fho))), (tr, .inl (cA, 8, .inl (aN x.2.1))), (ke, .inl (cA, 8, .inl (aN x.2.2.1))), (ra, .inr (3, [.ref al, .ref be])), (al, .inl (cA, 8, .inl (aN fal))), (be, .inl (cA, 448, .inl (aN fbe)))] s.heap := hP
    have hl := lv_entry ([.ref sa, .int (nI na), .int (nI co)]) (n := 7) (Nat.le_of_ble_eq_true rfl)
    rw [lg_entry_eq]
    generalize (lg_sl ([.ref sa, .int (nI na), .int (nI co)]) ++ List.replicate (7 - (lg_sl ([.ref sa, .int (nI na), .int (nI co)])).length) Slot.unset).toArray = ls at hl ⊢
    have hl : lv_has ls 7 [(0, .ref sa), (1, .int (nI na)), (2, .int (nI co))] := hl
    refine lv_iload_n hx hb dX2_giveFrom_0 rfl (lv_at hl 1 rfl) ?_
    refine lv_aload_n hx hb dX2_giveFrom_1 rfl (lv_at hl 0 rfl) ?_
    refine va_get (D := D) (ci := 4) (v := .int (nI nm)) (C := RX2) (T := TX2) (N := 9) hx hb hts inX2_giveFrom_X2 hown hK.1 hP 0 rfl rfl 5 (by decide) (hts _ lkX2_giveFrom_24) (fun _ h9 => h9) rfl dX2_giveFrom_2 ?_
    refine nn_icmp_lt (tgt := 14) hx hb dX2_giveFrom_5 (by decide) (by omega) (by omega) (fun c_5 => ?_) (fun c_5 => ?_)
    · refine lv_aload_n hx hb dX2_giveFrom_14 rfl (lv_at hl 0 rfl) ?_
      refine va_get (D := D) (ci := 4) (v := .ref le) (C := RX2) (T := TX2) (N := 9) hx hb hts inX2_giveFrom_X2 hown hK.1 hP 0 rfl rfl 1 (by decide) (hts _ lkX2_giveFrom_11) (fun _ h9 => h9) rfl dX2_giveFrom_15 ?_
      refine lv_iload_n hx hb dX2_giveFrom_18 rfl (lv_at hl 1 rfl) ?_
      refine lv_bipush (v := nI 8) hx hb dX2_giveFrom_19 (by decide) ?_
      refine nn_imul hx hb dX2_giveFrom_21 ?_
      refine lv_iload_n hx hb dX2_giveFrom_22 rfl (lv_at hl 1 rfl) ?_
      refine nn_iadd hx hb dX2_giveFrom_23 ?_
      refine nn_ald hx hb hK hP 1 rfl (by omega) (by decide) dX2_giveFrom_24 ?_
      refine lv_istore_n (lv' := [(3, .int (nI (x.1 ((na * 8) + na)))), (0, .ref sa), (1, .int (nI na)), (2, .int (nI co))]) hx hb dX2_giveFrom_25 rfl hl (by decide) rfl (fun ls hl => ?_)
      refine lv_aload_n hx hb dX2_giveFrom_26 rfl (lv_at hl 1 rfl) ?_
      refine va_get (D := D) (ci := 4) (v := .ref ho) (C := RX2) (T := TX2) (N := 9) hx hb hts inX2_giveFrom_X2 hown hK.1 hP 0 rfl rfl 2 (by decide) (hts _ lkX2_giveFrom_15) (fun _ h9 => h9) rfl dX2_giveFrom_27 ?_
      refine lv_iload_n hx hb dX2_giveFrom_30 rfl (lv_at hl 2 rfl) ?_
      refine nn_ald hx hb hK hP 2 rfl (by omega) (by decide) dX2_giveFrom_31 ?_
      refine lv_istore (lv' := [(4, .int (nI (fho na))), (3, .int (nI (x.1 ((na * 8) + na)))), (0, .ref sa), (1, .int (nI na)), (2, .int (nI co))]) hx hb dX2_giveFrom_32 hl (by decide) rfl (fun ls hl => ?_)
      refine lv_iconst (v := nI 0) hx hb dX2_giveFrom_34 (by decide) ?_
      refine lv_istore (lv' := [(5, .int (nI 0)), (4, .int (nI (fho na))), (3, .int (nI (x.1 ((na * 8) + na)))), (0, .ref sa), (1, .int (nI na)), (2, .int (nI co))]) hx hb dX2_giveFrom_35 hl (by decide) rfl (fun ls hl => ?_)
      refine lv_iload_n hx hb dX2_giveFrom_37 rfl (lv_at hl 2 rfl) ?_
      refine lv_iload hx hb dX2_giveFrom_38 (lv_at hl 1 rfl) ?_
      refine nn_ishr hx hb (Nat.lt_trans (hg.1 _) (by decide)) (hho _) dX2_giveFrom_40 ?_
      refine lv_iconst (v := nI 1) hx hb dX2_giveFrom_41 (by decide) ?_
      refine nn_iand hx hb dX2_giveFrom_42 ?_
      refine nn_if_eq (tgt := 62) hx hb dX2_giveFrom_43 (by decide) (and1_lt _) (fun c_43 => ?_) (fun c_43 => ?_)
      · refine lv_bipush (v := nI 6) hx hb dX2_giveFrom_62 (by decide) ?_
        refine lv_istore (lv' := [(6, .int (nI 6)), (5, .int (nI 0)), (4, .int (nI (fho na))), (3, .int (nI (x.1 ((na * 8) + na)))), (0, .ref sa), (1, .int (nI na)), (2, .int (nI co))]) hx hb dX2_giveFrom_64 hl (by decide) rfl (fun ls hl => ?_)
        have hl : lv_has ls 7 [(6, .int (mI 7)), (5, .int (nI 0)), (4, .int (nI (fho na))), (3, .int (nI (x.1 ((na * 8) + na)))), (0, .ref sa), (1, .int (nI na)), (2, .int (nI co))] := by rw [mI_succ 6]; exact hl
        refine bX2_gf hx hb hml hown hts hK hA sa le ho tr ke ra al be fho fal fbe nm ef hn hho he d ihg na co (x.1 (na * 8 + na)) (fho na) hna hco (hg.1 _) (hho _) (by show 2 * d + 4 ≤ 2 * (d + 1) + 2; omega) (by show 51 * d + 81 ≤ 51 * (d + 1) + 30; omega) 7 0 x (by omega) (by decide) hg _ _ ls hP hD hS (lv_sub hl [4, 5, 6, 3, 2, 1, 0] rfl) (fun H locs ls hP hD hS hl => ?_)
        have eW : ([(sa, .inr (4, [.ref ra, .ref le, .ref ho, .ref tr, .ref ke, .int (nI nm), .int (nI ((gfLoop (fun cd b9 y => giveStep (giveFromF nm ef fbe fho d) nm fbe fho na cd co b9 y) (x.1 (na * 8 + na)) (fho na) 7 0 x).2.2.2.1)), .int (nI ((gfLoop (fun cd b9 y => giveStep (giveFromF nm ef fbe fho d) nm fbe fho na cd co b9 y) (x.1 (na * 8 + na)) (fho na) 7 0 x).2.2.2.2)), .int (nI ef)])), (le, .inl (cA, 72, .inl (aN ((gfLoop (fun cd b9 y => giveStep (giveFromF nm ef fbe fho d) nm fbe fho na cd co b9 y) (x.1 (na * 8 + na)) (fho na) 7 0 x).1)))), (ho, .inl (cA, 8, .inl (aN fho))), (tr, .inl (cA, 8, .inl (aN ((gfLoop (fun cd b9 y => giveStep (giveFromF nm ef fbe fho d) nm fbe fho na cd co b9 y) (x.1 (na * 8 + na)) (fho na) 7 0 x).2.1)))), (ke, .inl (cA, 8, .inl (aN ((gfLoop (fun cd b9 y => giveStep (giveFromF nm ef fbe fho d) nm fbe fho na cd co b9 y) (x.1 (na * 8 + na)) (fho na) 7 0 x).2.2.1)))), (ra, .inr (3, [.ref al, .ref be])), (al, .inl (cA, 8, .inl (aN fal))), (be, .inl (cA, 448, .inl (aN fbe)))] : va_W) = [(sa, .inr (4, [.ref ra, .ref le, .ref ho, .ref tr, .ref ke, .int (nI nm), .int (nI ((giveFromF nm ef fbe fho (d + 1) na co x).2.2.2.1)), .int (nI ((giveFromF nm ef fbe fho (d + 1) na co x).2.2.2.2)), .int (nI ef)])), (le, .inl (cA, 72, .inl (aN ((giveFromF nm ef fbe fho (d + 1) na co x).1)))), (ho, .inl (cA, 8, .inl (aN fho))), (tr, .inl (cA, 8, .inl (aN ((giveFromF nm ef fbe fho (d + 1) na co x).2.1)))), (ke, .inl (cA, 8, .inl (aN ((giveFromF nm ef fbe fho (d + 1) na co x).2.2.1)))), (ra, .inr (3, [.ref al, .ref be])), (al, .inl (cA, 8, .inl (aN fal))), (be, .inl (cA, 448, .inl (aN fbe)))] := by rw [giveFromF]; first | (rw [if_pos c_43]; done) | (rw [if_neg c_43]; done)
        rw [eW] at hP hD
        exact W.vret hx hb hr (fun t ht hW => ⟨⟨(), rfl, trivial, by rw [ht]; exact hP, hD⟩, hS.F ht⟩) hS.2.2 dX2_giveFrom_112
      · refine lv_aload_n hx hb dX2_giveFrom_46 rfl (lv_at hl 3 rfl) ?_
        refine lv_iload_n hx hb dX2_giveFrom_47 rfl (lv_at hl 4 rfl) ?_
        refine lv_iload hx hb dX2_giveFrom_48 (lv_at hl 1 rfl) ?_
        refine lv_iload_n hx hb dX2_giveFrom_50 rfl (lv_at hl 5 rfl) ?_
        refine lv_iload hx hb dX2_giveFrom_51 (lv_at hl 0 rfl) ?_
        refine zz_callV (av := []) (wc := [(sa, .inr (4, [.ref ra, .ref le, .ref ho, .ref tr, .ref ke, .int (nI nm), .int (nI x.2.2.2.1), .int (nI x.2.2.2.2), .int (nI ef)])), (le, .inl (cA, 72, .inl (aN x.1))), (ho, .inl (cA, 8, .inl (aN fho))), (tr, .inl (cA, 8, .inl (aN x.2.1))), (ke, .inl (cA, 8, .inl (aN x.2.2.1))), (ra, .inr (3, [.ref al, .ref be])), (al, .inl (cA, 8, .inl (aN fal))), (be, .inl (cA, 448, .inl (aN fbe)))]) (wr := []) hS hA hP hD [0, 1, 2, 3, 4, 5, 6, 7] [] rfl rfl (by decide) (by decide) (va_runV (As := [.int (nI na), .int (nI (fho na)), .int (nI co), .int (nI 0)]) (rest := []) ⟨hx, hb, hml, hown, hts⟩ (kX2_give l D cA s.heap.size sa le ho tr ke ra al be fho fal fbe nm ef d na (fho na) co 0 x (by omega) hho (by omega) ihg (by omega) (bit_lt7 (hg.1 _) c_43) (by omega) (by omega) hg) (cwV 4 hts gX2_giveFrom_X2_give rfl rfl rfl (by decide +kernel) ⟨by show (2 * d + 3) + 1 ≤ 2 * (d + 1) + 2; omega, by show 8 + (6 + 11) + (51 * d + 56) ≤ 51 * (d + 1) + 30; omega⟩) ⟨(zPreS (av := [.ref sa, .int (nI na), .int (nI (fho na)), .int (nI co), .int (nI 0)]) (wc := [(sa, .inr (4, [.ref ra, .ref le, .ref ho, .ref tr, .ref ke, .int (nI nm), .int (nI x.2.2.2.1), .int (nI x.2.2.2.2), .int (nI ef)])), (le, .inl (cA, 72, .inl (aN x.1))), (ho, .inl (cA, 8, .inl (aN fho))), (tr, .inl (cA, 8, .inl (aN x.2.1))), (ke, .inl (cA, 8, .inl (aN x.2.2.1))), (ra, .inr (3, [.ref al, .ref be])), (al, .inl (cA, 8, .inl (aN fal))), (be, .inl (cA, 448, .inl (aN fbe)))]) hK hP hD [0, 1, 2, 3, 4, 5, 6, 7] rfl (by decide) rfl).1, (va_recv hK.1 hP (ci := 4) (q0 := 0) rfl rfl), (zPreS (av := [.ref sa, .int (nI na), .int (nI (fho na)), .int (nI co), .int (nI 0)]) (wc := [(sa, .inr (4, [.ref ra, .ref le, .ref ho, .ref tr, .ref ke, .int (nI nm), .int (nI x.2.2.2.1), .int (nI x.2.2.2.2), .int (nI ef)])), (le, .inl (cA, 72, .inl (aN x.1))), (ho, .inl (cA, 8, .inl (aN fho))), (tr, .inl (cA, 8, .inl (aN x.2.1))), (ke, .inl (cA, 8, .inl (aN x.2.2.1))), (ra, .inr (3, [.ref al, .ref be])), (al, .inl (cA, 8, .inl (aN fal))), (be, .inl (cA, 448, .inl (aN fbe)))]) hK hP hD [0, 1, 2, 3, 4, 5, 6, 7] rfl (by decide) rfl).2⟩ rfl rfl hl.1 rfl (lv_room (Nat.le_of_ble_eq_true rfl)) dX2_giveFrom_53 ⟨Nat.zero_le _, Nat.zero_le _⟩) (fun H locs hP hD hS => ?_)
        have hP : va_P D vwCl [(sa, .inr (4, [.ref ra, .ref le, .ref ho, .ref tr, .ref ke, .int (nI nm), .int (nI ((giveStep (giveFromF nm ef fbe fho d) nm fbe fho na (fho na) co 0 x).2.2.2.1)), .int (nI ((giveStep (giveFromF nm ef fbe fho d) nm fbe fho na (fho na) co 0 x).2.2.2.2)), .int (nI ef)])), (le, .inl (cA, 72, .inl (aN ((giveStep (giveFromF nm ef fbe fho d) nm fbe fho na (fho na) co 0 x).1)))), (ho, .inl (cA, 8, .inl (aN fho))), (tr, .inl (cA, 8, .inl (aN ((giveStep (giveFromF nm ef fbe fho d) nm fbe fho na (fho na) co 0 x).2.1)))), (ke, .inl (cA, 8, .inl (aN ((giveStep (giveFromF nm ef fbe fho d) nm fbe fho na (fho na) co 0 x).2.2.1)))), (ra, .inr (3, [.ref al, .ref be])), (al, .inl (cA, 8, .inl (aN fal))), (be, .inl (cA, 448, .inl (aN fbe)))] H := hP
        have hD : va_D A [(sa, .inr (4, [.ref ra, .ref le, .ref ho, .ref tr, .ref ke, .int (nI nm), .int (nI ((giveStep (giveFromF nm ef fbe fho d) nm fbe fho na (fho na) co 0 x).2.2.2.1)), .int (nI ((giveStep (giveFromF nm ef fbe fho d) nm fbe fho na (fho na) co 0 x).2.2.2.2)), .int (nI ef)])), (le, .inl (cA, 72, .inl (aN ((giveStep (giveFromF nm ef fbe fho d) nm fbe fho na (fho na) co 0 x).1)))), (ho, .inl (cA, 8, .inl (aN fho))), (tr, .inl (cA, 8, .inl (aN ((giveStep (giveFromF nm ef fbe fho d) nm fbe fho na (fho na) co 0 x).2.1)))), (ke, .inl (cA, 8, .inl (aN ((giveStep (giveFromF nm ef fbe fho d) nm fbe fho na (fho na) co 0 x).2.2.1)))), (ra, .inr (3, [.ref al, .ref be])), (al, .inl (cA, 8, .inl (aN fal))), (be, .inl (cA, 448, .inl (aN fbe)))] := hD
        refine lv_iconst (v := nI 1) hx hb dX2_giveFrom_56 (by decide) ?_
        refine lv_iload hx hb dX2_giveFrom_57 (lv_at hl 1 rfl) ?_
        refine nn_ishl hx hb (hho _) dX2_giveFrom_59 ?_
        refine lv_istore (lv' := [(5, .int (nI (1 <<< (fho na)))), (4, .int (nI (fho na))), (3, .int (nI (x.1 ((na * 8) + na)))), (0, .ref sa), (1, .int (nI na)), (2, .int (nI co))]) hx hb dX2_giveFrom_60 hl (by decide) rfl (fun ls hl => ?_)
        refine lv_bipush (v := nI 6) hx hb dX2_giveFrom_62 (by decide) ?_
        refine lv_istore (lv' := [(6, .int (nI 6)), (5, .int (nI (1 <<< (fho na)))), (4, .int (nI (fho na))), (3, .int (nI (x.1 ((na * 8) + na)))), (0, .ref sa), (1, .int (nI na)), (2, .int (nI co))]) hx hb dX2_giveFrom_64 hl (by decide) rfl (fun ls hl => ?_)
        have hl : lv_has ls 7 [(6, .int (mI 7)), (5, .int (nI (1 <<< (fho na)))), (4, .int (nI (fho na))), (3, .int (nI (x.1 ((na * 8) + na)))), (0, .ref sa), (1, .int (nI na)), (2, .int (nI co))] := by rw [mI_succ 6]; exact hl
        refine bX2_gf hx hb hml hown hts hK hA sa le ho tr ke ra al be fho fal fbe nm ef hn hho he d ihg na co (x.1 (na * 8 + na)) (fho na) hna hco (hg.1 _) (hho _) (by show 2 * d + 4 ≤ 2 * (d + 1) + 2; omega) (by show 51 * d + 81 ≤ 51 * (d + 1) + 30; omega) 7 (1 <<< (fho na)) (giveStep (giveFromF nm ef fbe fho d) nm fbe fho na (fho na) co 0 x) (by omega) (shl_lt128 (bit_lt7 (hg.1 _) c_43)) (giveStep_inv (fun co' z h1 h2 => giveFromF_inv d _ _ _ h1 (by omega) h2) hco hg) _ _ ls hP hD hS (lv_sub hl [4, 5, 6, 3, 2, 1, 0] rfl) (fun H locs ls hP hD hS hl => ?_)
        have eW : ([(sa, .inr (4, [.ref ra, .ref le, .ref ho, .ref tr, .ref ke, .int (nI nm), .int (nI ((gfLoop (fun cd b9 y => giveStep (giveFromF nm ef fbe fho d) nm fbe fho na cd co b9 y) (x.1 (na * 8 + na)) (fho na) 7 (1 <<< (fho na)) (giveStep (giveFromF nm ef fbe fho d) nm fbe fho na (fho na) co 0 x)).2.2.2.1)), .int (nI ((gfLoop (fun cd b9 y => giveStep (giveFromF nm ef fbe fho d) nm fbe fho na cd co b9 y) (x.1 (na * 8 + na)) (fho na) 7 (1 <<< (fho na)) (giveStep (giveFromF nm ef fbe fho d) nm fbe fho na (fho na) co 0 x)).2.2.2.2)), .int (nI ef)])), (le, .inl (cA, 72, .inl (aN ((gfLoop (fun cd b9 y => giveStep (giveFromF nm ef fbe fho d) nm fbe fho na cd co b9 y) (x.1 (na * 8 + na)) (fho na) 7 (1 <<< (fho na)) (giveStep (giveFromF nm ef fbe fho d) nm fbe fho na (fho na) co 0 x)).1)))), (ho, .inl (cA, 8, .inl (aN fho))), (tr, .inl (cA, 8, .inl (aN ((gfLoop (fun cd b9 y => giveStep (giveFromF nm ef fbe fho d) nm fbe fho na cd co b9 y) (x.1 (na * 8 + na)) (fho na) 7 (1 <<< (fho na)) (giveStep (giveFromF nm ef fbe fho d) nm fbe fho na (fho na) co 0 x)).2.1)))), (ke, .inl (cA, 8, .inl (aN ((gfLoop (fun cd b9 y => giveStep (giveFromF nm ef fbe fho d) nm fbe fho na cd co b9 y) (x.1 (na * 8 + na)) (fho na) 7 (1 <<< (fho na)) (giveStep (giveFromF nm ef fbe fho d) nm fbe fho na (fho na) co 0 x)).2.2.1)))), (ra, .inr (3, [.ref al, .ref be])), (al, .inl (cA, 8, .inl (aN fal))), (be, .inl (cA, 448, .inl (aN fbe)))] : va_W) = [(sa, .inr (4, [.ref ra, .ref le, .ref ho, .ref tr, .ref ke, .int (nI nm), .int (nI ((giveFromF nm ef fbe fho (d + 1) na co x).2.2.2.1)), .int (nI ((giveFromF nm ef fbe fho (d + 1) na co x).2.2.2.2)), .int (nI ef)])), (le, .inl (cA, 72, .inl (aN ((giveFromF nm ef fbe fho (d + 1) na co x).1)))), (ho, .inl (cA, 8, .inl (aN fho))), (tr, .inl (cA, 8, .inl (aN ((giveFromF nm ef fbe fho (d + 1) na co x).2.1)))), (ke, .inl (cA, 8, .inl (aN ((giveFromF nm ef fbe fho (d + 1) na co x).2.2.1)))), (ra, .inr (3, [.ref al, .ref be])), (al, .inl (cA, 8, .inl (aN fal))), (be, .inl (cA, 448, .inl (aN fbe)))] := by rw [giveFromF]; first | (rw [if_pos c_43]; done) | (rw [if_neg c_43]; done)
        rw [eW] at hP hD
        exact W.vret hx hb hr (fun t ht hW => ⟨⟨(), rfl, trivial, by rw [ht]; exact hP, hD⟩, hS.F ht⟩) hS.2.2 dX2_giveFrom_112
    · exfalso; omega

