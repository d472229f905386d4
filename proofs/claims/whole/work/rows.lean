section
-- ===== PART A: goes FIRST, ahead of the names: the tables' words, and 'selects' of the private methods out of them =====
/-- a private method of a class that the tables say can be made, by its rows of tables_1 -/
def lw_okq (q : MethodName × Nat) : Prop := (q.1.cls ≠ "java/lang/invoke/MethodHandle" ∧ q.1.cls ≠ "java/lang/invoke/VarHandle") ∧ Cond.instantiable q.1.cls q.2 ∈ tables_1 ∧ Cond.privateMethod q.1 ∈ tables_1 ∧ Cond.instanceMethod q.1 ∈ tables_1
theorem lw_p0 : lw_okq (⟨"LeastChange$Rules", "open", "(II)V"⟩, 2) := ⟨⟨by decide +kernel, by decide +kernel⟩, List.mem_of_getElem? (i := 23) (by decide +kernel), List.mem_of_getElem? (i := 137) (by decide +kernel), List.mem_of_getElem? (i := 138) (by decide +kernel)⟩
theorem lw_p1 : lw_okq (⟨"LeastChange", "isName", "(I)Z"⟩, 10) := ⟨⟨by decide +kernel, by decide +kernel⟩, List.mem_of_getElem? (i := 15) (by decide +kernel), List.mem_of_getElem? (i := 145) (by decide +kernel), List.mem_of_getElem? (i := 146) (by decide +kernel)⟩
theorem lw_p2 : lw_okq (⟨"LeastChange$Rules", "tie", "(IIII)V"⟩, 2) := ⟨⟨by decide +kernel, by decide +kernel⟩, List.mem_of_getElem? (i := 23) (by decide +kernel), List.mem_of_getElem? (i := 152) (by decide +kernel), List.mem_of_getElem? (i := 153) (by decide +kernel)⟩
theorem lw_p3 : lw_okq (⟨"LeastChange$Rules", "narrow", "(II)V"⟩, 2) := ⟨⟨by decide +kernel, by decide +kernel⟩, List.mem_of_getElem? (i := 23) (by decide +kernel), List.mem_of_getElem? (i := 156) (by decide +kernel), List.mem_of_getElem? (i := 157) (by decide +kernel)⟩
theorem lw_p4 : lw_okq (⟨"LeastChange", "addRow", "(IIII)I"⟩, 10) := ⟨⟨by decide +kernel, by decide +kernel⟩, List.mem_of_getElem? (i := 15) (by decide +kernel), List.mem_of_getElem? (i := 163) (by decide +kernel), List.mem_of_getElem? (i := 164) (by decide +kernel)⟩
theorem lw_p5 : lw_okq (⟨"LeastChange", "addSetRow", "(III)I"⟩, 10) := ⟨⟨by decide +kernel, by decide +kernel⟩, List.mem_of_getElem? (i := 15) (by decide +kernel), List.mem_of_getElem? (i := 171) (by decide +kernel), List.mem_of_getElem? (i := 172) (by decide +kernel)⟩
theorem lw_p6 : lw_okq (⟨"LeastChange$Search", "findBest", "(I[I[I)Z"⟩, 9) := ⟨⟨by decide +kernel, by decide +kernel⟩, List.mem_of_getElem? (i := 42) (by decide +kernel), List.mem_of_getElem? (i := 188) (by decide +kernel), List.mem_of_getElem? (i := 189) (by decide +kernel)⟩
theorem lw_p7 : lw_okq (⟨"LeastChange$Search", "find", "(I[I[I)Z"⟩, 9) := ⟨⟨by decide +kernel, by decide +kernel⟩, List.mem_of_getElem? (i := 42) (by decide +kernel), List.mem_of_getElem? (i := 192) (by decide +kernel), List.mem_of_getElem? (i := 193) (by decide +kernel)⟩
theorem lw_p8 : lw_okq (⟨"LeastChange$Search", "giveFrom", "(II)V"⟩, 9) := ⟨⟨by decide +kernel, by decide +kernel⟩, List.mem_of_getElem? (i := 42) (by decide +kernel), List.mem_of_getElem? (i := 196) (by decide +kernel), List.mem_of_getElem? (i := 197) (by decide +kernel)⟩
theorem lw_p9 : lw_okq (⟨"LeastChange$Search", "keep", "(I)V"⟩, 9) := ⟨⟨by decide +kernel, by decide +kernel⟩, List.mem_of_getElem? (i := 42) (by decide +kernel), List.mem_of_getElem? (i := 200) (by decide +kernel), List.mem_of_getElem? (i := 201) (by decide +kernel)⟩
theorem lw_p10 : lw_okq (⟨"LeastChange$Search", "give", "(III)V"⟩, 9) := ⟨⟨by decide +kernel, by decide +kernel⟩, List.mem_of_getElem? (i := 42) (by decide +kernel), List.mem_of_getElem? (i := 204) (by decide +kernel), List.mem_of_getElem? (i := 205) (by decide +kernel)⟩
theorem lw_p11 : lw_okq (⟨"LeastChange$Search", "narrowRest", "(III)I"⟩, 9) := ⟨⟨by decide +kernel, by decide +kernel⟩, List.mem_of_getElem? (i := 42) (by decide +kernel), List.mem_of_getElem? (i := 217) (by decide +kernel), List.mem_of_getElem? (i := 218) (by decide +kernel)⟩
theorem lw_p12 : lw_okq (⟨"LeastChange$Search", "changedCount", "()I"⟩, 9) := ⟨⟨by decide +kernel, by decide +kernel⟩, List.mem_of_getElem? (i := 42) (by decide +kernel), List.mem_of_getElem? (i := 225) (by decide +kernel), List.mem_of_getElem? (i := 226) (by decide +kernel)⟩
theorem lw_p13 : lw_okq (⟨"LeastChange", "waysToTry", "(I)I"⟩, 10) := ⟨⟨by decide +kernel, by decide +kernel⟩, List.mem_of_getElem? (i := 15) (by decide +kernel), List.mem_of_getElem? (i := 232) (by decide +kernel), List.mem_of_getElem? (i := 233) (by decide +kernel)⟩
theorem lw_p14 : lw_okq (⟨"LeastChange$Search", "findFirst", "(I[I[I)Z"⟩, 9) := ⟨⟨by decide +kernel, by decide +kernel⟩, List.mem_of_getElem? (i := 42) (by decide +kernel), List.mem_of_getElem? (i := 236) (by decide +kernel), List.mem_of_getElem? (i := 237) (by decide +kernel)⟩
theorem lw_p15 : lw_okq (⟨"LeastChange$Found", "keep", "(LLeastChange$Search;I[I)V"⟩, 4) := ⟨⟨by decide +kernel, by decide +kernel⟩, List.mem_of_getElem? (i := 76) (by decide +kernel), List.mem_of_getElem? (i := 240) (by decide +kernel), List.mem_of_getElem? (i := 241) (by decide +kernel)⟩
def lw_privs_1 : List (MethodName × Nat) := [(⟨"LeastChange$Rules", "open", "(II)V"⟩, 2), (⟨"LeastChange", "isName", "(I)Z"⟩, 10), (⟨"LeastChange$Rules", "tie", "(IIII)V"⟩, 2), (⟨"LeastChange$Rules", "narrow", "(II)V"⟩, 2), (⟨"LeastChange", "addRow", "(IIII)I"⟩, 10), (⟨"LeastChange", "addSetRow", "(III)I"⟩, 10), (⟨"LeastChange$Search", "findBest", "(I[I[I)Z"⟩, 9), (⟨"LeastChange$Search", "find", "(I[I[I)Z"⟩, 9), (⟨"LeastChange$Search", "giveFrom", "(II)V"⟩, 9), (⟨"LeastChange$Search", "keep", "(I)V"⟩, 9), (⟨"LeastChange$Search", "give", "(III)V"⟩, 9), (⟨"LeastChange$Search", "narrowRest", "(III)I"⟩, 9), (⟨"LeastChange$Search", "changedCount", "()I"⟩, 9), (⟨"LeastChange", "waysToTry", "(I)I"⟩, 10), (⟨"LeastChange$Search", "findFirst", "(I[I[I)Z"⟩, 9), (⟨"LeastChange$Found", "keep", "(LLeastChange$Search;I[I)V"⟩, 4)]
theorem lw_r1 : ∀ q ∈ lw_privs_1, lw_okq q := List.forall_mem_cons.mpr ⟨lw_p0, List.forall_mem_cons.mpr ⟨lw_p1, List.forall_mem_cons.mpr ⟨lw_p2, List.forall_mem_cons.mpr ⟨lw_p3, List.forall_mem_cons.mpr ⟨lw_p4, List.forall_mem_cons.mpr ⟨lw_p5, List.forall_mem_cons.mpr ⟨lw_p6, List.forall_mem_cons.mpr ⟨lw_p7, List.forall_mem_cons.mpr ⟨lw_p8, List.forall_mem_cons.mpr ⟨lw_p9, List.forall_mem_cons.mpr ⟨lw_p10, List.forall_mem_cons.mpr ⟨lw_p11, List.forall_mem_cons.mpr ⟨lw_p12, List.forall_mem_cons.mpr ⟨lw_p13, List.forall_mem_cons.mpr ⟨lw_p14, List.forall_mem_cons.mpr ⟨lw_p15, fun _ h => absurd h List.not_mem_nil⟩⟩⟩⟩⟩⟩⟩⟩⟩⟩⟩⟩⟩⟩⟩⟩
theorem lw_p16 : lw_okq (⟨"LeastChange$Search", "keptCode", "(I)I"⟩, 9) := ⟨⟨by decide +kernel, by decide +kernel⟩, List.mem_of_getElem? (i := 42) (by decide +kernel), List.mem_of_getElem? (i := 244) (by decide +kernel), List.mem_of_getElem? (i := 245) (by decide +kernel)⟩
theorem lw_p17 : lw_okq (⟨"LeastChange", "lockToFound", "()V"⟩, 10) := ⟨⟨by decide +kernel, by decide +kernel⟩, List.mem_of_getElem? (i := 15) (by decide +kernel), List.mem_of_getElem? (i := 287) (by decide +kernel), List.mem_of_getElem? (i := 288) (by decide +kernel)⟩
theorem lw_p18 : lw_okq (⟨"java/lang/Throwable", "fillInStackTrace", "(I)Ljava/lang/Throwable;"⟩, 6) := ⟨⟨by decide +kernel, by decide +kernel⟩, List.mem_of_getElem? (i := 322) (by decide +kernel), List.mem_of_getElem? (i := 320) (by decide +kernel), List.mem_of_getElem? (i := 321) (by decide +kernel)⟩
theorem lw_p19 : lw_okq (⟨"LeastChangeModel", "isName", "(I)Z"⟩, 25) := ⟨⟨by decide +kernel, by decide +kernel⟩, List.mem_of_getElem? (i := 375) (by decide +kernel), List.mem_of_getElem? (i := 469) (by decide +kernel), List.mem_of_getElem? (i := 470) (by decide +kernel)⟩
theorem lw_p20 : lw_okq (⟨"LeastChangeModel", "add", "(IIIIJ)I"⟩, 25) := ⟨⟨by decide +kernel, by decide +kernel⟩, List.mem_of_getElem? (i := 375) (by decide +kernel), List.mem_of_getElem? (i := 473) (by decide +kernel), List.mem_of_getElem? (i := 474) (by decide +kernel)⟩
theorem lw_p21 : lw_okq (⟨"LeastChangeModel", "lookForBest", "()Z"⟩, 25) := ⟨⟨by decide +kernel, by decide +kernel⟩, List.mem_of_getElem? (i := 375) (by decide +kernel), List.mem_of_getElem? (i := 498) (by decide +kernel), List.mem_of_getElem? (i := 499) (by decide +kernel)⟩
theorem lw_p22 : lw_okq (⟨"LeastChangeModel", "look", "(II)Z"⟩, 25) := ⟨⟨by decide +kernel, by decide +kernel⟩, List.mem_of_getElem? (i := 375) (by decide +kernel), List.mem_of_getElem? (i := 502) (by decide +kernel), List.mem_of_getElem? (i := 503) (by decide +kernel)⟩
theorem lw_p23 : lw_okq (⟨"LeastChangeModel", "begin", "()V"⟩, 25) := ⟨⟨by decide +kernel, by decide +kernel⟩, List.mem_of_getElem? (i := 375) (by decide +kernel), List.mem_of_getElem? (i := 506) (by decide +kernel), List.mem_of_getElem? (i := 507) (by decide +kernel)⟩
theorem lw_p24 : lw_okq (⟨"LeastChangeModel", "seek", "()V"⟩, 25) := ⟨⟨by decide +kernel, by decide +kernel⟩, List.mem_of_getElem? (i := 375) (by decide +kernel), List.mem_of_getElem? (i := 510) (by decide +kernel), List.mem_of_getElem? (i := 511) (by decide +kernel)⟩
theorem lw_p25 : lw_okq (⟨"LeastChangeModel", "option", "(II)I"⟩, 25) := ⟨⟨by decide +kernel, by decide +kernel⟩, List.mem_of_getElem? (i := 375) (by decide +kernel), List.mem_of_getElem? (i := 514) (by decide +kernel), List.mem_of_getElem? (i := 515) (by decide +kernel)⟩
theorem lw_p26 : lw_okq (⟨"LeastChangeModel", "leaves", "(II)Z"⟩, 25) := ⟨⟨by decide +kernel, by decide +kernel⟩, List.mem_of_getElem? (i := 375) (by decide +kernel), List.mem_of_getElem? (i := 518) (by decide +kernel), List.mem_of_getElem? (i := 519) (by decide +kernel)⟩
theorem lw_p27 : lw_okq (⟨"LeastChangeModel", "tries", "(I)J"⟩, 25) := ⟨⟨by decide +kernel, by decide +kernel⟩, List.mem_of_getElem? (i := 375) (by decide +kernel), List.mem_of_getElem? (i := 522) (by decide +kernel), List.mem_of_getElem? (i := 523) (by decide +kernel)⟩
theorem lw_p28 : lw_okq (⟨"LeastChangeModel", "keep", "()I"⟩, 25) := ⟨⟨by decide +kernel, by decide +kernel⟩, List.mem_of_getElem? (i := 375) (by decide +kernel), List.mem_of_getElem? (i := 526) (by decide +kernel), List.mem_of_getElem? (i := 527) (by decide +kernel)⟩
def lw_privs_2 : List (MethodName × Nat) := [(⟨"LeastChange$Search", "keptCode", "(I)I"⟩, 9), (⟨"LeastChange", "lockToFound", "()V"⟩, 10), (⟨"java/lang/Throwable", "fillInStackTrace", "(I)Ljava/lang/Throwable;"⟩, 6), (⟨"LeastChangeModel", "isName", "(I)Z"⟩, 25), (⟨"LeastChangeModel", "add", "(IIIIJ)I"⟩, 25), (⟨"LeastChangeModel", "lookForBest", "()Z"⟩, 25), (⟨"LeastChangeModel", "look", "(II)Z"⟩, 25), (⟨"LeastChangeModel", "begin", "()V"⟩, 25), (⟨"LeastChangeModel", "seek", "()V"⟩, 25), (⟨"LeastChangeModel", "option", "(II)I"⟩, 25), (⟨"LeastChangeModel", "leaves", "(II)Z"⟩, 25), (⟨"LeastChangeModel", "tries", "(I)J"⟩, 25), (⟨"LeastChangeModel", "keep", "()I"⟩, 25)]
theorem lw_r2 : ∀ q ∈ lw_privs_2, lw_okq q := List.forall_mem_cons.mpr ⟨lw_p16, List.forall_mem_cons.mpr ⟨lw_p17, List.forall_mem_cons.mpr ⟨lw_p18, List.forall_mem_cons.mpr ⟨lw_p19, List.forall_mem_cons.mpr ⟨lw_p20, List.forall_mem_cons.mpr ⟨lw_p21, List.forall_mem_cons.mpr ⟨lw_p22, List.forall_mem_cons.mpr ⟨lw_p23, List.forall_mem_cons.mpr ⟨lw_p24, List.forall_mem_cons.mpr ⟨lw_p25, List.forall_mem_cons.mpr ⟨lw_p26, List.forall_mem_cons.mpr ⟨lw_p27, List.forall_mem_cons.mpr ⟨lw_p28, fun _ h => absurd h List.not_mem_nil⟩⟩⟩⟩⟩⟩⟩⟩⟩⟩⟩⟩⟩
def lw_privs : List (MethodName × Nat) := lw_privs_1 ++ (lw_privs_2)
def lw_tbl : List Cond := k2_sels lw_privs ++ tables_1
theorem lw_privs_ok : ∀ q ∈ lw_privs, lw_okq q := by
  show ∀ q ∈ lw_privs_1 ++ (lw_privs_2), lw_okq q
  exact List.forall_mem_append.mpr ⟨lw_r1, lw_r2⟩
-- ===== end of PART A; then your names; then what follows =====
/-! ===== BEGIN words of one list among another's, by their places ===== -/
theorem goodIn_r {big : List Cond} (ws : List Cond) (ps : List Nat) (hp : ws = ps.filterMap (fun i => big[i]?)) (h : ws.all goodWord = true) : GoodIn big ws := by
  intro w hw
  have h1 := List.all_eq_true.mp h w hw
  rw [hp] at hw
  obtain ⟨i, -, hi⟩ := List.mem_filterMap.mp hw
  have hm : w ∈ big := by first | exact List.mem_of_getElem? hi | exact List.getElem?_mem hi
  exact ⟨hm, good_of_word h1⟩
theorem goodIn_app {big a b : List Cond} (ha : GoodIn big a) (hb : GoodIn big b) : GoodIn big (a ++ b) := fun w h => (List.mem_append.mp h).elim (ha w) (hb w)
theorem goodIn_ca {big a b : List Cond} {c : Cond} (ha : GoodIn big (c :: a)) (hb : GoodIn big b) : GoodIn big (c :: (a ++ b)) := fun w h => (List.mem_cons.mp h).elim (fun e => ha w (List.mem_cons.mpr (Or.inl e))) (fun h => (List.mem_append.mp h).elim (fun h => ha w (List.mem_cons.mpr (Or.inr h))) (hb w))
theorem goodIn_sub {big ws : List Cond} (hm : ∀ w ∈ ws, w ∈ big) (h : ws.all goodWord = true) : GoodIn big ws := fun w hw => ⟨hm w hw, good_of_word (List.all_eq_true.mp h w hw)⟩
/-! ===== END ===== -/

/-! ===== BEGIN exceptions that leave a method, and their catching by the caller (launches without stack traces) ===== -/
section VXA
/-! The laws vx_back, vx_callV, vx_callS, vx_callSW, vx_throw0, vx_throwS follow proofs of the library, with one case more: JvmDerived/Free/Laws.lean (Back.of_free), Shelf42/LK1.lean (callV, callS), Shelf/KitTraced.lean (throwNew0V, throwNewS). -/
/-- where a method has thrown q: the class by its name, the cell, what was written, the world -/
def vx_T (XC : String → State → State → Prop) (st : State) (q : Addr) (t : State) (mc ms : Nat) (free : Addr → Prop) : Prop :=
  ∃ (E : String) (ce : Cell) (L : List Loc), XC E st t ∧ t.heap[q]? = some ce ∧ ce.vm = .none ∧ st.vm.findClass E = some ce.cls ∧ st.WarmedH t.vm ∧ st.sameButNew ({ t with vm := st.vm } : State) L mc ms ∧ ∀ z ∈ L, free z.base
def vx_Q (Qc : Array Value → State → Outcome → State → Prop) (XC : String → State → State → Prop) (mc ms : Nat) (free : Addr → Prop) : Array Value → State → Outcome → State → Prop := fun a st o t =>
  (Qc a st o t ∧ ∃ L, FrameEnd st o t L mc ms ∧ ∀ q ∈ L, free q.base) ∨ ∃ q, o = .threw q ∧ vx_T XC st q t mc ms free
/-- a callee that returns or throws -/
def vx_Met (l : Launch) (y : MethodName) (ws : List Cond) (rm : Room) (Pc : Array Value → State → Prop) (Qc : Array Value → State → Outcome → State → Prop) (XC : String → State → State → Prop) (mc ms : Nat) (free : Addr → Prop) : Prop :=
  MetFree l y (headSpec ws rm) Pc (fun _ _ _ _ _ => True) (vx_Q Qc XC mc ms free)
def vx_Post (XC : String → State → State → Prop) (mc ms : Nat) (free : Addr → Prop) : Pt → Array Value → Addr → Pt → Prop := fun A a q B =>
  ∃ (g : JFrame) (mk : MethodId) (t : State) (L : List Loc) (E : String) (ce : Cell), B.U.heap = t.heap ∧ B.U.vm = t.vm ∧ XC E (A.U.calling g mk a) t ∧ t.heap[q]? = some ce ∧ ce.vm = .none ∧ A.U.vm.findClass E = some ce.cls ∧ B.locs = A.locs ++ L ∧ (∀ z ∈ L, free z.base) ∧ B.cells = A.cells + mc ∧ B.slots = A.slots + ms
def vx_Back (l : Launch) (R : Room) (p : Program) (e : Env) (below : List Frame) (s : State) (sargs : Array Value) (y : MethodName) (len W9 : Nat)
    (Pre : Pt → Array Value → Prop) (Post : Pt → Array Value → Option Value → Pt → Prop) (PostX : Pt → Array Value → Addr → Pt → Prop) : Prop :=
  ∀ (m : MethodId) (meth : Method) (c : Code) (A : Pt) (g : JFrame) (ig : Instr) (mk : MethodId) (a : Array Value),
    Stand p l e R s m sargs below meth c A.U A.locs A.cells A.slots → g.method = m → g.locals.size = c.maxLocals → decode c.code g.pc = .ok (ig, len) →
    2 * g.monitorRoom + (g.stack.map fun v => v.category).sum ≤ W9 → A.U.methodNamed? y = some mk → Pre A a →
    (∃ (v : Option Value) (B : Pt), Stand p l e R s m sargs below meth c B.U B.locs B.cells B.slots ∧ Post A a v B ∧
      Steps p.tables e below (doInvoke e (A.U.setTop g) [] mk a).1 (B.U.setTop { g with pc := g.pc + len, stack := v.toList ++ g.stack })) ∨
    (∃ (q : Addr) (B : Pt), Stand p l e R s m sargs below meth c B.U B.locs B.cells B.slots ∧ PostX A a q B ∧
      Steps p.tables e below (doInvoke e (A.U.setTop g) [] mk a).1 ((B.U.setTop g).pushFrame (.throwing q)))
section Payer
variable {l : Launch} {R : Room} {p : Program} {e : Env} {below : List Frame} {s : State} {sargs : Array Value} {y : MethodName} {len W9 : Nat}
theorem vx_back {ws : List Cond} {rm : Room} {Pc : Array Value → State → Prop} {Qc : Array Value → State → Outcome → State → Prop} {XC : String → State → State → Prop} {mc ms : Nat} {free : Addr → Prop} {bytes : ByteArray} {maxL : Nat} {ret : Option FieldType}
    (hM : vx_Met l y ws rm Pc Qc XC mc ms free) (hblind : FrameBlind Pc) (hrc : rm.cells = mc) (hrs : rm.slots = ms)
    (hframes : rm.frames + 1 ≤ R.frames) (hlocals : W9 + (maxL + 11) + rm.locals ≤ R.locals)
    (hws : ∀ w ∈ ws, ∀ a' U, s.WarmedH U.vm → w.before a' U = true) (hcode : Cond.code y bytes maxL ret ∈ ws) (hinit : ∀ a' U, s.WarmedH U.vm → (Cond.initialized y.cls).before a' U = true) :
    vx_Back l R p e below s sargs y len W9 (PreOf R mc ms Pc) (PostOf Qc mc ms free) (vx_Post XC mc ms free) := by
  intro m meth c A g ig mk a X hg hsize hdg hW hn hp
  have h1 : (headSpec ws rm).pre.before a A.U = true := atoms_intro fun w hw => hws w hw _ _ X.warmed
  have h2 : (Cond.code y bytes maxL ret).before a A.U = true := hws _ hcode _ _ X.warmed
  have h3 : (Cond.initialized y.cls).before a A.U = true := hinit _ _ X.warmed
  have h4 : A.cells + (headSpec ws rm).room.cells ≤ R.cells := by rw [show (headSpec ws rm).room.cells = mc from hrc]; exact hp.1
  have h5 : A.slots + (headSpec ws rm).room.slots ≤ R.slots := by rw [show (headSpec ws rm).room.slots = ms from hrs]; exact hp.2.1
  have hPc : Pc a (A.U.calling g mk a) := hblind _ _ _ _ hp.2.2
  obtain ⟨U, Ls, c0, s0⟩ := A
  dsimp only [Pt.U, Pt.locs, Pt.cells, Pt.slots] at h1 h2 h3 h4 h5 X hn hPc ⊢
  obtain ⟨methY, cY, hmY, hcY, -, hlY, -, -, -, -⟩ := Cond.code_spec hn h2
  obtain ⟨kY, hkY, -⟩ := className_of_methodNamed hn
  have hinitY : kY.init = .initialized := Cond.initialized_spec (findClass_of_methodNamed hn) hkY h3
  have h : At U g.method c below := by rw [hg]; exact X.here
  have hlocals9 : W9 + (maxL + 11) + (headSpec ws rm).room.locals ≤ R.locals := hlocals
  have happ : (headSpec ws rm).appliesLoose y e.platform (U.calling g mk a) = true :=
    Spec.appliesLoose_calling (g := g) h hdg hn hkY hinitY
      (X.room_calling (g := g) (R' := (headSpec ws rm).room) hsize hmY hcY hframes (by rw [hlY]; omega) h4 h5) h1
  obtain ⟨mid, hmid⟩ := h.above
  have hfr : (U.setTop g).frames = (.java g :: mid) ++ below := by rw [State.frames_setTop' g h.top, hmid]; rfl
  obtain ⟨o, s₂, hsteps, -, hend, hq⟩ := Steps.callFree hM p X.admits X.cas X.clock (acts := []) hfr happ hPc trivial
  have hq' : vx_Q Qc XC mc ms free a (U.calling g mk a) o s₂ := hq
  rw [State.frames_setTop' g h.top] at hend
  obtain ⟨g₀, hg0⟩ := Option.isSome_iff_exists.mp h.top
  obtain ⟨r, hr⟩ := State.topJava?_eq_some.mp hg0
  have hr' : (({ U with heap := s₂.heap, slotsUsed := s₂.slotsUsed } : State).setVm s₂.vm).frames = .java g₀ :: r := hr
  rcases hq' with ⟨hqc, L, hfe, hL⟩ | ⟨q, rfl, E, ce, L, hx, hce, hcv, hcl, hW₂, hsm, hL⟩
  · obtain ⟨⟨v, rfl⟩, hW₂, e2, q2, q3, q4, q5, q6⟩ := id hfe
    have e3 : s₂ = ({ (U.calling g mk a).setFrames s₂.frames with heap := s₂.heap, slotsUsed := s₂.slotsUsed } : State).setVm s₂.vm := by
      have : s₂ = ({ s₂ with vm := (U.calling g mk a).vm } : State).setVm s₂.vm := rfl
      rw [e2] at this
      exact this
    obtain ⟨c₂, i₂, len₂, hc₂, hd₂, hf₂⟩ := hend
    have hW' : U.WarmedH s₂.vm := hW₂
    have hcc : c₂ = c := by
      have h1 : s₂.code? g.method = U.code? g.method := by
        rw [State.code?_eq, State.code?_eq, hW'.alike.method?]
      exact Option.some.inj (hc₂.symm.trans (h1.trans h.code))
    subst hcc
    have hlen : len₂ = len := by rw [hdg] at hd₂; cases hd₂; rfl
    subst hlen
    have hs₂ : s₂ = (({ U with heap := s₂.heap, slotsUsed := s₂.slotsUsed } : State).setVm s₂.vm).setTop { g with pc := g.pc + len₂, stack := v.toList ++ g.stack } := by
      refine e3.trans ?_
      rw [hf₂, State.calling_eq h.top, State.setFrames_setFrames, State.setTop_of_frames _ hr', hr]
      rfl
    have hsame : U.sameButNew ({ U with heap := s₂.heap, slotsUsed := s₂.slotsUsed } : State) L mc ms := by
      refine ⟨?_, q2, q3, q4, q5, q6⟩
      obtain ⟨t, ht, -⟩ := State.frames_cons hr
      show ({ U with heap := s₂.heap, slotsUsed := s₂.slotsUsed } : State) = { U.setFrames U.frames with heap := s₂.heap, slotsUsed := s₂.slotsUsed }
      rw [State.setFrames_self ht]
    subst hg
    refine Or.inl ⟨v, ⟨(({ U with heap := s₂.heap, slotsUsed := s₂.slotsUsed } : State).setVm s₂.vm), Ls ++ L, c0 + mc, s0 + ms⟩,
      ⟨X.admits, X.cas, X.clock, X.frames, X.room, X.hears, X.method, X.code, (X.here.setHeapUsed s₂.heap s₂.slotsUsed).setVm hW'.alike, X.tail, State.WarmedH.trans X.warmed hW', X.limits, X.bytes, X.same.trans (hsame.setVm s.vm)⟩,
      ⟨g, mk, s₂, L, rfl, rfl, hqc, rfl, hL, rfl, rfl⟩, ?_⟩
    show Steps p.tables e below _ ((({ U with heap := s₂.heap, slotsUsed := s₂.slotsUsed } : State).setVm s₂.vm).setTop { g with pc := g.pc + len₂, stack := v.toList ++ g.stack })
    rw [← hs₂]
    exact hsteps
  · obtain ⟨e2, q2, q3, q4, q5, q6⟩ := id hsm
    have e3 : s₂ = ({ (U.calling g mk a).setFrames s₂.frames with heap := s₂.heap, slotsUsed := s₂.slotsUsed } : State).setVm s₂.vm := by
      have : s₂ = ({ s₂ with vm := (U.calling g mk a).vm } : State).setVm s₂.vm := rfl
      rw [e2] at this
      exact this
    have hf₂ : s₂.frames = .throwing q :: .java g :: U.frames.tail := hend
    have hW' : U.WarmedH s₂.vm := hW₂
    have hs₂ : s₂ = ((({ U with heap := s₂.heap, slotsUsed := s₂.slotsUsed } : State).setVm s₂.vm).setTop g).pushFrame (.throwing q) := by
      refine e3.trans ?_
      rw [hf₂, State.calling_eq h.top, State.setFrames_setFrames, State.pushFrame, State.frames_setTop _ hr', State.setTop_of_frames _ hr', State.setFrames_setFrames, hr]
      rfl
    have hsame : U.sameButNew ({ U with heap := s₂.heap, slotsUsed := s₂.slotsUsed } : State) L mc ms := by
      refine ⟨?_, q2, q3, q4, q5, q6⟩
      obtain ⟨t, ht, -⟩ := State.frames_cons hr
      show ({ U with heap := s₂.heap, slotsUsed := s₂.slotsUsed } : State) = { U.setFrames U.frames with heap := s₂.heap, slotsUsed := s₂.slotsUsed }
      rw [State.setFrames_self ht]
    subst hg
    refine Or.inr ⟨q, ⟨(({ U with heap := s₂.heap, slotsUsed := s₂.slotsUsed } : State).setVm s₂.vm), Ls ++ L, c0 + mc, s0 + ms⟩,
      ⟨X.admits, X.cas, X.clock, X.frames, X.room, X.hears, X.method, X.code, (X.here.setHeapUsed s₂.heap s₂.slotsUsed).setVm hW'.alike, X.tail, State.WarmedH.trans X.warmed hW', X.limits, X.bytes, X.same.trans (hsame.setVm s.vm)⟩,
      ⟨g, mk, s₂, L, E, ce, rfl, rfl, hx, hce, hcv, hcl, rfl, hL, rfl, rfl⟩, ?_⟩
    show Steps p.tables e below _ (((({ U with heap := s₂.heap, slotsUsed := s₂.slotsUsed } : State).setVm s₂.vm).setTop g).pushFrame (.throwing q))
    rw [← hs₂]
    exact hsteps
end Payer
section Calls
variable {p : Program} {l : Launch} {e : Env} {R : Room} {s : State} {m : MethodId} {args : Array Value} {below : List Frame} {meth : Method} {c : Code} {T : State} {locs : List Loc} {cells slots : Nat}
theorem vx_callV (X : Stand p l e R s m args below meth c T locs cells slots) (hexec : p.tables.exec = Jvm.exec) {own C : String} {index : Nat} {y : MethodName} {bytes : ByteArray} {maxL : Nat} {ret : Option FieldType}
    (hown : s.vm.findClass own = some m.cls) (hlink : (Cond.methodLink own index y).before args s = true) (hinst : (Cond.instanceMethod y).before args s = true) (hsel : (Cond.selects C y y).before args s = true)
    (hcode : (Cond.code y bytes maxL ret).before args s = true) (hy : y.cls ≠ "java/lang/invoke/MethodHandle" ∧ y.cls ≠ "java/lang/invoke/VarHandle")
    {W9 : Nat} {Pre : Pt → Array Value → Prop} {Post : Pt → Array Value → Option Value → Pt → Prop} {PostX : Pt → Array Value → Addr → Pt → Prop} (hK : vx_Back l R p e below s args y 3 W9 Pre Post PostX)
    {b : Addr} {cellB : Cell} (hcell : T.heap[b]? = some cellB) (hobj : cellB.vm.isStatics = false) (hcls : s.vm.findClass C = some cellB.cls)
    {g : JFrame} (hg : g.method = m) (hsize : g.locals.size = c.maxLocals) {argsL rest : List Value} (hlen : ∀ sig, parseMethodDescriptor y.desc = some sig → argsL.length = sig.parameters.length)
    (hstack : g.stack = argsL.reverse ++ .ref b :: rest) (hW : 2 * g.monitorRoom + (rest.map fun v => v.category).sum ≤ W9) (hdg : decode c.code g.pc = .ok (.invokevirtual index, 3))
    (hpre : ∀ vm₁, s.WarmedH vm₁ → Pre ⟨T.setVm vm₁, locs, cells, slots⟩ (Value.ref b :: argsL).toArray) :
    (∃ (v : Option Value) (vm₁ : Vm) (B : Pt), s.WarmedH vm₁ ∧ Stand p l e R s m args below meth c B.U B.locs B.cells B.slots ∧ Post ⟨T.setVm vm₁, locs, cells, slots⟩ (Value.ref b :: argsL).toArray v B ∧
      ∀ target, Steps p.tables e below (B.U.setTop { g with pc := g.pc + 3, stack := v.toList ++ rest }) target → Steps p.tables e below (T.setTop g) target) ∨
    (∃ (q : Addr) (vm₁ : Vm) (B : Pt), s.WarmedH vm₁ ∧ Stand p l e R s m args below meth c B.U B.locs B.cells B.slots ∧ PostX ⟨T.setVm vm₁, locs, cells, slots⟩ (Value.ref b :: argsL).toArray q B ∧
      Steps p.tables e below (T.setTop g) ((B.U.setTop { g with stack := rest }).pushFrame (.throwing q))) := by
  obtain ⟨mk, methM, hnamed, hmethM, hstM, habM⟩ := Cond.instanceMethod_spec hinst
  obtain ⟨methM', cM, hmethM', -, -, -, -, -, -, hsigM⟩ := Cond.code_spec hnamed hcode
  cases hmethM.symm.trans hmethM'
  obtain ⟨c2, r2, m2, q1, q2, q3, q4, kP, hkP, hkPi⟩ := Cond.selects_spec hsel
  cases hcls.symm.trans q1
  cases (State.methodFound?_of_named hnamed hy).symm.trans q2
  cases hnamed.symm.trans q3
  have hselP : selectMethod e.platform s.vm cellB.cls mk = .method mk := by rw [Launch.admits_selectMethod X.admits]; exact q4
  obtain ⟨vm₁, X₁, hstep₁⟩ := X.invokevirtual hexec hown hlink hnamed hmethM hstM hkP hkPi hy (a := b) (cell := cellB) hcell
    (fun z h => by rw [h] at hobj; cases hobj) hselP hmethM habM hkP hkPi (g := g) hg (argsL := argsL) (rest := rest) (hlen _ hsigM) hstack hdg
  rcases hK m meth c ⟨T.setVm vm₁, locs, cells, slots⟩ { g with stack := rest } (.invokevirtual index) mk (Value.ref b :: argsL).toArray X₁ hg hsize hdg hW (X₁.named hnamed) (hpre vm₁ X₁.warmed) with ⟨v, B, X', hpost, hsteps⟩ | ⟨q, B, X', hpost, hsteps⟩
  · exact Or.inl ⟨v, vm₁, B, X₁.warmed, X', hpost, fun target h => hstep₁ _ fun acts => by rw [doInvoke_state]; exact hsteps.trans h⟩
  · exact Or.inr ⟨q, vm₁, B, X₁.warmed, X', hpost, hstep₁ _ fun acts => by rw [doInvoke_state]; exact hsteps⟩
theorem vx_callS (X : Stand p l e R s m args below meth c T locs cells slots) (hexec : p.tables.exec = Jvm.exec) {own : String} {index : Nat} {y : MethodName} {bytes : ByteArray} {maxL : Nat} {ret : Option FieldType}
    (hown : s.vm.findClass own = some m.cls) (hlink : (Cond.methodLink own index y).before args s = true) (hstat : (Cond.static y).before args s = true) (hinit : (Cond.initialized y.cls).before args s = true)
    (hcode : (Cond.code y bytes maxL ret).before args s = true) (hy : y.cls ≠ "java/lang/invoke/MethodHandle" ∧ y.cls ≠ "java/lang/invoke/VarHandle")
    {W9 : Nat} {Pre : Pt → Array Value → Prop} {Post : Pt → Array Value → Option Value → Pt → Prop} {PostX : Pt → Array Value → Addr → Pt → Prop} (hK : vx_Back l R p e below s args y 3 W9 Pre Post PostX)
    {g : JFrame} (hg : g.method = m) (hsize : g.locals.size = c.maxLocals) {argsL rest : List Value} (hlen : ∀ sig, parseMethodDescriptor y.desc = some sig → argsL.length = sig.parameters.length)
    (hstack : g.stack = argsL.reverse ++ rest) (hW : 2 * g.monitorRoom + (rest.map fun v => v.category).sum ≤ W9) (hdg : decode c.code g.pc = .ok (.invokestatic index, 3))
    (hpre : ∀ vm₁, s.WarmedH vm₁ → Pre ⟨T.setVm vm₁, locs, cells, slots⟩ argsL.toArray) :
    (∃ (v : Option Value) (vm₁ : Vm) (B : Pt), s.WarmedH vm₁ ∧ Stand p l e R s m args below meth c B.U B.locs B.cells B.slots ∧ Post ⟨T.setVm vm₁, locs, cells, slots⟩ argsL.toArray v B ∧
      ∀ target, Steps p.tables e below (B.U.setTop { g with pc := g.pc + 3, stack := v.toList ++ rest }) target → Steps p.tables e below (T.setTop g) target) ∨
    (∃ (q : Addr) (vm₁ : Vm) (B : Pt), s.WarmedH vm₁ ∧ Stand p l e R s m args below meth c B.U B.locs B.cells B.slots ∧ PostX ⟨T.setVm vm₁, locs, cells, slots⟩ argsL.toArray q B ∧
      Steps p.tables e below (T.setTop g) ((B.U.setTop { g with stack := rest }).pushFrame (.throwing q))) := by
  obtain ⟨mk, hnamed⟩ := Cond.code_named hcode
  obtain ⟨methM, cM, hmethM, -, -, -, -, -, -, hsigM⟩ := Cond.code_spec hnamed hcode
  have hstatic : methM.isStatic = true := Cond.static_spec hnamed hmethM hstat
  obtain ⟨kP, hkP, -⟩ := className_of_methodNamed hnamed
  have hinitP : kP.init = .initialized := Cond.initialized_spec (findClass_of_methodNamed hnamed) hkP hinit
  obtain ⟨vm₁, X₁, hstep₁⟩ := X.invokestatic hexec hown hlink hnamed hmethM hstatic hkP hinitP hy (g := g) hg (argsL := argsL) (rest := rest) (hlen _ hsigM) hstack hdg
  rcases hK m meth c ⟨T.setVm vm₁, locs, cells, slots⟩ { g with stack := rest } (.invokestatic index) mk argsL.toArray X₁ hg hsize hdg hW (X₁.named hnamed) (hpre vm₁ X₁.warmed) with ⟨v, B, X', hpost, hsteps⟩ | ⟨q, B, X', hpost, hsteps⟩
  · exact Or.inl ⟨v, vm₁, B, X₁.warmed, X', hpost, fun target h => hstep₁ _ fun acts => by rw [doInvoke_state]; exact hsteps.trans h⟩
  · exact Or.inr ⟨q, vm₁, B, X₁.warmed, X', hpost, hstep₁ _ fun acts => by rw [doInvoke_state]; exact hsteps⟩
end Calls
theorem vx_cls {s : State} {T : State} {vm₁ : Vm} {E : String} {k : ClassId} (hW : s.WarmedH vm₁) (h : (T.setVm vm₁).vm.findClass E = some k) : s.vm.findClass E = some k := by
  have h1 : vm₁.findClass E = some k := h
  rw [hW.alike.findClass] at h1
  exact h1
/-- the method's frame g, with q thrown over it -/
def vx_W (p : Program) (l : Launch) (e : Env) (R : Room) (s : State) (m : MethodId) (args : Array Value) (below : List Frame) (meth : Method) (c : Code) (H : Heap) (locs : List Loc) (cells slots : Nat) (Q : State → Prop) (g : JFrame) (q : Addr) : Prop :=
  ∀ T : State, T.heap = H → Stand p l e R s m args below meth c T locs cells slots → ∃ t, Steps p.tables e below ((T.setTop g).pushFrame (.throwing q)) t ∧ Q t
def vx_Run (p : Program) (l : Launch) (e : Env) (R : Room) (s : State) (m : MethodId) (args : Array Value) (below : List Frame) (meth : Method) (c : Code) (H : Heap) (locs : List Loc) (cells slots mc ms : Nat) (g : JFrame) (rest : List Value) (Qa : State → Outcome → State → Prop) (XC : String → State → State → Prop) (free : Addr → Prop) : Prop :=
  ∀ T : State, T.heap = H → Stand p l e R s m args below meth c T locs cells slots →
    (∃ (v : Option Value) (st₀ t T' : State) (L : List Loc), st₀.heap = H ∧ Stand p l e R s m args below meth c T' (locs ++ L) (cells + mc) (slots + ms) ∧ (∀ q ∈ L, free q.base) ∧ T'.heap = t.heap ∧ T'.vm = t.vm ∧ Qa st₀ (.returned v) t ∧
      Goes p e below T g T' { g with pc := g.pc + 3, stack := v.toList ++ rest }) ∨
    (∃ (q : Addr) (st₀ t T' : State) (L : List Loc) (E : String) (ce : Cell), st₀.heap = H ∧ Stand p l e R s m args below meth c T' (locs ++ L) (cells + mc) (slots + ms) ∧ (∀ z ∈ L, free z.base) ∧ T'.heap = t.heap ∧ T'.vm = t.vm ∧ XC E st₀ t ∧ t.heap[q]? = some ce ∧ ce.vm = .none ∧ s.vm.findClass E = some ce.cls ∧
      Steps p.tables e below (T.setTop g) ((T'.setTop { g with stack := rest }).pushFrame (.throwing q)))
def vx_X {S : Type} (px : S → Prop) (B : String → S → State → Prop) (A : Nat → Prop) : String → State → State → Prop := fun E st t => ∃ u : S, px u ∧ B E u t ∧ va_F A st t
section Runs
variable {p : Program} {l : Launch} {e : Env} {R : Room} {s : State} {m : MethodId} {args : Array Value} {below : List Frame} {meth : Method} {c : Code} {H : Heap} {locs : List Loc} {cells slots : Nat}
variable {y : MethodName} {bytes cc : ByteArray} {maxL nL mc ms n index : Nat} {ret : Option FieldType} {ws : List Cond} {rm : Room} {Pc : Array Value → State → Prop} {Qc : Array Value → State → Outcome → State → Prop} {XC : String → State → State → Prop} {free : Addr → Prop} {Ts : List Cond} {own C : String} {b : Addr} {As rest : List Value} {g : JFrame}
theorem vx_callBack (cb : CallB R s args own index y bytes maxL ret ws rm mc ms n) (hM : vx_Met l y ws rm Pc Qc XC mc ms free) (hbl : FrameBlind Pc) : vx_Back l R p e below s args y 3 8 (PreOf R mc ms Pc) (PostOf Qc mc ms free) (vx_Post XC mc ms free) := by
  obtain ⟨hrc, hrs, hfr, hlo, hws, hcw, -, hini, -⟩ := cb
  exact vx_back (bytes := bytes) (maxL := maxL) (ret := ret) hM hbl hrc hrs hfr hlo hws hcw (fun a' U hW => word_at hW (Or.inl (by first | rfl | simp [Cond.onTables, Cond.keeps, Cond.steady])) hini)
theorem vx_runV (S : CallFix p m c cc nL s args Ts own) (hM : vx_Met l y ws rm Pc Qc XC mc ms free) (cw : CallW R s args own C index y bytes maxL ret ws rm mc ms n) (hp : PreV s H C b Pc As)
    (hg : g.method = m) (hn : As.length = n) (hsize : g.locals.size = nL) (hstack : g.stack = As.reverse ++ .ref b :: rest) (hW : 2 * g.monitorRoom + (rest.map fun v => v.category).sum ≤ 8) (hdg : decode cc g.pc = .ok (.invokevirtual index, 3)) (hf : cells + mc ≤ R.cells ∧ slots + ms ≤ R.slots) :
    vx_Run p l e R s m args below meth c H locs cells slots mc ms g rest (Qc (Value.ref b :: As).toArray) XC free := by
  have hK : vx_Back l R p e below s args y 3 8 (PreOf R mc ms Pc) (PostOf Qc mc ms free) (vx_Post XC mc ms free) := vx_callBack cw.1 hM hp.1
  obtain ⟨⟨-, -, -, -, -, -, hcode, -, hy, hlen, hl⟩, hin, hse⟩ := cw
  obtain ⟨hx, hb, hml, ho, -⟩ := S
  obtain ⟨-, ⟨cellB, hcB, hoB, hclB⟩, hPc⟩ := hp
  intro T hT X
  rcases vx_callV X hx (C := C) (bytes := bytes) (maxL := maxL) (ret := ret) ho hl hin hse hcode hy hK (by rw [hT]; exact hcB) hoB hclB hg (hsize.trans hml.symm) (argsL := As) (rest := rest) (fun sig h => hn.trans (hlen sig h)) hstack hW (by rw [hb]; exact hdg)
    (fun vm₁ hW₁ => ⟨hf.1, hf.2, hPc (T.setVm vm₁) hT hW₁⟩) with ⟨v, vm₁, ⟨U', l2, c2, s2⟩, hW₁, X', ⟨g', mk, t, L, e1, e2, hq, h1, hL, h2, h3⟩, st⟩ | ⟨q, vm₁, ⟨U', l2, c2, s2⟩, hW₁, X', ⟨g', mk, t, L, E, ce, e1, e2, hq, hce, hcv, hcl, h1, hL, h2, h3⟩, st⟩
  · dsimp only [Pt.U, Pt.locs, Pt.cells, Pt.slots] at X' e1 e2 h1 h2 h3 st
    subst h1; subst h2; subst h3
    exact Or.inl ⟨v, (T.setVm vm₁).calling g' mk (Value.ref b :: As).toArray, t, U', L, hT, X', hL, e1, e2, hq, st⟩
  · dsimp only [Pt.U, Pt.locs, Pt.cells, Pt.slots] at X' e1 e2 h1 h2 h3 st hcl
    subst h1; subst h2; subst h3
    exact Or.inr ⟨q, (T.setVm vm₁).calling g' mk (Value.ref b :: As).toArray, t, U', L, E, ce, hT, X', hL, e1, e2, hq, hce, hcv, vx_cls hW₁ hcl, st⟩
theorem vx_runS (S : CallFix p m c cc nL s args Ts own) (hM : vx_Met l y ws rm Pc Qc XC mc ms free) (cw : CallB R s args own index y bytes maxL ret ws rm mc ms n ∧ (Cond.static y).before args s = true) (hp : PreS s H Pc As)
    (hg : g.method = m) (hn : As.length = n) (hsize : g.locals.size = nL) (hstack : g.stack = As.reverse ++ rest) (hW : 2 * g.monitorRoom + (rest.map fun v => v.category).sum ≤ 8) (hdg : decode cc g.pc = .ok (.invokestatic index, 3)) (hf : cells + mc ≤ R.cells ∧ slots + ms ≤ R.slots) :
    vx_Run p l e R s m args below meth c H locs cells slots mc ms g rest (Qc As.toArray) XC free := by
  have hK : vx_Back l R p e below s args y 3 8 (PreOf R mc ms Pc) (PostOf Qc mc ms free) (vx_Post XC mc ms free) := vx_callBack cw.1 hM hp.1
  obtain ⟨⟨-, -, -, -, -, -, hcode, hini, hy, hlen, hl⟩, hstt⟩ := cw
  obtain ⟨hx, hb, hml, ho, -⟩ := S
  intro T hT X
  rcases vx_callS X hx (bytes := bytes) (maxL := maxL) (ret := ret) ho hl hstt hini hcode hy hK hg (hsize.trans hml.symm) (argsL := As) (rest := rest) (fun sig h => hn.trans (hlen sig h)) hstack hW (by rw [hb]; exact hdg)
    (fun vm₁ hW₁ => ⟨hf.1, hf.2, hp.2 (T.setVm vm₁) hT hW₁⟩) with ⟨v, vm₁, ⟨U', l2, c2, s2⟩, hW₁, X', ⟨g', mk, t, L, e1, e2, hq, h1, hL, h2, h3⟩, st⟩ | ⟨q, vm₁, ⟨U', l2, c2, s2⟩, hW₁, X', ⟨g', mk, t, L, E, ce, e1, e2, hq, hce, hcv, hcl, h1, hL, h2, h3⟩, st⟩
  · dsimp only [Pt.U, Pt.locs, Pt.cells, Pt.slots] at X' e1 e2 h1 h2 h3 st
    subst h1; subst h2; subst h3
    exact Or.inl ⟨v, (T.setVm vm₁).calling g' mk As.toArray, t, U', L, hT, X', hL, e1, e2, hq, st⟩
  · dsimp only [Pt.U, Pt.locs, Pt.cells, Pt.slots] at X' e1 e2 h1 h2 h3 st hcl
    subst h1; subst h2; subst h3
    exact Or.inr ⟨q, (T.setVm vm₁).calling g' mk As.toArray, t, U', L, E, ce, hT, X', hL, e1, e2, hq, hce, hcv, vx_cls hW₁ hcl, st⟩
end Runs
section Rows
variable {p : Program} {l : Launch} {e : Env} {R : Room} {s : State} {m : MethodId} {args : Array Value} {below : List Frame} {meth : Method} {c : Code} {H : Heap} {locs : List Loc} {cells slots : Nat} {Q : State → Prop}
variable {mc ms : Nat} {free : Addr → Prop} {A0 A1 : Nat → Prop} {H0 : Heap} {a : Array Value} {pc : Nat} {ls : Array Slot} {st0 rest : List Value}
theorem vx_keep {st₀ t T' : State} {L : List Loc} (h0 : st₀.heap = H) (e1 : T'.heap = t.heap) (hS : va_S A0 H0 H locs) (hA : ∀ q, q < H.size → A1 q → A0 q) (hf : ∀ q, free q → A0 q) (hL : ∀ q ∈ L, free q.base) (hF : va_F A1 st₀ t) :
    H.size ≤ T'.heap.size ∧ (∀ q : Nat, q < H.size → ¬ A1 q → T'.heap[q]? = H[q]?) ∧ va_S A0 H0 T'.heap (locs ++ L) := by
  obtain ⟨hz, hk⟩ := hF
  rw [h0] at hz hk
  exact ⟨by rw [e1]; exact hz, fun q h1 h2 => by rw [e1]; exact hk q h1 h2,
    ⟨Nat.le_trans hS.1 (by rw [e1]; exact hz), fun q h1 h2 => by rw [e1, hk q (Nat.lt_of_lt_of_le h1 hS.1) (fun z => h2 (hA q (Nat.lt_of_lt_of_le h1 hS.1) z))]; exact hS.2.1 q h1 h2, fun q hq => by
      rcases List.mem_append.mp hq with h | h
      · exact hS.2.2 q h
      · exact hf _ (hL q h)⟩⟩
theorem vx_calli {S SX : Type} {post : Int32 → S → Prop} {px : SX → Prop} {B : S → State → Prop} {BX : String → SX → State → Prop} {AX : Nat → Prop} (hr : vx_Run p l e R s m args below meth c H locs cells slots mc ms (F0 m pc ls st0) rest (va_Qi post B A1 a) (vx_X px BX AX) free) (hS : va_S A0 H0 H locs) (hA : ∀ q, q < H.size → A1 q → A0 q) (hf : ∀ q, free q → A0 q) (hAX : ∀ q, q < H.size → AX q → A0 q)
    (kx : ∀ (E : String) (ce : Cell) (q9 : Addr) (u : SX) (t : State) (H1 : Heap) (locs1 : List Loc), t.heap = H1 → s.vm.Alike t.vm → px u → BX E u t → H.size ≤ H1.size → (∀ q : Nat, q < H.size → ¬ AX q → H1[q]? = H[q]?) → va_S A0 H0 H1 locs1 → H1[q9]? = some ce → ce.vm = .none → s.vm.findClass E = some ce.cls → vx_W p l e R s m args below meth c H1 locs1 (cells + mc) (slots + ms) Q (F0 m pc ls rest) q9)
    (kk : ∀ (r : Int32) (u : S) (t : State) (H1 : Heap) (locs1 : List Loc), t.heap = H1 → s.vm.Alike t.vm → post r u → B u t → H.size ≤ H1.size → (∀ q : Nat, q < H.size → ¬ A1 q → H1[q]? = H[q]?) → va_S A0 H0 H1 locs1 → W p l e R s m args below meth c H1 locs1 (cells + mc) (slots + ms) Q (F0 m (pc + 3) ls (.int r :: rest))) : W p l e R s m args below meth c H locs cells slots Q (F0 m pc ls st0) := by
  intro T hT X
  rcases hr T hT X with ⟨v, st₀, t, T', L, h0, X', hL, e1, e2, ⟨⟨r, u, hv, hp, hb⟩, hF⟩, st⟩ | ⟨q, st₀, t, T', L, E, ce, h0, X', hL, e1, e2, ⟨u, hp, hb, hF⟩, hce, hcv, hcl, st⟩
  · cases hv
    obtain ⟨k1, k2, k3⟩ := vx_keep h0 e1 hS hA hf hL hF
    obtain ⟨t2, a1, b1⟩ := kk r u t T'.heap (locs ++ L) e1.symm (by rw [← e2]; exact X'.warmed.alike) hp hb k1 k2 k3 T' rfl X'
    exact ⟨t2, st t2 a1, b1⟩
  · obtain ⟨k1, k2, k3⟩ := vx_keep h0 e1 hS hAX hf hL hF
    obtain ⟨t2, a1, b1⟩ := kx E ce q u t T'.heap (locs ++ L) e1.symm (by rw [← e2]; exact X'.warmed.alike) hp hb k1 k2 k3 (by rw [e1]; exact hce) hcv hcl T' rfl X'
    exact ⟨t2, st.trans a1, b1⟩
theorem vx_calll {S SX : Type} {post : Int64 → S → Prop} {px : SX → Prop} {B : S → State → Prop} {BX : String → SX → State → Prop} {AX : Nat → Prop} (hr : vx_Run p l e R s m args below meth c H locs cells slots mc ms (F0 m pc ls st0) rest (va_Ql post B A1 a) (vx_X px BX AX) free) (hS : va_S A0 H0 H locs) (hA : ∀ q, q < H.size → A1 q → A0 q) (hf : ∀ q, free q → A0 q) (hAX : ∀ q, q < H.size → AX q → A0 q)
    (kx : ∀ (E : String) (ce : Cell) (q9 : Addr) (u : SX) (t : State) (H1 : Heap) (locs1 : List Loc), t.heap = H1 → s.vm.Alike t.vm → px u → BX E u t → H.size ≤ H1.size → (∀ q : Nat, q < H.size → ¬ AX q → H1[q]? = H[q]?) → va_S A0 H0 H1 locs1 → H1[q9]? = some ce → ce.vm = .none → s.vm.findClass E = some ce.cls → vx_W p l e R s m args below meth c H1 locs1 (cells + mc) (slots + ms) Q (F0 m pc ls rest) q9)
    (kk : ∀ (r : Int64) (u : S) (t : State) (H1 : Heap) (locs1 : List Loc), t.heap = H1 → s.vm.Alike t.vm → post r u → B u t → H.size ≤ H1.size → (∀ q : Nat, q < H.size → ¬ A1 q → H1[q]? = H[q]?) → va_S A0 H0 H1 locs1 → W p l e R s m args below meth c H1 locs1 (cells + mc) (slots + ms) Q (F0 m (pc + 3) ls (.long r :: rest))) : W p l e R s m args below meth c H locs cells slots Q (F0 m pc ls st0) := by
  intro T hT X
  rcases hr T hT X with ⟨v, st₀, t, T', L, h0, X', hL, e1, e2, ⟨⟨r, u, hv, hp, hb⟩, hF⟩, st⟩ | ⟨q, st₀, t, T', L, E, ce, h0, X', hL, e1, e2, ⟨u, hp, hb, hF⟩, hce, hcv, hcl, st⟩
  · cases hv
    obtain ⟨k1, k2, k3⟩ := vx_keep h0 e1 hS hA hf hL hF
    obtain ⟨t2, a1, b1⟩ := kk r u t T'.heap (locs ++ L) e1.symm (by rw [← e2]; exact X'.warmed.alike) hp hb k1 k2 k3 T' rfl X'
    exact ⟨t2, st t2 a1, b1⟩
  · obtain ⟨k1, k2, k3⟩ := vx_keep h0 e1 hS hAX hf hL hF
    obtain ⟨t2, a1, b1⟩ := kx E ce q u t T'.heap (locs ++ L) e1.symm (by rw [← e2]; exact X'.warmed.alike) hp hb k1 k2 k3 (by rw [e1]; exact hce) hcv hcl T' rfl X'
    exact ⟨t2, st.trans a1, b1⟩
theorem vx_callf {S SX : Type} {post : UInt32 → S → Prop} {px : SX → Prop} {B : S → State → Prop} {BX : String → SX → State → Prop} {AX : Nat → Prop} (hr : vx_Run p l e R s m args below meth c H locs cells slots mc ms (F0 m pc ls st0) rest (va_Qf post B A1 a) (vx_X px BX AX) free) (hS : va_S A0 H0 H locs) (hA : ∀ q, q < H.size → A1 q → A0 q) (hf : ∀ q, free q → A0 q) (hAX : ∀ q, q < H.size → AX q → A0 q)
    (kx : ∀ (E : String) (ce : Cell) (q9 : Addr) (u : SX) (t : State) (H1 : Heap) (locs1 : List Loc), t.heap = H1 → s.vm.Alike t.vm → px u → BX E u t → H.size ≤ H1.size → (∀ q : Nat, q < H.size → ¬ AX q → H1[q]? = H[q]?) → va_S A0 H0 H1 locs1 → H1[q9]? = some ce → ce.vm = .none → s.vm.findClass E = some ce.cls → vx_W p l e R s m args below meth c H1 locs1 (cells + mc) (slots + ms) Q (F0 m pc ls rest) q9)
    (kk : ∀ (r : UInt32) (u : S) (t : State) (H1 : Heap) (locs1 : List Loc), t.heap = H1 → s.vm.Alike t.vm → post r u → B u t → H.size ≤ H1.size → (∀ q : Nat, q < H.size → ¬ A1 q → H1[q]? = H[q]?) → va_S A0 H0 H1 locs1 → W p l e R s m args below meth c H1 locs1 (cells + mc) (slots + ms) Q (F0 m (pc + 3) ls (.float r :: rest))) : W p l e R s m args below meth c H locs cells slots Q (F0 m pc ls st0) := by
  intro T hT X
  rcases hr T hT X with ⟨v, st₀, t, T', L, h0, X', hL, e1, e2, ⟨⟨r, u, hv, hp, hb⟩, hF⟩, st⟩ | ⟨q, st₀, t, T', L, E, ce, h0, X', hL, e1, e2, ⟨u, hp, hb, hF⟩, hce, hcv, hcl, st⟩
  · cases hv
    obtain ⟨k1, k2, k3⟩ := vx_keep h0 e1 hS hA hf hL hF
    obtain ⟨t2, a1, b1⟩ := kk r u t T'.heap (locs ++ L) e1.symm (by rw [← e2]; exact X'.warmed.alike) hp hb k1 k2 k3 T' rfl X'
    exact ⟨t2, st t2 a1, b1⟩
  · obtain ⟨k1, k2, k3⟩ := vx_keep h0 e1 hS hAX hf hL hF
    obtain ⟨t2, a1, b1⟩ := kx E ce q u t T'.heap (locs ++ L) e1.symm (by rw [← e2]; exact X'.warmed.alike) hp hb k1 k2 k3 (by rw [e1]; exact hce) hcv hcl T' rfl X'
    exact ⟨t2, st.trans a1, b1⟩
theorem vx_calld {S SX : Type} {post : UInt64 → S → Prop} {px : SX → Prop} {B : S → State → Prop} {BX : String → SX → State → Prop} {AX : Nat → Prop} (hr : vx_Run p l e R s m args below meth c H locs cells slots mc ms (F0 m pc ls st0) rest (va_Qd post B A1 a) (vx_X px BX AX) free) (hS : va_S A0 H0 H locs) (hA : ∀ q, q < H.size → A1 q → A0 q) (hf : ∀ q, free q → A0 q) (hAX : ∀ q, q < H.size → AX q → A0 q)
    (kx : ∀ (E : String) (ce : Cell) (q9 : Addr) (u : SX) (t : State) (H1 : Heap) (locs1 : List Loc), t.heap = H1 → s.vm.Alike t.vm → px u → BX E u t → H.size ≤ H1.size → (∀ q : Nat, q < H.size → ¬ AX q → H1[q]? = H[q]?) → va_S A0 H0 H1 locs1 → H1[q9]? = some ce → ce.vm = .none → s.vm.findClass E = some ce.cls → vx_W p l e R s m args below meth c H1 locs1 (cells + mc) (slots + ms) Q (F0 m pc ls rest) q9)
    (kk : ∀ (r : UInt64) (u : S) (t : State) (H1 : Heap) (locs1 : List Loc), t.heap = H1 → s.vm.Alike t.vm → post r u → B u t → H.size ≤ H1.size → (∀ q : Nat, q < H.size → ¬ A1 q → H1[q]? = H[q]?) → va_S A0 H0 H1 locs1 → W p l e R s m args below meth c H1 locs1 (cells + mc) (slots + ms) Q (F0 m (pc + 3) ls (.double r :: rest))) : W p l e R s m args below meth c H locs cells slots Q (F0 m pc ls st0) := by
  intro T hT X
  rcases hr T hT X with ⟨v, st₀, t, T', L, h0, X', hL, e1, e2, ⟨⟨r, u, hv, hp, hb⟩, hF⟩, st⟩ | ⟨q, st₀, t, T', L, E, ce, h0, X', hL, e1, e2, ⟨u, hp, hb, hF⟩, hce, hcv, hcl, st⟩
  · cases hv
    obtain ⟨k1, k2, k3⟩ := vx_keep h0 e1 hS hA hf hL hF
    obtain ⟨t2, a1, b1⟩ := kk r u t T'.heap (locs ++ L) e1.symm (by rw [← e2]; exact X'.warmed.alike) hp hb k1 k2 k3 T' rfl X'
    exact ⟨t2, st t2 a1, b1⟩
  · obtain ⟨k1, k2, k3⟩ := vx_keep h0 e1 hS hAX hf hL hF
    obtain ⟨t2, a1, b1⟩ := kx E ce q u t T'.heap (locs ++ L) e1.symm (by rw [← e2]; exact X'.warmed.alike) hp hb k1 k2 k3 (by rw [e1]; exact hce) hcv hcl T' rfl X'
    exact ⟨t2, st.trans a1, b1⟩
theorem vx_callv {S SX : Type} {post : S → Prop} {px : SX → Prop} {B : S → State → Prop} {BX : String → SX → State → Prop} {AX : Nat → Prop} (hr : vx_Run p l e R s m args below meth c H locs cells slots mc ms (F0 m pc ls st0) rest (va_Qv post B A1 a) (vx_X px BX AX) free) (hS : va_S A0 H0 H locs) (hA : ∀ q, q < H.size → A1 q → A0 q) (hf : ∀ q, free q → A0 q) (hAX : ∀ q, q < H.size → AX q → A0 q)
    (kx : ∀ (E : String) (ce : Cell) (q9 : Addr) (u : SX) (t : State) (H1 : Heap) (locs1 : List Loc), t.heap = H1 → s.vm.Alike t.vm → px u → BX E u t → H.size ≤ H1.size → (∀ q : Nat, q < H.size → ¬ AX q → H1[q]? = H[q]?) → va_S A0 H0 H1 locs1 → H1[q9]? = some ce → ce.vm = .none → s.vm.findClass E = some ce.cls → vx_W p l e R s m args below meth c H1 locs1 (cells + mc) (slots + ms) Q (F0 m pc ls rest) q9)
    (kk : ∀ (u : S) (t : State) (H1 : Heap) (locs1 : List Loc), t.heap = H1 → s.vm.Alike t.vm → post u → B u t → H.size ≤ H1.size → (∀ q : Nat, q < H.size → ¬ A1 q → H1[q]? = H[q]?) → va_S A0 H0 H1 locs1 → W p l e R s m args below meth c H1 locs1 (cells + mc) (slots + ms) Q (F0 m (pc + 3) ls (rest))) : W p l e R s m args below meth c H locs cells slots Q (F0 m pc ls st0) := by
  intro T hT X
  rcases hr T hT X with ⟨v, st₀, t, T', L, h0, X', hL, e1, e2, ⟨⟨u, hv, hp, hb⟩, hF⟩, st⟩ | ⟨q, st₀, t, T', L, E, ce, h0, X', hL, e1, e2, ⟨u, hp, hb, hF⟩, hce, hcv, hcl, st⟩
  · cases hv
    obtain ⟨k1, k2, k3⟩ := vx_keep h0 e1 hS hA hf hL hF
    obtain ⟨t2, a1, b1⟩ := kk u t T'.heap (locs ++ L) e1.symm (by rw [← e2]; exact X'.warmed.alike) hp hb k1 k2 k3 T' rfl X'
    exact ⟨t2, st t2 a1, b1⟩
  · obtain ⟨k1, k2, k3⟩ := vx_keep h0 e1 hS hAX hf hL hF
    obtain ⟨t2, a1, b1⟩ := kx E ce q u t T'.heap (locs ++ L) e1.symm (by rw [← e2]; exact X'.warmed.alike) hp hb k1 k2 k3 (by rw [e1]; exact hce) hcv hcl T' rfl X'
    exact ⟨t2, st.trans a1, b1⟩
/-- caught by the row x of this method's table; the rows ahead don't take it -/
theorem vx_catch {own name : String} {E : String} {ce : Cell} {q : Addr} (hown : s.vm.findClass own = some m.cls) (pre : List ExceptionTableEntry) (x : ExceptionTableEntry) (suf : List ExceptionTableEntry) (hsplit : c.exceptionTable.toList = pre ++ x :: suf)
    (hpass : ∀ z ∈ pre, covers z pc = false ∨ (z.catchType ≠ 0 ∧ ∃ nm : String, (Cond.classLink own z.catchType nm).before args s = true ∧ va_Nc E nm s)) (hx : covers x pc = true) (h0 : x.catchType ≠ 0)
    (hlink : (Cond.classLink own x.catchType name).before args s = true) (hcast : (Cond.castable E name).before args s = true) (hcell : H[q]? = some ce) (hv : ce.vm = .none) (hcl : s.vm.findClass E = some ce.cls)
    (kk : W p l e R s m args below meth c H locs cells slots Q (F0 m x.handlerPc ls [.ref q])) : vx_W p l e R s m args below meth c H locs cells slots Q (F0 m pc ls rest) q := sorry
end Rows
section Ends
variable {p : Program} {l : Launch} {e : Env} {R : Room} {s : State} {m : MethodId} {args : Array Value} {below : List Frame} {meth : Method} {c : Code} {H : Heap} {locs : List Loc} {cells slots : Nat} {Q : State → Prop}
variable {mc ms : Nat} {free : Addr → Prop} {A0 A1 : Nat → Prop} {H0 : Heap} {a : Array Value} {ls : Array Slot} {st0 rest : List Value}
variable {Qc : Array Value → State → Outcome → State → Prop} {XC : String → State → State → Prop}
/-- what a body that may throw owes at its end -/
def vx_MQ (below : List Frame) (Qc : Array Value → State → Outcome → State → Prop) (XC : String → State → State → Prop) (a : Array Value) (s : State) (mc ms : Nat) (free : Addr → Prop) : State → Prop := fun t =>
  ∃ o, t.status = .running ∧ Ended t below o ∧ vx_Q Qc XC mc ms free a s o t
theorem vx_ret {g : JFrame} {mc ms : Nat} (k : W p l e R s m args below meth c H locs cells slots (MQ below Qc args s mc ms free) g) : W p l e R s m args below meth c H locs cells slots (vx_MQ below Qc XC args s mc ms free) g := by
  intro T hT X
  obtain ⟨t, a1, o, b1, b2, b3, b4⟩ := k T hT X
  exact ⟨t, a1, o, b1, b2, Or.inl ⟨b3, b4⟩⟩
/-- not caught here: it goes on to the caller -/
theorem vx_widen {g : JFrame} {q : Addr} {k n : Nat} (h1 : cells ≤ k) (h2 : slots ≤ n) (kk : vx_W p l e R s m args below meth c H locs k n Q g q) : vx_W p l e R s m args below meth c H locs cells slots Q g q := fun T hT X => kk T hT (stand_widen X h1 h2)
theorem vx_out {pc : Nat} {E : String} {ce : Cell} {q : Addr} {mc ms : Nat} (hout : ∀ x ∈ c.exceptionTable.toList, covers x pc = false) (hlocks : meth.locks = false) (hcell : H[q]? = some ce) (hv : ce.vm = .none) (hcl : s.vm.findClass E = some ce.cls)
    (hx : ∀ t : State, t.heap = H → s.vm.Alike t.vm → XC E s t) (hf : ∀ z ∈ locs, free z.base) (hc : cells ≤ mc) (hs : slots ≤ ms) :
    vx_W p l e R s m args below meth c H locs cells slots (vx_MQ below Qc XC args s mc ms free) (F0 m pc ls rest) q := by
  intro T hT X
  obtain ⟨st1, hrun, hend, hW, hsm⟩ := X.leaveThrown q (g := F0 m pc ls rest) rfl rfl rfl hout hlocks
  have hcell9 : (T.setFrames (.throwing q :: below)).heap[q]? = some ce := by
    show T.heap[q]? = some ce
    rw [hT]; exact hcell
  exact ⟨_, st1, .threw q, hrun, hend, Or.inr ⟨q, rfl, E, ce, locs, hx _ hT hW.alike, hcell9, hv, hcl, hW, hsm.mono hc hs, hf⟩⟩
theorem vx_frame {U : State} {k n : Nat} (h : s.sameButNew ({ U with vm := s.vm } : State) locs k n) : s.heap.size ≤ U.heap.size ∧ ∀ q : Nat, q < s.heap.size → (∀ z ∈ locs, z.base ≠ q) → U.heap[q]? = s.heap[q]? := by
  obtain ⟨-, h2, -, -, -, h6⟩ := h
  refine ⟨h2, fun q hq hz => ?_⟩
  obtain ⟨c9, e1, e2, e3, e4⟩ := h6 q _ (Array.getElem?_eq_getElem hq)
  have hs : c9.slots = (s.heap[q]).slots := Array.ext_getElem? fun i => e4 i fun hm => hz _ hm rfl
  have h9 : c9 = s.heap[q] := by
    rw [hs] at e2
    exact e2
  have e5 : U.heap[q]? = some c9 := e1
  rw [e5, h9, Array.getElem?_eq_getElem hq]
/-- the words of a throw but the four that speak of the heap -/
def vx_no (w : Cond) : Bool := decide (w ≠ .isRef (.static Bundle.tN "UNASSIGNED_STACK" Bundle.steD)) && decide (w ≠ .isRef (.static Bundle.tN "SUPPRESSED_SENTINEL" Bundle.listD)) && decide (w ≠ .laysStatic Bundle.tN "UNASSIGNED_STACK" Bundle.steD) && decide (w ≠ .laysStatic Bundle.tN "SUPPRESSED_SENTINEL" Bundle.listD)
def vx_at0 (own : String) (ic : Nat) (X : String) (names : List String) : List Cond := (Bundle.ownAtoms0 own ic X names).filter vx_no
def vx_atS (own : String) (ic : Nat) (X : String) (names : List String) : List Cond := (Bundle.ownAtoms own ic X names).filter vx_no
/-- a word that the tables alone decide, or a good one -/
def vx_ot (w : Cond) : Bool := w.onTables || goodWord w
theorem vx_ot_at {args a' : Array Value} {s U : State} {w : Cond} (hW : s.WarmedH U.vm) (hvm : s.vm = U.vm) (hg : vx_ot w = true) (h : w.before args s = true) : w.before a' U = true := by
  simp only [vx_ot, Bool.or_eq_true] at hg
  rcases hg with hg | hg
  · exact va_tabs hg hvm h
  · exact word_at hW (good_of_word hg) h
/-- a list's words: the good ones out of the method's own list, the others by premises of their own -/
theorem vx_hat {args : Array Value} {s : State} {L B : List Cond} (h1 : ∀ w ∈ L.filter goodWord, w.before args s = true) (h2 : ∀ w ∈ L.filter (fun w => !goodWord w), w ∈ B) (h3 : ∀ w ∈ B, w.before args s = true) : ∀ w ∈ L, w.before args s = true := by
  intro w hw
  by_cases g : goodWord w = true
  · exact h1 w (List.mem_filter.mpr ⟨hw, g⟩)
  · refine h3 w (h2 w (List.mem_filter.mpr ⟨hw, ?_⟩))
    show (!goodWord w) = true
    cases hgw : goodWord w
    · rfl
    · exact absurd hgw g
theorem vx_c {args : Array Value} {s : State} {w : Cond} {B : List Cond} (h : w.before args s = true) (t : ∀ w ∈ B, w.before args s = true) : ∀ w' ∈ w :: B, w'.before args s = true := fun w' h' => (List.mem_cons.mp h').elim (fun e => by rw [e]; exact h) (t w')
theorem vx_n {args : Array Value} {s : State} : ∀ w ∈ ([] : List Cond), w.before args s = true := fun _ h => nomatch h
theorem vx_own {args : Array Value} {s : State} {L : List Cond} (h1 : ∀ w ∈ L.filter vx_no, w.before args s = true)
    (hU : (Cond.isRef (.static Bundle.tN "UNASSIGNED_STACK" Bundle.steD)).before args s = true) (hN : (Cond.isRef (.static Bundle.tN "SUPPRESSED_SENTINEL" Bundle.listD)).before args s = true)
    (lU : (Cond.laysStatic Bundle.tN "UNASSIGNED_STACK" Bundle.steD).before args s = true) (lN : (Cond.laysStatic Bundle.tN "SUPPRESSED_SENTINEL" Bundle.listD).before args s = true) : ∀ w ∈ L, w.before args s = true := by
  intro w hw
  by_cases e1 : w = .isRef (.static Bundle.tN "UNASSIGNED_STACK" Bundle.steD)
  · rw [e1]; exact hU
  · by_cases e2 : w = .isRef (.static Bundle.tN "SUPPRESSED_SENTINEL" Bundle.listD)
    · rw [e2]; exact hN
    · by_cases e3 : w = .laysStatic Bundle.tN "UNASSIGNED_STACK" Bundle.steD
      · rw [e3]; exact lU
      · by_cases e4 : w = .laysStatic Bundle.tN "SUPPRESSED_SENTINEL" Bundle.listD
        · rw [e4]; exact lN
        · exact h1 w (List.mem_filter.mpr ⟨hw, by unfold vx_no; rw [decide_eq_true e1, decide_eq_true e2, decide_eq_true e3, decide_eq_true e4]; rfl⟩)
/-- where a static field lies, its class's statics cell in H -/
def vx_L (C n d : String) (A : Nat → Prop) (U : State) (H : Heap) : Prop := ∃ (c : ClassId) (k : Class) (i : Nat) (f : Field) (a : Nat) (cell : Cell), U.vm.findClass C = some c ∧ U.fieldFound? C n d = some (c, k, i, f) ∧ f.isStatic = true ∧ k.statics = some a ∧ H[a]? = some cell ∧ cell.vm.isStatics = true ∧ cell.cls = c ∧ f.slot < cell.slots.size ∧ k.staticTypes[f.slot]? = some f.type ∧ ¬ A a
theorem vx_L.moved {C n d : String} {A : Nat → Prop} {u U : State} {H : Heap} (hvm : u.vm.Alike U.vm) (h : vx_L C n d A u H) : vx_L C n d A U H := by
  obtain ⟨c, k, i, f, a, cell, h1, h2, h3, h4, h5, h6, h7, h8, h9, h10⟩ := h
  obtain ⟨k', hi', he⟩ := State.fieldFound?_setVm hvm h2
  exact ⟨c, k', i, f, a, cell, by rw [hvm.findClass]; exact h1, hi', h3, by rw [he]; exact h4, h5, h6, h7, h8, by rw [he]; exact h9, h10⟩
theorem vx_L.kept {C n d : String} {A : Nat → Prop} {U : State} {H H1 : Heap} (h : vx_L C n d A U H) (hq : ∀ a : Nat, a < H.size → ¬ A a → H1[a]? = H[a]?) : vx_L C n d A U H1 := by
  obtain ⟨c, k, i, f, a, cell, h1, h2, h3, h4, h5, h6, h7, h8, h9, h10⟩ := h
  exact ⟨c, k, i, f, a, cell, h1, h2, h3, h4, by rw [hq a (Array.getElem?_eq_some_iff.mp h5).1 h10]; exact h5, h6, h7, h8, h9, h10⟩
theorem vx_L.narrow {C n d : String} {A B : Nat → Prop} {U : State} {H : Heap} (h : vx_L C n d A U H) (hAB : ∀ q, B q → A q) : vx_L C n d B U H := by
  obtain ⟨c, k, i, f, a, cell, h1, h2, h3, h4, h5, h6, h7, h8, h9, h10⟩ := h
  exact ⟨c, k, i, f, a, cell, h1, h2, h3, h4, h5, h6, h7, h8, h9, fun z => h10 (hAB _ z)⟩
theorem vx_L.word {C n d : String} {A : Nat → Prop} {s : State} {args : Array Value} (h : vx_L C n d A s s.heap) : (Cond.laysStatic C n d).before args s = true := by
  obtain ⟨c, k, i, f, a, cell, h1, h2, h3, h4, h5, h6, h7, h8, h9, -⟩ := h
  show (Cond.laysStatic C n d).holds args s none s [] = true
  exact Cond.laysStatic_of h1 h2 h3 h4 h5 h6 h7 h8 h9
/-- .. and what it holds: null or some reference -/
def vx_Zq (C n d : String) (A : Nat → Prop) (U : State) (H : Heap) : Prop := va_Zq C n d A U H ∧ vx_L C n d A U H
theorem vx_Zq.moved {C n d : String} {A : Nat → Prop} {u U : State} {H : Heap} (hvm : u.vm.Alike U.vm) (h : vx_Zq C n d A u H) : vx_Zq C n d A U H := ⟨va_Zq.moved hvm h.1, vx_L.moved hvm h.2⟩
theorem vx_Zq.kept {C n d : String} {A : Nat → Prop} {U : State} {H H1 : Heap} (h : vx_Zq C n d A U H) (hq : ∀ a : Nat, a < H.size → ¬ A a → H1[a]? = H[a]?) : vx_Zq C n d A U H1 := ⟨va_Zq.kept h.1 hq, vx_L.kept h.2 hq⟩
theorem vx_Zq.narrow {C n d : String} {A B : Nat → Prop} {U : State} {H : Heap} (h : vx_Zq C n d A U H) (hAB : ∀ q, B q → A q) : vx_Zq C n d B U H := ⟨va_Zq.narrow h.1 hAB, vx_L.narrow h.2 hAB⟩
theorem vx_Zqof {args : Array Value} {s : State} {C n d : String} {A : Nat → Prop} (hl : (Cond.laysStatic C n d).before args s = true) (hini : (Cond.initialized C).before args s = true) (h : (Cond.isRef (.static C n d)).before args s = true) (hA : ∀ a : Nat, a < s.heap.size → ¬ A a) : vx_Zq C n d A s s.heap := by
  refine ⟨va_Zqof hl hini h hA, ?_⟩
  obtain ⟨c, k, i, f, a, cell, h1, h2, h3, h4, h5, h6, h7, h8, h9⟩ := Cond.laysStatic_spec hl
  exact ⟨c, k, i, f, a, cell, h1, h2, h3, h4, h5, h6, h7, h8, h9, hA a (Array.getElem?_eq_some_iff.mp h5).1⟩
theorem vx_isRef {C n d : String} {v : Value} {A : Nat → Prop} {s : State} {args : Array Value} (h : va_Z C n d v A s s.heap) (hv : v.isRef = true) : (Cond.isRef (.static C n d)).before args s = true := by
  obtain ⟨cf, kf, fi, f, a, cell, h1, h2, h3, h4, h5, h6, h7, -⟩ := h
  have he : (Term.static C n d).eval args s none [] s = some v := by
    simp [Term.eval, State.fieldNamed?, h1, h2, h4, h5, h6, h7]
  simp only [Cond.before, Cond.holds, Cond.value, he]
  cases v <;> simp_all [Value.isRef]
theorem vx_isRefq {C n d : String} {A : Nat → Prop} {s : State} {args : Array Value} (h : va_Zq C n d A s s.heap) : (Cond.isRef (.static C n d)).before args s = true := by
  rcases h with h | ⟨t, h⟩
  · exact vx_isRef h rfl
  · exact vx_isRef h rfl
/-- the same frame, seen from here: as if the method were called anew in this heap -/
theorem vx_rebase {T : State} (X : Stand p l e R s m args below meth c T locs cells slots) {R' : Room} (hf : R'.frames ≤ R.frames) (hl : R'.locals ≤ R.locals) (hc : cells + R'.cells ≤ R.cells) (hs : slots + R'.slots ≤ R.slots) :
    Stand p l e R' ((T.setVm s.vm).setFrames (.invoking m args :: below)) m args below meth c T [] 0 0 := by
  have htop : (T.setVm s.vm).topJava?.isSome := X.here.top
  have hF : ((T.setVm s.vm).setFrames (.invoking m args :: below)).frames = .invoking m args :: below := State.frames_setFrames _ (State.cur_lt_of_top htop)
  obtain ⟨g₀, hg0⟩ := Option.isSome_iff_exists.mp htop
  obtain ⟨r, hr⟩ := State.topJava?_eq_some.mp hg0
  have hl9 : e.platform.stackLimits (T.setVm s.vm).me = e.platform.stackLimits s.me := X.limits
  have hb9 : (T.setVm s.vm).me.stackBytes = s.me.stackBytes := X.bytes
  refine ⟨X.admits, X.cas, X.clock, hF, ?_, X.hears, X.method, X.code, X.here, X.tail, X.warmed, ?_, ?_, ?_⟩
  · have h := X.room
    have hU : ((T.setVm s.vm).setFrames (.invoking m args :: below)).localsInUse = s.localsInUse := by
      rw [State.localsInUse_invoking hF (meth := meth) (c := c) X.method X.code, State.localsInUse_invoking X.frames X.method X.code]
    simp only [State.hasRoom, Bool.and_eq_true, decide_eq_true_eq] at h ⊢
    obtain ⟨⟨⟨⟨h1, h2, h3, h4, h5, h6⟩, h7⟩, h8⟩, h9⟩ := h
    rw [X.frames, List.length_cons] at h2 h3
    have q1 := X.heapSize
    have q2 := X.used
    simp only [hF, hU, List.length_cons, State.stackLimits_setFrames, State.stackBytes_setFrames, hl9, hb9]
    refine ⟨⟨⟨⟨by omega, by omega, by omega, by omega, by omega, h6⟩, ?_⟩, ?_⟩, X.book⟩
    · show T.heap.size + R'.cells ≤ e.platform.maxCells
      omega
    · show T.slotsUsed + R'.slots ≤ e.platform.maxSlots
      omega
  · rw [State.stackLimits_setFrames]; rfl
  · rw [State.stackBytes_setFrames]; rfl
  · refine ⟨?_, Nat.le_refl _, Nat.le_refl _, ?_, ?_, fun a c9 h9 => ⟨c9, h9, rfl, rfl, fun _ _ => rfl⟩⟩
    · obtain ⟨t, ht, -⟩ := State.frames_cons hr
      show T.setVm s.vm = { ((T.setVm s.vm).setFrames (.invoking m args :: below)).setFrames (T.setVm s.vm).frames with heap := T.heap, slotsUsed := T.slotsUsed }
      rw [State.setFrames_setFrames, State.setFrames_self ht]
      rfl
    · show T.slotsUsed = T.slotsUsed + ((T.heap.toList.drop T.heap.size).map (·.slots.size)).sum
      rw [List.drop_eq_nil_of_le (Nat.le_of_eq Array.length_toList)]
      rfl
    · show ((T.heap.toList.drop T.heap.size).map (·.slots.size)).sum ≤ 0
      rw [List.drop_eq_nil_of_le (Nat.le_of_eq Array.length_toList)]
      exact Nat.le_refl _
/-- 'throw new E()': new; dup; invokespecial; athrow -/
theorem vx_throw0 {cc : ByteArray} {pc : Nat} (hexec : p.tables.exec = Jvm.exec) (hb : c.code = cc) (hl : l.stackTraces = false) {own cls : String} {names : List String} {ik ic mc ms : Nat} {A : Nat → Prop}
    (hown : s.vm.findClass own = some m.cls) (hcls : Bundle.fit cls = true) (hnames : ∀ n ∈ names, Bundle.fit n = true)
    (hk : (Cond.classLink own ik cls).before args s = true) (hini : (Cond.initialized cls).before args s = true) (hat : ∀ w ∈ vx_at0 own ic cls names, w.before args s = true)
    (hgood : ∀ w ∈ Cond.classLink own ik cls :: Cond.initialized cls :: vx_at0 own ic cls names, vx_ot w = true)
    (hU : vx_Zq Bundle.tN "UNASSIGNED_STACK" Bundle.steD A s s.heap) (hN : vx_Zq Bundle.tN "SUPPRESSED_SENTINEL" Bundle.listD A s s.heap) (hS : va_S A s.heap H locs) (hsize : ls.size = c.maxLocals)
    (d0 : decode cc pc = .ok (.new ik, 3)) (d3 : decode cc (pc + 3) = .ok (.dup, 1)) (d4 : decode cc (pc + 4) = .ok (.invokespecial ic, 3)) (d7 : decode cc (pc + 7) = .ok (.athrow, 1))
    (hout : ∀ x ∈ c.exceptionTable.toList, covers x (pc + 7) = false)
    (hRframes : names.length + 3 < R.frames) (hRlocals : (rest.map fun v => v.category).sum + (13 * (names.length + 1) + 42) ≤ R.locals) (hRcells : cells + 1 ≤ R.cells) (hRslots : slots + 6 ≤ R.slots) (hlocks : meth.locks = false)
    (hx : ∀ t : State, s.vm.Alike t.vm → H.size ≤ t.heap.size → (∀ q : Nat, q < H.size → t.heap[q]? = H[q]?) → XC cls s t)
    (hf : ∀ z ∈ locs, free z.base) (hc : cells + 1 ≤ mc) (hs : slots + 6 ≤ ms) :
    W p l e R s m args below meth c H locs cells slots (vx_MQ below Qc XC args s mc ms free) (F0 m pc ls rest) := by
  intro T hT X
  have htr : e.platform.stackTraces = false := (show e.platform.stackTraces = l.stackTraces by rw [X.admits.platform]).trans hl
  have Y := vx_rebase X (R' := { frames := R.frames, locals := R.locals, cells := 1, slots := 6 }) (Nat.le_refl _) (Nat.le_refl _) hRcells hRslots
  obtain ⟨s', hA⟩ : ∃ z, z = (T.setVm s.vm).setFrames (.invoking m args :: below) := ⟨_, rfl⟩
  rw [← hA] at Y
  have hvm : s'.vm = s.vm := by rw [hA]; rfl
  have hhp : s'.heap = H := by rw [hA]; exact hT
  have hW0 : s.WarmedH s'.vm := by rw [hvm]; exact State.WarmedH.refl s
  have hat' : ∀ w ∈ vx_at0 own ic cls names, w.before args s' = true := fun w hw => vx_ot_at hW0 hvm.symm (hgood w (List.mem_cons_of_mem _ (List.mem_cons_of_mem _ hw))) (hat w hw)
  have hk' : (Cond.classLink own ik cls).before args s' = true := vx_ot_at hW0 hvm.symm (hgood _ List.mem_cons_self) hk
  have hini' : (Cond.initialized cls).before args s' = true := vx_ot_at hW0 hvm.symm (hgood _ (List.mem_cons_of_mem _ List.mem_cons_self)) hini
  have hU' : vx_Zq Bundle.tN "UNASSIGNED_STACK" Bundle.steD A s' s'.heap := by rw [hhp]; exact vx_Zq.moved hW0.alike (hU.kept hS.2.1)
  have hN' : vx_Zq Bundle.tN "SUPPRESSED_SENTINEL" Bundle.listD A s' s'.heap := by rw [hhp]; exact vx_Zq.moved hW0.alike (hN.kept hS.2.1)
  have h : ∀ w ∈ Bundle.ownAtoms0 own ic cls names, w.before args s' = true := vx_own hat' (vx_isRefq hU'.1) (vx_isRefq hN'.1) hU'.2.word hN'.2.word
  have hown' : s'.vm.findClass own = some m.cls := by rw [hvm]; exact hown
  have hins : (Cond.instantiable cls 6).before args s' = true := h _ (by simp [Bundle.ownAtoms0])
  obtain ⟨vm₁, cX, kX, hfX, hkX, -, -, X₁, st1⟩ := Y.newCold hexec (own := own) (C := cls) (index := ik) (n := 6) hown' hk' hins hini'
    (g := F0 m pc ls rest) rfl (by rw [hb]; exact d0) (Nat.le_refl _) (Nat.le_refl _)
  generalize hT1 : (T.setVm vm₁).pushCell { cls := cX, slots := kX.instanceTypes.map defaultValue, vm := .none } = T1 at X₁ st1
  have hcat : (Value.ref T.heap.size).category = 1 := rfl
  have hcellA : T1.heap[T.heap.size]? = some (freshCell cX kX) := by rw [← hT1]; exact State.heap_pushCell_size _ _
  have d3' : decode c.code (pc + 3) = .ok (.dup, 1) := by rw [hb]; exact d3
  obtain ⟨U, hsteps, hrun, hend, hW, hsame, ce, hce, hO⟩ := X₁.ctorThrow0 hexec htr (own := own) (cls := cls) (names := names) (ic := ic) hown' hcls hnames h (fun x hx => nomatch hx) hfX hkX hcellA (by rw [hhp, hT]; exact Nat.le_refl _)
    (g := { method := m, pc := pc + 4, locals := ls, stack := .ref T.heap.size :: .ref T.heap.size :: rest, locked := none }) rfl hsize rfl rfl (rest := rest) rfl
    (by rw [hb]; exact d4) (by rw [hb]; exact d7) hout hRframes (by simp only [List.map_cons, List.sum_cons, hcat]; omega) hlocks
  obtain ⟨f1, f2⟩ := vx_frame hsame
  rw [hhp] at f1 f2
  have hWs : s.WarmedH U.vm := State.WarmedH.trans hW0 hW
  have hcl : s.vm.findClass cls = some ce.cls := by
    have h9 := hO.cls
    rw [hvm] at h9
    exact h9
  have hall : s.sameButNew ({ U with vm := s.vm } : State) locs mc ms := by
    subst hA
    obtain ⟨e1, e2⟩ := hsame
    rw [State.setFrames_setFrames] at e1
    have h2 : (T.setVm s.vm).sameButNew ({ U with vm := s.vm } : State) [] (0 + 1) (0 + 6) := ⟨e1, e2⟩
    have h3 := X.same.trans h2
    rw [List.append_nil] at h3
    exact h3.mono hc hs
  refine ⟨U, ?_, .threw T.heap.size, hrun, hend, Or.inr ⟨T.heap.size, rfl, cls, ce, locs, hx U hWs.alike f1 (fun q hq => f2 q hq (fun z hz => nomatch hz)), hce, hO.vm, hcl, hWs, hall, hf⟩⟩
  refine st1 _ ?_
  show Steps p.tables e below (T1.setTop { method := m, pc := pc + 3, locals := ls, stack := .ref T.heap.size :: rest, locked := none }) _
  jvm_step X₁.here [X₁.here.top, hexec, d3', Value.category]
  exact hsteps
/-- 'throw new E("text")': new; dup; ldc; invokespecial; athrow -/
theorem vx_throwS {cc : ByteArray} {pc : Nat} (hexec : p.tables.exec = Jvm.exec) (hb : c.code = cc) (hl : l.stackTraces = false) {own cls text : String} {names : List String} {ik is ic mc ms sa : Nat} {A : Nat → Prop}
    (hown : s.vm.findClass own = some m.cls) (hcls : Bundle.fit cls = true) (hnames : ∀ n ∈ names, Bundle.fit n = true)
    (hk : (Cond.classLink own ik cls).before args s = true) (hini : (Cond.initialized cls).before args s = true) (hstr : vk_R own is text sa s) (hat : ∀ w ∈ vx_atS own ic cls names, w.before args s = true)
    (hgood : ∀ w ∈ Cond.classLink own ik cls :: Cond.initialized cls :: vx_atS own ic cls names, vx_ot w = true)
    (hU : vx_Zq Bundle.tN "UNASSIGNED_STACK" Bundle.steD A s s.heap) (hN : vx_Zq Bundle.tN "SUPPRESSED_SENTINEL" Bundle.listD A s s.heap) (hS : va_S A s.heap H locs) (hsize : ls.size = c.maxLocals)
    (d0 : decode cc pc = .ok (.new ik, 3)) (d3 : decode cc (pc + 3) = .ok (.dup, 1)) (d4 : decode cc (pc + 4) = .ok (.ldc is, 2)) (d6 : decode cc (pc + 6) = .ok (.invokespecial ic, 3)) (d9 : decode cc (pc + 9) = .ok (.athrow, 1))
    (hout : ∀ x ∈ c.exceptionTable.toList, covers x (pc + 9) = false)
    (hRframes : names.length + 3 < R.frames) (hRlocals : (rest.map fun v => v.category).sum + (13 * (names.length + 1) + 43) ≤ R.locals) (hRcells : cells + 1 ≤ R.cells) (hRslots : slots + 6 ≤ R.slots) (hlocks : meth.locks = false)
    (hx : ∀ t : State, s.vm.Alike t.vm → H.size ≤ t.heap.size → (∀ q : Nat, q < H.size → t.heap[q]? = H[q]?) → XC cls s t)
    (hf : ∀ z ∈ locs, free z.base) (hc : cells + 1 ≤ mc) (hs : slots + 6 ≤ ms) :
    W p l e R s m args below meth c H locs cells slots (vx_MQ below Qc XC args s mc ms free) (F0 m pc ls rest) := by
  intro T hT X
  have htr : e.platform.stackTraces = false := (show e.platform.stackTraces = l.stackTraces by rw [X.admits.platform]).trans hl
  have Y := vx_rebase X (R' := { frames := R.frames, locals := R.locals, cells := 1, slots := 6 }) (Nat.le_refl _) (Nat.le_refl _) hRcells hRslots
  obtain ⟨s', hA⟩ : ∃ z, z = (T.setVm s.vm).setFrames (.invoking m args :: below) := ⟨_, rfl⟩
  rw [← hA] at Y
  have hvm : s'.vm = s.vm := by rw [hA]; rfl
  have hhp : s'.heap = H := by rw [hA]; exact hT
  have hW0 : s.WarmedH s'.vm := by rw [hvm]; exact State.WarmedH.refl s
  have hat' : ∀ w ∈ vx_atS own ic cls names, w.before args s' = true := fun w hw => vx_ot_at hW0 hvm.symm (hgood w (List.mem_cons_of_mem _ (List.mem_cons_of_mem _ hw))) (hat w hw)
  have hk' : (Cond.classLink own ik cls).before args s' = true := vx_ot_at hW0 hvm.symm (hgood _ List.mem_cons_self) hk
  have hini' : (Cond.initialized cls).before args s' = true := vx_ot_at hW0 hvm.symm (hgood _ (List.mem_cons_of_mem _ List.mem_cons_self)) hini
  have hU' : vx_Zq Bundle.tN "UNASSIGNED_STACK" Bundle.steD A s' s'.heap := by rw [hhp]; exact vx_Zq.moved hW0.alike (hU.kept hS.2.1)
  have hN' : vx_Zq Bundle.tN "SUPPRESSED_SENTINEL" Bundle.listD A s' s'.heap := by rw [hhp]; exact vx_Zq.moved hW0.alike (hN.kept hS.2.1)
  have h : ∀ w ∈ Bundle.ownAtoms own ic cls names, w.before args s' = true := vx_own hat' (vx_isRefq hU'.1) (vx_isRefq hN'.1) hU'.2.word hN'.2.word
  have hown' : s'.vm.findClass own = some m.cls := by rw [hvm]; exact hown
  have hins : (Cond.instantiable cls 6).before args s' = true := h _ (by simp [Bundle.ownAtoms])
  obtain ⟨vm₁, cX, kX, hfX, hkX, -, -, X₁, st1⟩ := Y.newCold hexec (own := own) (C := cls) (index := ik) (n := 6) hown' hk' hins hini'
    (g := F0 m pc ls rest) rfl (by rw [hb]; exact d0) (Nat.le_refl _) (Nat.le_refl _)
  generalize hT1 : (T.setVm vm₁).pushCell { cls := cX, slots := kX.instanceTypes.map defaultValue, vm := .none } = T1 at X₁ st1
  have hcat : (Value.ref T.heap.size).category = 1 := rfl
  have hcellA : T1.heap[T.heap.size]? = some (freshCell cX kX) := by rw [← hT1]; exact State.heap_pushCell_size _ _
  have d3' : decode c.code (pc + 3) = .ok (.dup, 1) := by rw [hb]; exact d3
  have d4' : decode c.code (pc + 4) = .ok (.ldc is, 2) := by rw [hb]; exact d4
  have hstr' : vk_R own is text sa s' := vk_R.warm hW0 hstr
  obtain ⟨U, hsteps, hrun, hend, hW, hsame, ce, hce, hO⟩ := X₁.ctorThrowS hexec htr (own := own) (cls := cls) (names := names) (ic := ic) hown' hcls hnames h (fun x hx => nomatch hx) hfX hkX hcellA (by rw [hhp, hT]; exact Nat.le_refl _) (msg := .ref sa) rfl
    (g := { method := m, pc := pc + 6, locals := ls, stack := .ref sa :: .ref T.heap.size :: .ref T.heap.size :: rest, locked := none }) rfl hsize rfl rfl (rest := rest) rfl
    (by rw [hb]; exact d6) (by rw [hb]; exact d9) hout hRframes (by simp only [List.map_cons, List.sum_cons, hcat]; omega) hlocks
  obtain ⟨f1, f2⟩ := vx_frame hsame
  rw [hhp] at f1 f2
  have hWs : s.WarmedH U.vm := State.WarmedH.trans hW0 hW
  have hcl : s.vm.findClass cls = some ce.cls := by
    have h9 := hO.cls
    rw [hvm] at h9
    exact h9
  have hall : s.sameButNew ({ U with vm := s.vm } : State) locs mc ms := by
    subst hA
    obtain ⟨e1, e2⟩ := hsame
    rw [State.setFrames_setFrames] at e1
    have h2 : (T.setVm s.vm).sameButNew ({ U with vm := s.vm } : State) [] (0 + 1) (0 + 6) := ⟨e1, e2⟩
    have h3 := X.same.trans h2
    rw [List.append_nil] at h3
    exact h3.mono hc hs
  refine ⟨U, ?_, .threw T.heap.size, hrun, hend, Or.inr ⟨T.heap.size, rfl, cls, ce, locs, hx U hWs.alike f1 (fun q hq => f2 q hq (fun z hz => nomatch hz)), hce, hO.vm, hcl, hWs, hall, hf⟩⟩
  refine st1 _ ?_
  show Steps p.tables e below (T1.setTop { method := m, pc := pc + 3, locals := ls, stack := .ref T.heap.size :: rest, locked := none }) _
  jvm_step X₁.here [X₁.here.top, hexec, d3', Value.category]
  exact X₁.ldcString hexec (own := own) (text := text) (index := is) (a := sa) hown' hstr'.1 hstr'.2
    (g := { method := m, pc := pc + 4, locals := ls, stack := .ref T.heap.size :: .ref T.heap.size :: rest, locked := none }) rfl d4' _ hsteps
/-- 'throw new E("text")', the text by a wide index -/
theorem vx_throwSW {cc : ByteArray} {pc : Nat} (hexec : p.tables.exec = Jvm.exec) (hb : c.code = cc) (hl : l.stackTraces = false) {own cls text : String} {names : List String} {ik is ic mc ms sa : Nat} {A : Nat → Prop}
    (hown : s.vm.findClass own = some m.cls) (hcls : Bundle.fit cls = true) (hnames : ∀ n ∈ names, Bundle.fit n = true)
    (hk : (Cond.classLink own ik cls).before args s = true) (hini : (Cond.initialized cls).before args s = true) (hstr : vk_R own is text sa s) (hat : ∀ w ∈ vx_atS own ic cls names, w.before args s = true)
    (hgood : ∀ w ∈ Cond.classLink own ik cls :: Cond.initialized cls :: vx_atS own ic cls names, vx_ot w = true)
    (hU : vx_Zq Bundle.tN "UNASSIGNED_STACK" Bundle.steD A s s.heap) (hN : vx_Zq Bundle.tN "SUPPRESSED_SENTINEL" Bundle.listD A s s.heap) (hS : va_S A s.heap H locs) (hsize : ls.size = c.maxLocals)
    (d0 : decode cc pc = .ok (.new ik, 3)) (d3 : decode cc (pc + 3) = .ok (.dup, 1)) (d4 : decode cc (pc + 4) = .ok (.ldc_w is, 3)) (d7 : decode cc (pc + 7) = .ok (.invokespecial ic, 3)) (d10 : decode cc (pc + 10) = .ok (.athrow, 1))
    (hout : ∀ x ∈ c.exceptionTable.toList, covers x (pc + 10) = false)
    (hRframes : names.length + 3 < R.frames) (hRlocals : (rest.map fun v => v.category).sum + (13 * (names.length + 1) + 43) ≤ R.locals) (hRcells : cells + 1 ≤ R.cells) (hRslots : slots + 6 ≤ R.slots) (hlocks : meth.locks = false)
    (hx : ∀ t : State, s.vm.Alike t.vm → H.size ≤ t.heap.size → (∀ q : Nat, q < H.size → t.heap[q]? = H[q]?) → XC cls s t)
    (hf : ∀ z ∈ locs, free z.base) (hc : cells + 1 ≤ mc) (hs : slots + 6 ≤ ms) :
    W p l e R s m args below meth c H locs cells slots (vx_MQ below Qc XC args s mc ms free) (F0 m pc ls rest) := by
  intro T hT X
  have htr : e.platform.stackTraces = false := (show e.platform.stackTraces = l.stackTraces by rw [X.admits.platform]).trans hl
  have Y := vx_rebase X (R' := { frames := R.frames, locals := R.locals, cells := 1, slots := 6 }) (Nat.le_refl _) (Nat.le_refl _) hRcells hRslots
  obtain ⟨s', hA⟩ : ∃ z, z = (T.setVm s.vm).setFrames (.invoking m args :: below) := ⟨_, rfl⟩
  rw [← hA] at Y
  have hvm : s'.vm = s.vm := by rw [hA]; rfl
  have hhp : s'.heap = H := by rw [hA]; exact hT
  have hW0 : s.WarmedH s'.vm := by rw [hvm]; exact State.WarmedH.refl s
  have hat' : ∀ w ∈ vx_atS own ic cls names, w.before args s' = true := fun w hw => vx_ot_at hW0 hvm.symm (hgood w (List.mem_cons_of_mem _ (List.mem_cons_of_mem _ hw))) (hat w hw)
  have hk' : (Cond.classLink own ik cls).before args s' = true := vx_ot_at hW0 hvm.symm (hgood _ List.mem_cons_self) hk
  have hini' : (Cond.initialized cls).before args s' = true := vx_ot_at hW0 hvm.symm (hgood _ (List.mem_cons_of_mem _ List.mem_cons_self)) hini
  have hU' : vx_Zq Bundle.tN "UNASSIGNED_STACK" Bundle.steD A s' s'.heap := by rw [hhp]; exact vx_Zq.moved hW0.alike (hU.kept hS.2.1)
  have hN' : vx_Zq Bundle.tN "SUPPRESSED_SENTINEL" Bundle.listD A s' s'.heap := by rw [hhp]; exact vx_Zq.moved hW0.alike (hN.kept hS.2.1)
  have h : ∀ w ∈ Bundle.ownAtoms own ic cls names, w.before args s' = true := vx_own hat' (vx_isRefq hU'.1) (vx_isRefq hN'.1) hU'.2.word hN'.2.word
  have hown' : s'.vm.findClass own = some m.cls := by rw [hvm]; exact hown
  have hins : (Cond.instantiable cls 6).before args s' = true := h _ (by simp [Bundle.ownAtoms])
  obtain ⟨vm₁, cX, kX, hfX, hkX, -, -, X₁, st1⟩ := Y.newCold hexec (own := own) (C := cls) (index := ik) (n := 6) hown' hk' hins hini'
    (g := F0 m pc ls rest) rfl (by rw [hb]; exact d0) (Nat.le_refl _) (Nat.le_refl _)
  generalize hT1 : (T.setVm vm₁).pushCell { cls := cX, slots := kX.instanceTypes.map defaultValue, vm := .none } = T1 at X₁ st1
  have hcat : (Value.ref T.heap.size).category = 1 := rfl
  have hcellA : T1.heap[T.heap.size]? = some (freshCell cX kX) := by rw [← hT1]; exact State.heap_pushCell_size _ _
  have d3' : decode c.code (pc + 3) = .ok (.dup, 1) := by rw [hb]; exact d3
  have d4' : decode c.code (pc + 4) = .ok (.ldc_w is, 3) := by rw [hb]; exact d4
  have hstr' : vk_R own is text sa s' := vk_R.warm hW0 hstr
  obtain ⟨U, hsteps, hrun, hend, hW, hsame, ce, hce, hO⟩ := X₁.ctorThrowS hexec htr (own := own) (cls := cls) (names := names) (ic := ic) hown' hcls hnames h (fun x hx => nomatch hx) hfX hkX hcellA (by rw [hhp, hT]; exact Nat.le_refl _) (msg := .ref sa) rfl
    (g := { method := m, pc := pc + 7, locals := ls, stack := .ref sa :: .ref T.heap.size :: .ref T.heap.size :: rest, locked := none }) rfl hsize rfl rfl (rest := rest) rfl
    (by rw [hb]; exact d7) (by rw [hb]; exact d10) hout hRframes (by simp only [List.map_cons, List.sum_cons, hcat]; omega) hlocks
  obtain ⟨f1, f2⟩ := vx_frame hsame
  rw [hhp] at f1 f2
  have hWs : s.WarmedH U.vm := State.WarmedH.trans hW0 hW
  have hcl : s.vm.findClass cls = some ce.cls := by
    have h9 := hO.cls
    rw [hvm] at h9
    exact h9
  have hall : s.sameButNew ({ U with vm := s.vm } : State) locs mc ms := by
    subst hA
    obtain ⟨e1, e2⟩ := hsame
    rw [State.setFrames_setFrames] at e1
    have h2 : (T.setVm s.vm).sameButNew ({ U with vm := s.vm } : State) [] (0 + 1) (0 + 6) := ⟨e1, e2⟩
    have h3 := X.same.trans h2
    rw [List.append_nil] at h3
    exact h3.mono hc hs
  refine ⟨U, ?_, .threw T.heap.size, hrun, hend, Or.inr ⟨T.heap.size, rfl, cls, ce, locs, hx U hWs.alike f1 (fun q hq => f2 q hq (fun z hz => nomatch hz)), hce, hO.vm, hcl, hWs, hall, hf⟩⟩
  refine st1 _ ?_
  show Steps p.tables e below (T1.setTop { method := m, pc := pc + 3, locals := ls, stack := .ref T.heap.size :: rest, locked := none }) _
  jvm_step X₁.here [X₁.here.top, hexec, d3', Value.category]
  exact X₁.ldcStringW hexec (own := own) (text := text) (index := is) (a := sa) hown' hstr'.1 hstr'.2
    (g := { method := m, pc := pc + 4, locals := ls, stack := .ref T.heap.size :: .ref T.heap.size :: rest, locked := none }) rfl d4' _ hsteps
end Ends
section Bodies
variable {l : Launch}
theorem vx_ofW {y : MethodName} {ws ws' : List Cond} {rm : Room} {Pc : Array Value → State → Prop} {Qc : Array Value → State → Outcome → State → Prop} {XC : String → State → State → Prop} {mc ms : Nat} {free : Addr → Prop} {cc : ByteArray} {maxL : Nat} {ret : Option FieldType}
    (hy : plainName y.cls = true) (hw : ws = Cond.code y cc maxL ret :: ws')
    (body : ∀ p e s m args below meth c s₁, BodyLoose p l y (headSpec ws rm) cc maxL ret e s m args below meth c s₁ → c.maxLocals = maxL → (∀ x ∈ c.exceptionTable.toList, False) → Pc args s →
      W p l e (headSpec ws rm).room s m args below meth c s.heap [] 0 0 (vx_MQ below Qc XC args s mc ms free) (entryFrame m args maxL)) : vx_Met l y ws rm Pc Qc XC mc ms free := by
  refine MetFree.of_bodyS (code := cc) (maxLocals := maxL) (ret := ret) hy ?_ ?_
  · intro args s m h hn
    obtain ⟨meth, c, h1, h2, h3, h4, h5, h6, -, -⟩ := Cond.code_spec hn (atoms_spec (ws := ws) h _ (by rw [hw]; exact List.mem_cons_self))
    exact ⟨meth, c, h1, h2, h3, h4, h5, h6⟩
  · intro p e s m args below meth c s₁ B hml hP _
    have hh0 : s₁.heap = s.heap := by rw [B.state]; rfl
    have ht : ∀ x ∈ c.exceptionTable.toList, False := by
      obtain ⟨meth9, c9, h1, h2, -, -, -, -, h7, -⟩ := Cond.code_spec B.named (atoms_spec (ws := ws) B.pre _ (by rw [hw]; exact List.mem_cons_self))
      cases Option.some.inj (h1.symm.trans B.method)
      cases Option.some.inj (h2.symm.trans (Stand.of_body B).code)
      intro x hx
      rw [Array.isEmpty_iff.mp h7] at hx
      cases hx
    obtain ⟨t, a1, o, b1, b2, b3⟩ := body p e s m args below meth c s₁ B hml ht hP s₁ hh0 (Stand.of_body B)
    exact ⟨t, o, a1, b1, b2, b3⟩
/-- the table of a body with handlers -/
theorem vx_table {p : Program} {x y : MethodName} {S : Spec} {cc bytes : ByteArray} {maxL maxL' : Nat} {ret ret' : Option FieldType} {e : Env} {s s₁ : State} {m : MethodId} {args : Array Value} {below : List Frame} {meth : Method} {c : Code} {hh : List (Nat × Nat × Nat × Nat)}
    (B : BodyLoose p l y S cc maxL ret e s m args below meth c s₁) (h : (Cond.codeWith y bytes maxL' ret' hh).before args s = true) : c.exceptionTable.toList = tableOf hh := by
  obtain ⟨m9, meth9, c9, hn9, h1, h2, -, -, h6, -⟩ := Cond.codeWith_spec h
  cases Option.some.inj (hn9.symm.trans B.named)
  cases Option.some.inj (h1.symm.trans B.method)
  cases Option.some.inj (h2.symm.trans (Stand.of_body B).code)
  rw [← h6, table_eq]
end Bodies
end VXA
/-! ===== END ===== -/
/-! ===== BEGIN a static call of a method with an exception table ===== -/
section VXS
variable {p : Program} {l : Launch} {e : Env} {R : Room} {s : State} {m : MethodId} {args : Array Value} {below : List Frame} {meth : Method} {c : Code} {T : State} {H : Heap} {locs : List Loc} {cells slots : Nat}
abbrev vx_CSW (R : Room) (s : State) (args : Array Value) (own : String) (index : Nat) (y : MethodName) (bytes : ByteArray) (maxL : Nat) (ret : Option FieldType) (hh : List (Nat × Nat × Nat × Nat)) (ws : List Cond) (rm : Room) (mc ms n : Nat) : Prop :=
  (rm.cells = mc ∧ rm.slots = ms ∧ rm.frames + 1 ≤ R.frames ∧ 8 + (maxL + 11) + rm.locals ≤ R.locals ∧ (∀ w ∈ ws, ∀ (a' : Array Value) (U : State), s.WarmedH U.vm → w.before a' U = true) ∧ Cond.codeWith y bytes maxL ret hh ∈ ws) ∧
  (Cond.codeWith y bytes maxL ret hh).before args s = true ∧ (Cond.initialized y.cls).before args s = true ∧ (y.cls ≠ "java/lang/invoke/MethodHandle" ∧ y.cls ≠ "java/lang/invoke/VarHandle") ∧
  (∀ sig, parseMethodDescriptor y.desc = some sig → n = sig.parameters.length) ∧ (Cond.methodLink own index y).before args s = true ∧ (Cond.static y).before args s = true
theorem vx_cwSW {own : String} {index maxL mc ms : Nat} {y : MethodName} {bytes : ByteArray} {ret : Option FieldType} {hh : List (Nat × Nat × Nat × Nat)} {Ts ws ws' : List Cond} {rm : Room} (n : Nat) (ht : ∀ w ∈ Ts, w.before args s = true) (hT : GoodIn Ts (va_wsS own index y ws)) (hw : ws = Cond.codeWith y bytes maxL ret hh :: ws') (hrc : rm.cells = mc) (hrs : rm.slots = ms)
    (hd : y.cls ≠ "java/lang/invoke/MethodHandle" ∧ y.cls ≠ "java/lang/invoke/VarHandle" ∧ (parseMethodDescriptor y.desc).map (fun d => d.parameters.length) = some n) (hR : rm.frames + 1 ≤ R.frames ∧ 8 + (maxL + 11) + rm.locals ≤ R.locals) :
    vx_CSW R s args own index y bytes maxL ret hh ws rm mc ms n := by
  have ok : ∀ w ∈ va_wsS own index y ws, w.before args s = true := fun w h => ht w (hT w h).1
  have hG : GoodIn Ts ws := fun w h => hT w (by unfold va_wsS; exact List.mem_append_right _ h)
  have hc : Cond.codeWith y bytes maxL ret hh ∈ ws := by rw [hw]; exact List.mem_cons_self
  refine ⟨⟨hrc, hrs, hR.1, hR.2, pay_in ht hG, hc⟩, ht _ (hG _ hc).1, ok _ (by simp [va_wsS]), ⟨hd.1, hd.2.1⟩, fun sig h => ?_, ok _ (by simp [va_wsS]), ok _ (by simp [va_wsS])⟩
  have h2 := hd.2.2
  rw [h] at h2
  exact (Option.some.inj h2).symm
theorem vx_callSW (X : Stand p l e R s m args below meth c T locs cells slots) (hexec : p.tables.exec = Jvm.exec) {own : String} {index : Nat} {y : MethodName} {bytes : ByteArray} {maxL : Nat} {ret : Option FieldType} {hh : List (Nat × Nat × Nat × Nat)}
    (hown : s.vm.findClass own = some m.cls) (hlink : (Cond.methodLink own index y).before args s = true) (hstat : (Cond.static y).before args s = true) (hinit : (Cond.initialized y.cls).before args s = true)
    (hcode : (Cond.codeWith y bytes maxL ret hh).before args s = true) (hy : y.cls ≠ "java/lang/invoke/MethodHandle" ∧ y.cls ≠ "java/lang/invoke/VarHandle")
    {W9 : Nat} {Pre : Pt → Array Value → Prop} {Post : Pt → Array Value → Option Value → Pt → Prop} (hK : Back l R p e below s args y 3 W9 Pre Post)
    {g : JFrame} (hg : g.method = m) (hsize : g.locals.size = c.maxLocals) {argsL rest : List Value} (hlen : ∀ sig, parseMethodDescriptor y.desc = some sig → argsL.length = sig.parameters.length)
    (hstack : g.stack = argsL.reverse ++ rest) (hW : 2 * g.monitorRoom + (rest.map fun v => v.category).sum ≤ W9) (hdg : decode c.code g.pc = .ok (.invokestatic index, 3))
    (hpre : ∀ vm₁, s.WarmedH vm₁ → Pre ⟨T.setVm vm₁, locs, cells, slots⟩ argsL.toArray) :
    ∃ (v : Option Value) (vm₁ : Vm) (B : Pt), s.WarmedH vm₁ ∧ Stand p l e R s m args below meth c B.U B.locs B.cells B.slots ∧ Post ⟨T.setVm vm₁, locs, cells, slots⟩ argsL.toArray v B ∧
      ∀ target, Steps p.tables e below (B.U.setTop { g with pc := g.pc + 3, stack := v.toList ++ rest }) target → Steps p.tables e below (T.setTop g) target := by
  obtain ⟨mk, methM, cM, hnamed, hmethM, -, -, -, -, -, -, hsigM⟩ := Cond.codeWith_spec hcode
  have hstatic : methM.isStatic = true := Cond.static_spec hnamed hmethM hstat
  obtain ⟨kP, hkP, -⟩ := className_of_methodNamed hnamed
  have hinitP : kP.init = .initialized := Cond.initialized_spec (findClass_of_methodNamed hnamed) hkP hinit
  obtain ⟨vm₁, X₁, hstep₁⟩ := X.invokestatic hexec hown hlink hnamed hmethM hstatic hkP hinitP hy (g := g) hg (argsL := argsL) (rest := rest) (hlen _ hsigM) hstack hdg
  obtain ⟨v, B, X', hpost, hsteps⟩ := hK m meth c ⟨T.setVm vm₁, locs, cells, slots⟩ { g with stack := rest } (.invokestatic index) mk argsL.toArray X₁ hg hsize hdg hW (X₁.named hnamed) (hpre vm₁ X₁.warmed)
  exact ⟨v, vm₁, B, X₁.warmed, X', hpost, fun target h => hstep₁ _ fun acts => by rw [doInvoke_state]; exact hsteps.trans h⟩
theorem vx_runSW {y : MethodName} {bytes cc : ByteArray} {maxL nL mc ms n index : Nat} {ret : Option FieldType} {hh : List (Nat × Nat × Nat × Nat)} {ws : List Cond} {rm : Room} {Pc : Array Value → State → Prop} {Qc : Array Value → State → Outcome → State → Prop} {free : Addr → Prop} {Ts : List Cond} {own : String} {As rest : List Value} {g : JFrame}
    (S : CallFix p m c cc nL s args Ts own) (hM : Met l y ws rm Pc Qc mc ms free) (cw : vx_CSW R s args own index y bytes maxL ret hh ws rm mc ms n) (hp : PreS s H Pc As)
    (hg : g.method = m) (hn : As.length = n) (hsize : g.locals.size = nL) (hstack : g.stack = As.reverse ++ rest) (hW : 2 * g.monitorRoom + (rest.map fun v => v.category).sum ≤ 8) (hdg : decode cc g.pc = .ok (.invokestatic index, 3)) (hf : cells + mc ≤ R.cells ∧ slots + ms ≤ R.slots) :
    va_Run p l e R s m args below meth c H locs cells slots mc ms g rest (Qc As.toArray) (free) := by
  obtain ⟨⟨hrc, hrs, hfr, hlo, hws, hcw⟩, hcode, hini, hy, hlen, hl, hstt⟩ := cw
  have hK : Back l R p e below s args y 3 8 (PreOf R mc ms Pc) (PostOf Qc mc ms free) := va_backW (hh := hh) (bytes := bytes) (maxL := maxL) (ret := ret) hM hp.1 hrc hrs hfr hlo hws hcw (fun a' U hW => word_at hW (Or.inl (by first | rfl | simp [Cond.onTables, Cond.keeps, Cond.steady])) hini)
  obtain ⟨hx, hb, hml, ho, -⟩ := S
  intro T hT X
  obtain ⟨v, vm₁, ⟨U', l2, c2, s2⟩, hW₁, X', ⟨g', mk, t, L, e1, e2, hq, h1, hL, h2, h3⟩, st⟩ := vx_callSW X hx (hh := hh) (bytes := bytes) (maxL := maxL) (ret := ret) ho hl hstt hini hcode hy hK hg (hsize.trans hml.symm) (argsL := As) (rest := rest) (fun sig h => hn.trans (hlen sig h)) hstack hW (by rw [hb]; exact hdg)
    (fun vm₁ hW₁ => ⟨hf.1, hf.2, hp.2 (T.setVm vm₁) hT hW₁⟩)
  dsimp only [Pt.U, Pt.locs, Pt.cells, Pt.slots] at X' e1 e2 h1 h2 h3 st
  subst h1; subst h2; subst h3
  exact ⟨v, (T.setVm vm₁).calling g' mk As.toArray, t, U', L, hT, X', hL, e1, e2, hq, st⟩
/-- not caught here, past rows that name other classes: it goes on to the caller -/
theorem vx_outP {p : Program} {l : Launch} {e : Env} {R : Room} {s : State} {m : MethodId} {args : Array Value} {below : List Frame} {meth : Method} {c : Code} {H : Heap} {locs : List Loc} {cells slots : Nat} {free : Addr → Prop} {ls : Array Slot} {rest : List Value} {Qc : Array Value → State → Outcome → State → Prop} {XC : String → State → State → Prop}
    {pc : Nat} {own E : String} {ce : Cell} {q : Addr} {mc ms : Nat} (hown : s.vm.findClass own = some m.cls) (hlocks : meth.locks = false)
    (hpass : ∀ z ∈ c.exceptionTable.toList, covers z pc = false ∨ (z.catchType ≠ 0 ∧ ∃ nm : String, (Cond.classLink own z.catchType nm).before args s = true ∧ va_Nc E nm s)) (hcell : H[q]? = some ce) (hv : ce.vm = .none) (hcl : s.vm.findClass E = some ce.cls)
    (hx : ∀ t : State, t.heap = H → s.vm.Alike t.vm → XC E s t) (hf : ∀ z ∈ locs, free z.base) (hc : cells ≤ mc) (hs : slots ≤ ms) :
    vx_W p l e R s m args below meth c H locs cells slots (vx_MQ below Qc XC args s mc ms free) (F0 m pc ls rest) q := sorry
/-- a thing of a world lies in the heap -/
theorem vx_lt {D : va_G} {cl : List vw_C} {ws : va_W} {H1 : Heap} (h : va_P D cl ws H1) {k : Nat} {q : Nat × va_E} (hk : ws[k]? = some q) : q.1 < H1.size := (h k q hk).lt
end VXS
/-! ===== END ===== -/
/-! ===== BEGIN methods with a table of their own: called by a name, returning or throwing ===== -/
section VXH
/-! vx_backW, vx_callVX, vx_callSX, vx_callVW, vx_runVW, vx_runVX, vx_runSX, vx_ofWH follow the same proofs as their sisters above (Free/Laws.lean, Shelf42/LK1.lean); vx_outP calls Shelf42/NT130.lean (outThrough). -/
section
variable {l : Launch} {R : Room} {p : Program} {e : Env} {below : List Frame} {s : State} {sargs : Array Value} {y : MethodName} {len W9 : Nat}
theorem vx_backW {ws : List Cond} {rm : Room} {Pc : Array Value → State → Prop} {Qc : Array Value → State → Outcome → State → Prop} {XC : String → State → State → Prop} {mc ms : Nat} {free : Addr → Prop} {bytes : ByteArray} {maxL : Nat} {ret : Option FieldType} {hh : List (Nat × Nat × Nat × Nat)}
    (hM : vx_Met l y ws rm Pc Qc XC mc ms free) (hblind : FrameBlind Pc) (hrc : rm.cells = mc) (hrs : rm.slots = ms)
    (hframes : rm.frames + 1 ≤ R.frames) (hlocals : W9 + (maxL + 11) + rm.locals ≤ R.locals)
    (hws : ∀ w ∈ ws, ∀ a' U, s.WarmedH U.vm → w.before a' U = true) (hcode : Cond.codeWith y bytes maxL ret hh ∈ ws) (hinit : ∀ a' U, s.WarmedH U.vm → (Cond.initialized y.cls).before a' U = true) :
    vx_Back l R p e below s sargs y len W9 (PreOf R mc ms Pc) (PostOf Qc mc ms free) (vx_Post XC mc ms free) := by
  intro m meth c A g ig mk a X hg hsize hdg hW hn hp
  have h1 : (headSpec ws rm).pre.before a A.U = true := atoms_intro fun w hw => hws w hw _ _ X.warmed
  have h2 : (Cond.codeWith y bytes maxL ret hh).before a A.U = true := hws _ hcode _ _ X.warmed
  have h3 : (Cond.initialized y.cls).before a A.U = true := hinit _ _ X.warmed
  have h4 : A.cells + (headSpec ws rm).room.cells ≤ R.cells := by rw [show (headSpec ws rm).room.cells = mc from hrc]; exact hp.1
  have h5 : A.slots + (headSpec ws rm).room.slots ≤ R.slots := by rw [show (headSpec ws rm).room.slots = ms from hrs]; exact hp.2.1
  have hPc : Pc a (A.U.calling g mk a) := hblind _ _ _ _ hp.2.2
  obtain ⟨U, Ls, c0, s0⟩ := A
  dsimp only [Pt.U, Pt.locs, Pt.cells, Pt.slots] at h1 h2 h3 h4 h5 X hn hPc ⊢
  obtain ⟨m9, methY, cY, hn9, hmY, hcY, -, hlY, -⟩ := Cond.codeWith_spec h2
  cases Option.some.inj (hn9.symm.trans hn)
  obtain ⟨kY, hkY, -⟩ := className_of_methodNamed hn
  have hinitY : kY.init = .initialized := Cond.initialized_spec (findClass_of_methodNamed hn) hkY h3
  have h : At U g.method c below := by rw [hg]; exact X.here
  have hlocals9 : W9 + (maxL + 11) + (headSpec ws rm).room.locals ≤ R.locals := hlocals
  have happ : (headSpec ws rm).appliesLoose y e.platform (U.calling g mk a) = true :=
    Spec.appliesLoose_calling (g := g) h hdg hn hkY hinitY
      (X.room_calling (g := g) (R' := (headSpec ws rm).room) hsize hmY hcY hframes (by rw [hlY]; omega) h4 h5) h1
  obtain ⟨mid, hmid⟩ := h.above
  have hfr : (U.setTop g).frames = (.java g :: mid) ++ below := by rw [State.frames_setTop' g h.top, hmid]; rfl
  obtain ⟨o, s₂, hsteps, -, hend, hq⟩ := Steps.callFree hM p X.admits X.cas X.clock (acts := []) hfr happ hPc trivial
  have hq' : vx_Q Qc XC mc ms free a (U.calling g mk a) o s₂ := hq
  rw [State.frames_setTop' g h.top] at hend
  obtain ⟨g₀, hg0⟩ := Option.isSome_iff_exists.mp h.top
  obtain ⟨r, hr⟩ := State.topJava?_eq_some.mp hg0
  have hr' : (({ U with heap := s₂.heap, slotsUsed := s₂.slotsUsed } : State).setVm s₂.vm).frames = .java g₀ :: r := hr
  rcases hq' with ⟨hqc, L, hfe, hL⟩ | ⟨q, rfl, E, ce, L, hx, hce, hcv, hcl, hW₂, hsm, hL⟩
  · obtain ⟨⟨v, rfl⟩, hW₂, e2, q2, q3, q4, q5, q6⟩ := id hfe
    have e3 : s₂ = ({ (U.calling g mk a).setFrames s₂.frames with heap := s₂.heap, slotsUsed := s₂.slotsUsed } : State).setVm s₂.vm := by
      have : s₂ = ({ s₂ with vm := (U.calling g mk a).vm } : State).setVm s₂.vm := rfl
      rw [e2] at this
      exact this
    obtain ⟨c₂, i₂, len₂, hc₂, hd₂, hf₂⟩ := hend
    have hW' : U.WarmedH s₂.vm := hW₂
    have hcc : c₂ = c := by
      have h1 : s₂.code? g.method = U.code? g.method := by
        rw [State.code?_eq, State.code?_eq, hW'.alike.method?]
      exact Option.some.inj (hc₂.symm.trans (h1.trans h.code))
    subst hcc
    have hlen : len₂ = len := by rw [hdg] at hd₂; cases hd₂; rfl
    subst hlen
    have hs₂ : s₂ = (({ U with heap := s₂.heap, slotsUsed := s₂.slotsUsed } : State).setVm s₂.vm).setTop { g with pc := g.pc + len₂, stack := v.toList ++ g.stack } := by
      refine e3.trans ?_
      rw [hf₂, State.calling_eq h.top, State.setFrames_setFrames, State.setTop_of_frames _ hr', hr]
      rfl
    have hsame : U.sameButNew ({ U with heap := s₂.heap, slotsUsed := s₂.slotsUsed } : State) L mc ms := by
      refine ⟨?_, q2, q3, q4, q5, q6⟩
      obtain ⟨t, ht, -⟩ := State.frames_cons hr
      show ({ U with heap := s₂.heap, slotsUsed := s₂.slotsUsed } : State) = { U.setFrames U.frames with heap := s₂.heap, slotsUsed := s₂.slotsUsed }
      rw [State.setFrames_self ht]
    subst hg
    refine Or.inl ⟨v, ⟨(({ U with heap := s₂.heap, slotsUsed := s₂.slotsUsed } : State).setVm s₂.vm), Ls ++ L, c0 + mc, s0 + ms⟩,
      ⟨X.admits, X.cas, X.clock, X.frames, X.room, X.hears, X.method, X.code, (X.here.setHeapUsed s₂.heap s₂.slotsUsed).setVm hW'.alike, X.tail, State.WarmedH.trans X.warmed hW', X.limits, X.bytes, X.same.trans (hsame.setVm s.vm)⟩,
      ⟨g, mk, s₂, L, rfl, rfl, hqc, rfl, hL, rfl, rfl⟩, ?_⟩
    show Steps p.tables e below _ ((({ U with heap := s₂.heap, slotsUsed := s₂.slotsUsed } : State).setVm s₂.vm).setTop { g with pc := g.pc + len₂, stack := v.toList ++ g.stack })
    rw [← hs₂]
    exact hsteps
  · obtain ⟨e2, q2, q3, q4, q5, q6⟩ := id hsm
    have e3 : s₂ = ({ (U.calling g mk a).setFrames s₂.frames with heap := s₂.heap, slotsUsed := s₂.slotsUsed } : State).setVm s₂.vm := by
      have : s₂ = ({ s₂ with vm := (U.calling g mk a).vm } : State).setVm s₂.vm := rfl
      rw [e2] at this
      exact this
    have hf₂ : s₂.frames = .throwing q :: .java g :: U.frames.tail := hend
    have hW' : U.WarmedH s₂.vm := hW₂
    have hs₂ : s₂ = ((({ U with heap := s₂.heap, slotsUsed := s₂.slotsUsed } : State).setVm s₂.vm).setTop g).pushFrame (.throwing q) := by
      refine e3.trans ?_
      rw [hf₂, State.calling_eq h.top, State.setFrames_setFrames, State.pushFrame, State.frames_setTop _ hr', State.setTop_of_frames _ hr', State.setFrames_setFrames, hr]
      rfl
    have hsame : U.sameButNew ({ U with heap := s₂.heap, slotsUsed := s₂.slotsUsed } : State) L mc ms := by
      refine ⟨?_, q2, q3, q4, q5, q6⟩
      obtain ⟨t, ht, -⟩ := State.frames_cons hr
      show ({ U with heap := s₂.heap, slotsUsed := s₂.slotsUsed } : State) = { U.setFrames U.frames with heap := s₂.heap, slotsUsed := s₂.slotsUsed }
      rw [State.setFrames_self ht]
    subst hg
    refine Or.inr ⟨q, ⟨(({ U with heap := s₂.heap, slotsUsed := s₂.slotsUsed } : State).setVm s₂.vm), Ls ++ L, c0 + mc, s0 + ms⟩,
      ⟨X.admits, X.cas, X.clock, X.frames, X.room, X.hears, X.method, X.code, (X.here.setHeapUsed s₂.heap s₂.slotsUsed).setVm hW'.alike, X.tail, State.WarmedH.trans X.warmed hW', X.limits, X.bytes, X.same.trans (hsame.setVm s.vm)⟩,
      ⟨g, mk, s₂, L, E, ce, rfl, rfl, hx, hce, hcv, hcl, rfl, hL, rfl, rfl⟩, ?_⟩
    show Steps p.tables e below _ (((({ U with heap := s₂.heap, slotsUsed := s₂.slotsUsed } : State).setVm s₂.vm).setTop g).pushFrame (.throwing q))
    rw [← hs₂]
    exact hsteps
end
variable {p : Program} {l : Launch} {e : Env} {R : Room} {s : State} {m : MethodId} {args : Array Value} {below : List Frame} {meth : Method} {c : Code} {T : State} {H : Heap} {locs : List Loc} {cells slots : Nat}
theorem vx_callVX (X : Stand p l e R s m args below meth c T locs cells slots) (hexec : p.tables.exec = Jvm.exec) {own C : String} {index : Nat} {y : MethodName} {bytes : ByteArray} {maxL : Nat} {ret : Option FieldType} {hh : List (Nat × Nat × Nat × Nat)}
    (hown : s.vm.findClass own = some m.cls) (hlink : (Cond.methodLink own index y).before args s = true) (hinst : (Cond.instanceMethod y).before args s = true) (hsel : (Cond.selects C y y).before args s = true)
    (hcode : (Cond.codeWith y bytes maxL ret hh).before args s = true) (hy : y.cls ≠ "java/lang/invoke/MethodHandle" ∧ y.cls ≠ "java/lang/invoke/VarHandle")
    {W9 : Nat} {Pre : Pt → Array Value → Prop} {Post : Pt → Array Value → Option Value → Pt → Prop} {PostX : Pt → Array Value → Addr → Pt → Prop} (hK : vx_Back l R p e below s args y 3 W9 Pre Post PostX)
    {b : Addr} {cellB : Cell} (hcell : T.heap[b]? = some cellB) (hobj : cellB.vm.isStatics = false) (hcls : s.vm.findClass C = some cellB.cls)
    {g : JFrame} (hg : g.method = m) (hsize : g.locals.size = c.maxLocals) {argsL rest : List Value} (hlen : ∀ sig, parseMethodDescriptor y.desc = some sig → argsL.length = sig.parameters.length)
    (hstack : g.stack = argsL.reverse ++ .ref b :: rest) (hW : 2 * g.monitorRoom + (rest.map fun v => v.category).sum ≤ W9) (hdg : decode c.code g.pc = .ok (.invokevirtual index, 3))
    (hpre : ∀ vm₁, s.WarmedH vm₁ → Pre ⟨T.setVm vm₁, locs, cells, slots⟩ (Value.ref b :: argsL).toArray) :
    (∃ (v : Option Value) (vm₁ : Vm) (B : Pt), s.WarmedH vm₁ ∧ Stand p l e R s m args below meth c B.U B.locs B.cells B.slots ∧ Post ⟨T.setVm vm₁, locs, cells, slots⟩ (Value.ref b :: argsL).toArray v B ∧
      ∀ target, Steps p.tables e below (B.U.setTop { g with pc := g.pc + 3, stack := v.toList ++ rest }) target → Steps p.tables e below (T.setTop g) target) ∨
    (∃ (q : Addr) (vm₁ : Vm) (B : Pt), s.WarmedH vm₁ ∧ Stand p l e R s m args below meth c B.U B.locs B.cells B.slots ∧ PostX ⟨T.setVm vm₁, locs, cells, slots⟩ (Value.ref b :: argsL).toArray q B ∧
      Steps p.tables e below (T.setTop g) ((B.U.setTop { g with stack := rest }).pushFrame (.throwing q))) := by
  obtain ⟨mk, methM, hnamed, hmethM, hstM, habM⟩ := Cond.instanceMethod_spec hinst
  obtain ⟨m8, methM', cM, hn8, hmethM', -, -, -, -, -, -, hsigM⟩ := Cond.codeWith_spec hcode
  cases Option.some.inj (hn8.symm.trans hnamed)
  cases hmethM.symm.trans hmethM'
  obtain ⟨c2, r2, m2, q1, q2, q3, q4, kP, hkP, hkPi⟩ := Cond.selects_spec hsel
  cases hcls.symm.trans q1
  cases (State.methodFound?_of_named hnamed hy).symm.trans q2
  cases hnamed.symm.trans q3
  have hselP : selectMethod e.platform s.vm cellB.cls mk = .method mk := by rw [Launch.admits_selectMethod X.admits]; exact q4
  obtain ⟨vm₁, X₁, hstep₁⟩ := X.invokevirtual hexec hown hlink hnamed hmethM hstM hkP hkPi hy (a := b) (cell := cellB) hcell
    (fun z h => by rw [h] at hobj; cases hobj) hselP hmethM habM hkP hkPi (g := g) hg (argsL := argsL) (rest := rest) (hlen _ hsigM) hstack hdg
  rcases hK m meth c ⟨T.setVm vm₁, locs, cells, slots⟩ { g with stack := rest } (.invokevirtual index) mk (Value.ref b :: argsL).toArray X₁ hg hsize hdg hW (X₁.named hnamed) (hpre vm₁ X₁.warmed) with ⟨v, B, X', hpost, hsteps⟩ | ⟨q, B, X', hpost, hsteps⟩
  · exact Or.inl ⟨v, vm₁, B, X₁.warmed, X', hpost, fun target h => hstep₁ _ fun acts => by rw [doInvoke_state]; exact hsteps.trans h⟩
  · exact Or.inr ⟨q, vm₁, B, X₁.warmed, X', hpost, hstep₁ _ fun acts => by rw [doInvoke_state]; exact hsteps⟩
theorem vx_callSX (X : Stand p l e R s m args below meth c T locs cells slots) (hexec : p.tables.exec = Jvm.exec) {own : String} {index : Nat} {y : MethodName} {bytes : ByteArray} {maxL : Nat} {ret : Option FieldType} {hh : List (Nat × Nat × Nat × Nat)}
    (hown : s.vm.findClass own = some m.cls) (hlink : (Cond.methodLink own index y).before args s = true) (hstat : (Cond.static y).before args s = true) (hinit : (Cond.initialized y.cls).before args s = true)
    (hcode : (Cond.codeWith y bytes maxL ret hh).before args s = true) (hy : y.cls ≠ "java/lang/invoke/MethodHandle" ∧ y.cls ≠ "java/lang/invoke/VarHandle")
    {W9 : Nat} {Pre : Pt → Array Value → Prop} {Post : Pt → Array Value → Option Value → Pt → Prop} {PostX : Pt → Array Value → Addr → Pt → Prop} (hK : vx_Back l R p e below s args y 3 W9 Pre Post PostX)
    {g : JFrame} (hg : g.method = m) (hsize : g.locals.size = c.maxLocals) {argsL rest : List Value} (hlen : ∀ sig, parseMethodDescriptor y.desc = some sig → argsL.length = sig.parameters.length)
    (hstack : g.stack = argsL.reverse ++ rest) (hW : 2 * g.monitorRoom + (rest.map fun v => v.category).sum ≤ W9) (hdg : decode c.code g.pc = .ok (.invokestatic index, 3))
    (hpre : ∀ vm₁, s.WarmedH vm₁ → Pre ⟨T.setVm vm₁, locs, cells, slots⟩ argsL.toArray) :
    (∃ (v : Option Value) (vm₁ : Vm) (B : Pt), s.WarmedH vm₁ ∧ Stand p l e R s m args below meth c B.U B.locs B.cells B.slots ∧ Post ⟨T.setVm vm₁, locs, cells, slots⟩ argsL.toArray v B ∧
      ∀ target, Steps p.tables e below (B.U.setTop { g with pc := g.pc + 3, stack := v.toList ++ rest }) target → Steps p.tables e below (T.setTop g) target) ∨
    (∃ (q : Addr) (vm₁ : Vm) (B : Pt), s.WarmedH vm₁ ∧ Stand p l e R s m args below meth c B.U B.locs B.cells B.slots ∧ PostX ⟨T.setVm vm₁, locs, cells, slots⟩ argsL.toArray q B ∧
      Steps p.tables e below (T.setTop g) ((B.U.setTop { g with stack := rest }).pushFrame (.throwing q))) := by
  obtain ⟨mk, methM, cM, hnamed, hmethM, -, -, -, -, -, -, hsigM⟩ := Cond.codeWith_spec hcode
  have hstatic : methM.isStatic = true := Cond.static_spec hnamed hmethM hstat
  obtain ⟨kP, hkP, -⟩ := className_of_methodNamed hnamed
  have hinitP : kP.init = .initialized := Cond.initialized_spec (findClass_of_methodNamed hnamed) hkP hinit
  obtain ⟨vm₁, X₁, hstep₁⟩ := X.invokestatic hexec hown hlink hnamed hmethM hstatic hkP hinitP hy (g := g) hg (argsL := argsL) (rest := rest) (hlen _ hsigM) hstack hdg
  rcases hK m meth c ⟨T.setVm vm₁, locs, cells, slots⟩ { g with stack := rest } (.invokestatic index) mk argsL.toArray X₁ hg hsize hdg hW (X₁.named hnamed) (hpre vm₁ X₁.warmed) with ⟨v, B, X', hpost, hsteps⟩ | ⟨q, B, X', hpost, hsteps⟩
  · exact Or.inl ⟨v, vm₁, B, X₁.warmed, X', hpost, fun target h => hstep₁ _ fun acts => by rw [doInvoke_state]; exact hsteps.trans h⟩
  · exact Or.inr ⟨q, vm₁, B, X₁.warmed, X', hpost, hstep₁ _ fun acts => by rw [doInvoke_state]; exact hsteps⟩
theorem vx_callVW (X : Stand p l e R s m args below meth c T locs cells slots) (hexec : p.tables.exec = Jvm.exec) {own C : String} {index : Nat} {y : MethodName} {bytes : ByteArray} {maxL : Nat} {ret : Option FieldType} {hh : List (Nat × Nat × Nat × Nat)}
    (hown : s.vm.findClass own = some m.cls) (hlink : (Cond.methodLink own index y).before args s = true) (hinst : (Cond.instanceMethod y).before args s = true) (hsel : (Cond.selects C y y).before args s = true)
    (hcode : (Cond.codeWith y bytes maxL ret hh).before args s = true) (hy : y.cls ≠ "java/lang/invoke/MethodHandle" ∧ y.cls ≠ "java/lang/invoke/VarHandle")
    {W9 : Nat} {Pre : Pt → Array Value → Prop} {Post : Pt → Array Value → Option Value → Pt → Prop} (hK : Back l R p e below s args y 3 W9 Pre Post)
    {b : Addr} {cellB : Cell} (hcell : T.heap[b]? = some cellB) (hobj : cellB.vm.isStatics = false) (hcls : s.vm.findClass C = some cellB.cls)
    {g : JFrame} (hg : g.method = m) (hsize : g.locals.size = c.maxLocals) {argsL rest : List Value} (hlen : ∀ sig, parseMethodDescriptor y.desc = some sig → argsL.length = sig.parameters.length)
    (hstack : g.stack = argsL.reverse ++ .ref b :: rest) (hW : 2 * g.monitorRoom + (rest.map fun v => v.category).sum ≤ W9) (hdg : decode c.code g.pc = .ok (.invokevirtual index, 3))
    (hpre : ∀ vm₁, s.WarmedH vm₁ → Pre ⟨T.setVm vm₁, locs, cells, slots⟩ (Value.ref b :: argsL).toArray) :
    ∃ (v : Option Value) (vm₁ : Vm) (B : Pt), s.WarmedH vm₁ ∧ Stand p l e R s m args below meth c B.U B.locs B.cells B.slots ∧ Post ⟨T.setVm vm₁, locs, cells, slots⟩ (Value.ref b :: argsL).toArray v B ∧
      ∀ target, Steps p.tables e below (B.U.setTop { g with pc := g.pc + 3, stack := v.toList ++ rest }) target → Steps p.tables e below (T.setTop g) target := by
  obtain ⟨mk, methM, hnamed, hmethM, hstM, habM⟩ := Cond.instanceMethod_spec hinst
  obtain ⟨m8, methM', cM, hn8, hmethM', -, -, -, -, -, -, hsigM⟩ := Cond.codeWith_spec hcode
  cases Option.some.inj (hn8.symm.trans hnamed)
  cases hmethM.symm.trans hmethM'
  obtain ⟨c2, r2, m2, q1, q2, q3, q4, kP, hkP, hkPi⟩ := Cond.selects_spec hsel
  cases hcls.symm.trans q1
  cases (State.methodFound?_of_named hnamed hy).symm.trans q2
  cases hnamed.symm.trans q3
  have hselP : selectMethod e.platform s.vm cellB.cls mk = .method mk := by rw [Launch.admits_selectMethod X.admits]; exact q4
  obtain ⟨vm₁, X₁, hstep₁⟩ := X.invokevirtual hexec hown hlink hnamed hmethM hstM hkP hkPi hy (a := b) (cell := cellB) hcell
    (fun z h => by rw [h] at hobj; cases hobj) hselP hmethM habM hkP hkPi (g := g) hg (argsL := argsL) (rest := rest) (hlen _ hsigM) hstack hdg
  obtain ⟨v, B, X', hpost, hsteps⟩ := hK m meth c ⟨T.setVm vm₁, locs, cells, slots⟩ { g with stack := rest } (.invokevirtual index) mk (Value.ref b :: argsL).toArray X₁ hg hsize hdg hW (X₁.named hnamed) (hpre vm₁ X₁.warmed)
  exact ⟨v, vm₁, B, X₁.warmed, X', hpost, fun target h => hstep₁ _ fun acts => by rw [doInvoke_state]; exact hsteps.trans h⟩
abbrev vx_CVW (R : Room) (s : State) (args : Array Value) (own C : String) (index : Nat) (y : MethodName) (bytes : ByteArray) (maxL : Nat) (ret : Option FieldType) (hh : List (Nat × Nat × Nat × Nat)) (ws : List Cond) (rm : Room) (mc ms n : Nat) : Prop :=
  (rm.cells = mc ∧ rm.slots = ms ∧ rm.frames + 1 ≤ R.frames ∧ 8 + (maxL + 11) + rm.locals ≤ R.locals ∧ (∀ w ∈ ws, ∀ (a' : Array Value) (U : State), s.WarmedH U.vm → w.before a' U = true) ∧ Cond.codeWith y bytes maxL ret hh ∈ ws) ∧
  (Cond.codeWith y bytes maxL ret hh).before args s = true ∧ (Cond.initialized y.cls).before args s = true ∧ (y.cls ≠ "java/lang/invoke/MethodHandle" ∧ y.cls ≠ "java/lang/invoke/VarHandle") ∧
  (∀ sig, parseMethodDescriptor y.desc = some sig → n = sig.parameters.length) ∧ (Cond.methodLink own index y).before args s = true ∧ (Cond.instanceMethod y).before args s = true ∧ (Cond.selects C y y).before args s = true
theorem vx_cwVW {own C : String} {index maxL mc ms : Nat} {y : MethodName} {bytes : ByteArray} {ret : Option FieldType} {hh : List (Nat × Nat × Nat × Nat)} {Ts ws ws' : List Cond} {rm : Room} (n : Nat) (ht : ∀ w ∈ Ts, w.before args s = true) (hT : GoodIn Ts (wsV own index C y ws)) (hw : ws = Cond.codeWith y bytes maxL ret hh :: ws') (hrc : rm.cells = mc) (hrs : rm.slots = ms)
    (hd : y.cls = C ∧ y.cls ≠ "java/lang/invoke/MethodHandle" ∧ y.cls ≠ "java/lang/invoke/VarHandle" ∧ (parseMethodDescriptor y.desc).map (fun d => d.parameters.length) = some n) (hR : rm.frames + 1 ≤ R.frames ∧ 8 + (maxL + 11) + rm.locals ≤ R.locals) :
    vx_CVW R s args own C index y bytes maxL ret hh ws rm mc ms n := by
  obtain ⟨hC, hd⟩ := hd
  subst hC
  have ok : ∀ w ∈ wsV own index y.cls y ws, w.before args s = true := fun w h => ht w (hT w h).1
  have hG : GoodIn Ts ws := fun w h => hT w (by unfold wsV; exact List.mem_append_right _ h)
  have hc : Cond.codeWith y bytes maxL ret hh ∈ ws := by rw [hw]; exact List.mem_cons_self
  refine ⟨⟨hrc, hrs, hR.1, hR.2, pay_in ht hG, hc⟩, ht _ (hG _ hc).1, ok _ (by simp [wsV]), ⟨hd.1, hd.2.1⟩, fun sig h => ?_, ok _ (by simp [wsV]), ok _ (by simp [wsV]), ok _ (by simp [wsV])⟩
  have h2 := hd.2.2
  rw [h] at h2
  exact (Option.some.inj h2).symm
theorem vx_runVW {y : MethodName} {bytes cc : ByteArray} {maxL nL mc ms n index : Nat} {ret : Option FieldType} {hh : List (Nat × Nat × Nat × Nat)} {ws : List Cond} {rm : Room} {Pc : Array Value → State → Prop} {Qc : Array Value → State → Outcome → State → Prop} {free : Addr → Prop} {Ts : List Cond} {own C : String} {b : Addr} {As rest : List Value} {g : JFrame}
    (S : CallFix p m c cc nL s args Ts own) (hM : Met l y ws rm Pc Qc mc ms free) (cw : vx_CVW R s args own C index y bytes maxL ret hh ws rm mc ms n) (hp : PreV s H C b Pc As)
    (hg : g.method = m) (hn : As.length = n) (hsize : g.locals.size = nL) (hstack : g.stack = As.reverse ++ .ref b :: rest) (hW : 2 * g.monitorRoom + (rest.map fun v => v.category).sum ≤ 8) (hdg : decode cc g.pc = .ok (.invokevirtual index, 3)) (hf : cells + mc ≤ R.cells ∧ slots + ms ≤ R.slots) :
    va_Run p l e R s m args below meth c H locs cells slots mc ms g rest (Qc (Value.ref b :: As).toArray) free := by
  obtain ⟨⟨hrc, hrs, hfr, hlo, hws, hcw⟩, hcode, hini, hy, hlen, hl, hin, hse⟩ := cw
  have hK : Back l R p e below s args y 3 8 (PreOf R mc ms Pc) (PostOf Qc mc ms free) := va_backW (hh := hh) (bytes := bytes) (maxL := maxL) (ret := ret) hM hp.1 hrc hrs hfr hlo hws hcw (fun a' U hW => word_at hW (Or.inl (by first | rfl | simp [Cond.onTables, Cond.keeps, Cond.steady])) hini)
  obtain ⟨hx, hb, hml, ho, -⟩ := S
  obtain ⟨-, ⟨cellB, hcB, hoB, hclB⟩, hPc⟩ := hp
  intro T hT X
  obtain ⟨v, vm₁, ⟨U', l2, c2, s2⟩, hW₁, X', ⟨g', mk, t, L, e1, e2, hq, h1, hL, h2, h3⟩, st⟩ := vx_callVW X hx (C := C) (hh := hh) (bytes := bytes) (maxL := maxL) (ret := ret) ho hl hin hse hcode hy hK (by rw [hT]; exact hcB) hoB hclB hg (hsize.trans hml.symm) (argsL := As) (rest := rest) (fun sig h => hn.trans (hlen sig h)) hstack hW (by rw [hb]; exact hdg)
    (fun vm₁ hW₁ => ⟨hf.1, hf.2, hPc (T.setVm vm₁) hT hW₁⟩)
  dsimp only [Pt.U, Pt.locs, Pt.cells, Pt.slots] at X' e1 e2 h1 h2 h3 st
  subst h1; subst h2; subst h3
  exact ⟨v, (T.setVm vm₁).calling g' mk (Value.ref b :: As).toArray, t, U', L, hT, X', hL, e1, e2, hq, st⟩
section
variable {y : MethodName} {bytes cc : ByteArray} {maxL nL mc ms n index : Nat} {ret : Option FieldType} {ws : List Cond} {rm : Room} {Pc : Array Value → State → Prop} {Qc : Array Value → State → Outcome → State → Prop} {XC : String → State → State → Prop} {free : Addr → Prop} {Ts : List Cond} {own C : String} {b : Addr} {As rest : List Value} {g : JFrame}
theorem vx_runVX {hh : List (Nat × Nat × Nat × Nat)} (S : CallFix p m c cc nL s args Ts own) (hM : vx_Met l y ws rm Pc Qc XC mc ms free) (cw : vx_CVW R s args own C index y bytes maxL ret hh ws rm mc ms n) (hp : PreV s H C b Pc As)
    (hg : g.method = m) (hn : As.length = n) (hsize : g.locals.size = nL) (hstack : g.stack = As.reverse ++ .ref b :: rest) (hW : 2 * g.monitorRoom + (rest.map fun v => v.category).sum ≤ 8) (hdg : decode cc g.pc = .ok (.invokevirtual index, 3)) (hf : cells + mc ≤ R.cells ∧ slots + ms ≤ R.slots) :
    vx_Run p l e R s m args below meth c H locs cells slots mc ms g rest (Qc (Value.ref b :: As).toArray) XC free := by
  obtain ⟨⟨hrc, hrs, hfr, hlo, hws, hcw⟩, hcode, hini, hy, hlen, hl, hin, hse⟩ := cw
  have hK : vx_Back l R p e below s args y 3 8 (PreOf R mc ms Pc) (PostOf Qc mc ms free) (vx_Post XC mc ms free) := vx_backW (hh := hh) (bytes := bytes) (maxL := maxL) (ret := ret) hM hp.1 hrc hrs hfr hlo hws hcw (fun a' U hW => word_at hW (Or.inl (by first | rfl | simp [Cond.onTables, Cond.keeps, Cond.steady])) hini)
  obtain ⟨hx, hb, hml, ho, -⟩ := S
  obtain ⟨-, ⟨cellB, hcB, hoB, hclB⟩, hPc⟩ := hp
  intro T hT X
  rcases vx_callVX X hx (C := C) (hh := hh) (bytes := bytes) (maxL := maxL) (ret := ret) ho hl hin hse hcode hy hK (by rw [hT]; exact hcB) hoB hclB hg (hsize.trans hml.symm) (argsL := As) (rest := rest) (fun sig h => hn.trans (hlen sig h)) hstack hW (by rw [hb]; exact hdg)
    (fun vm₁ hW₁ => ⟨hf.1, hf.2, hPc (T.setVm vm₁) hT hW₁⟩) with ⟨v, vm₁, ⟨U', l2, c2, s2⟩, hW₁, X', ⟨g', mk, t, L, e1, e2, hq, h1, hL, h2, h3⟩, st⟩ | ⟨q, vm₁, ⟨U', l2, c2, s2⟩, hW₁, X', ⟨g', mk, t, L, E, ce, e1, e2, hq, hce, hcv, hcl, h1, hL, h2, h3⟩, st⟩
  · dsimp only [Pt.U, Pt.locs, Pt.cells, Pt.slots] at X' e1 e2 h1 h2 h3 st
    subst h1; subst h2; subst h3
    exact Or.inl ⟨v, (T.setVm vm₁).calling g' mk (Value.ref b :: As).toArray, t, U', L, hT, X', hL, e1, e2, hq, st⟩
  · dsimp only [Pt.U, Pt.locs, Pt.cells, Pt.slots] at X' e1 e2 h1 h2 h3 st hcl
    subst h1; subst h2; subst h3
    exact Or.inr ⟨q, (T.setVm vm₁).calling g' mk (Value.ref b :: As).toArray, t, U', L, E, ce, hT, X', hL, e1, e2, hq, hce, hcv, vx_cls hW₁ hcl, st⟩
theorem vx_runSX {hh : List (Nat × Nat × Nat × Nat)} (S : CallFix p m c cc nL s args Ts own) (hM : vx_Met l y ws rm Pc Qc XC mc ms free) (cw : vx_CSW R s args own index y bytes maxL ret hh ws rm mc ms n) (hp : PreS s H Pc As)
    (hg : g.method = m) (hn : As.length = n) (hsize : g.locals.size = nL) (hstack : g.stack = As.reverse ++ rest) (hW : 2 * g.monitorRoom + (rest.map fun v => v.category).sum ≤ 8) (hdg : decode cc g.pc = .ok (.invokestatic index, 3)) (hf : cells + mc ≤ R.cells ∧ slots + ms ≤ R.slots) :
    vx_Run p l e R s m args below meth c H locs cells slots mc ms g rest (Qc As.toArray) XC free := by
  obtain ⟨⟨hrc, hrs, hfr, hlo, hws, hcw⟩, hcode, hini, hy, hlen, hl, hstt⟩ := cw
  have hK : vx_Back l R p e below s args y 3 8 (PreOf R mc ms Pc) (PostOf Qc mc ms free) (vx_Post XC mc ms free) := vx_backW (hh := hh) (bytes := bytes) (maxL := maxL) (ret := ret) hM hp.1 hrc hrs hfr hlo hws hcw (fun a' U hW => word_at hW (Or.inl (by first | rfl | simp [Cond.onTables, Cond.keeps, Cond.steady])) hini)
  obtain ⟨hx, hb, hml, ho, -⟩ := S
  intro T hT X
  rcases vx_callSX X hx (hh := hh) (bytes := bytes) (maxL := maxL) (ret := ret) ho hl hstt hini hcode hy hK hg (hsize.trans hml.symm) (argsL := As) (rest := rest) (fun sig h => hn.trans (hlen sig h)) hstack hW (by rw [hb]; exact hdg)
    (fun vm₁ hW₁ => ⟨hf.1, hf.2, hp.2 (T.setVm vm₁) hT hW₁⟩) with ⟨v, vm₁, ⟨U', l2, c2, s2⟩, hW₁, X', ⟨g', mk, t, L, e1, e2, hq, h1, hL, h2, h3⟩, st⟩ | ⟨q, vm₁, ⟨U', l2, c2, s2⟩, hW₁, X', ⟨g', mk, t, L, E, ce, e1, e2, hq, hce, hcv, hcl, h1, hL, h2, h3⟩, st⟩
  · dsimp only [Pt.U, Pt.locs, Pt.cells, Pt.slots] at X' e1 e2 h1 h2 h3 st
    subst h1; subst h2; subst h3
    exact Or.inl ⟨v, (T.setVm vm₁).calling g' mk As.toArray, t, U', L, hT, X', hL, e1, e2, hq, st⟩
  · dsimp only [Pt.U, Pt.locs, Pt.cells, Pt.slots] at X' e1 e2 h1 h2 h3 st hcl
    subst h1; subst h2; subst h3
    exact Or.inr ⟨q, (T.setVm vm₁).calling g' mk As.toArray, t, U', L, E, ce, hT, X', hL, e1, e2, hq, hce, hcv, vx_cls hW₁ hcl, st⟩
end
end VXH
theorem vx_ofWH {l : Launch} {y : MethodName} {ws ws' : List Cond} {rm : Room} {Pc : Array Value → State → Prop} {Qc : Array Value → State → Outcome → State → Prop} {XC : String → State → State → Prop} {mc ms : Nat} {free : Addr → Prop} {cc : ByteArray} {maxL : Nat} {ret : Option FieldType} {hh : List (Nat × Nat × Nat × Nat)}
    (hy : plainName y.cls = true) (hw : ws = Cond.codeWith y cc maxL ret hh :: ws')
    (body : ∀ p e s m args below meth c s₁, BodyLoose p l y (headSpec ws rm) cc maxL ret e s m args below meth c s₁ → c.maxLocals = maxL → Pc args s →
      W p l e (headSpec ws rm).room s m args below meth c s.heap [] 0 0 (vx_MQ below Qc XC args s mc ms free) (entryFrame m args maxL)) : vx_Met l y ws rm Pc Qc XC mc ms free := by
  refine MetFree.of_bodyS (code := cc) (maxLocals := maxL) (ret := ret) hy ?_ ?_
  · intro args s m h hn
    obtain ⟨m9, meth, c, hn9, h1, h2, h3, h4, -, h5, h6, -⟩ := Cond.codeWith_spec (atoms_spec (ws := ws) h _ (by rw [hw]; exact List.mem_cons_self))
    cases hn.symm.trans hn9
    exact ⟨meth, c, h1, h2, h3, h4, h5, h6⟩
  · intro p e s m args below meth c s₁ B hml hP _
    have hh0 : s₁.heap = s.heap := by rw [B.state]; rfl
    obtain ⟨t, a1, o, b1, b2, b3⟩ := body p e s m args below meth c s₁ B hml hP s₁ hh0 (Stand.of_body B)
    exact ⟨t, o, a1, b1, b2, b3⟩
/-! ===== END ===== -/
def vx_atM (X : String) (names : List String) : List Cond := (Bundle.messageArmAtoms X names).filter vx_no
end
section
/-! ===== BEGIN printed: names, fields, word lists, decode rows ===== -/
def RX0 : String := "LeastChange$Found"
def TX0 : u_T := fun k => match k with
  | 0 => ("LeastChange$Found", "codes", "[I", true)
  | 1 => ("LeastChange$Found", "given", "I", false)
  | 2 => ("LeastChange$Found", "changed", "I", false)
  | _ => ("LeastChange$Found", "down", "I", false)
def tyX0 : Nat → FieldType := fun k => match k with
  | 0 => .array .int
  | 1 => .int
  | 2 => .int
  | _ => .int
abbrev wsX00 : List Cond := u_ws RX0 TX0 4
theorem nmX0 : ∀ a, a < 4 → ∀ b, b < 4 → a ≠ b → (TX0 a).2.1 ≠ (TX0 b).2.1 := by decide +kernel
theorem tyX0_ok : ∀ k, k < 4 → parseFieldDescriptor (TX0 k).2.2.1 = some (tyX0 k) := by decide +kernel
abbrev cX0_init : ByteArray := prog_2_method_1_code
def yX0_init : MethodName := ⟨RX0, "<init>", "()V"⟩
abbrev cX0_keep : ByteArray := prog_2_method_2_code
def yX0_keep : MethodName := ⟨RX0, "keep", "(LLeastChange$Search;I[I)V"⟩
def RX1 : String := "LeastChange$Rules"
def TX1 : u_T := fun k => match k with
  | 0 => ("LeastChange$Rules", "alone", "[I", true)
  | _ => ("LeastChange$Rules", "beside", "[I", true)
def tyX1 : Nat → FieldType := fun k => match k with
  | 0 => .array .int
  | _ => .array .int
abbrev wsX10 : List Cond := u_ws RX1 TX1 2
theorem nmX1 : ∀ a, a < 2 → ∀ b, b < 2 → a ≠ b → (TX1 a).2.1 ≠ (TX1 b).2.1 := by decide +kernel
theorem tyX1_ok : ∀ k, k < 2 → parseFieldDescriptor (TX1 k).2.2.1 = some (tyX1 k) := by decide +kernel
abbrev cX1_init : ByteArray := prog_3_method_1_code
def yX1_init : MethodName := ⟨RX1, "<init>", "()V"⟩
abbrev cX1_open : ByteArray := prog_3_method_2_code
def yX1_open : MethodName := ⟨RX1, "open", "(II)V"⟩
abbrev cX1_narrow : ByteArray := prog_3_method_3_code
def yX1_narrow : MethodName := ⟨RX1, "narrow", "(II)V"⟩
abbrev cX1_tie : ByteArray := prog_3_method_4_code
def yX1_tie : MethodName := ⟨RX1, "tie", "(IIII)V"⟩
abbrev cX1_place : ByteArray := prog_3_method_5_code
def yX1_place : MethodName := ⟨RX1, "place", "(III)I"⟩
def RX2 : String := "LeastChange$Search"
def TX2 : u_T := fun k => match k with
  | 0 => ("LeastChange$Search", "rules", "LLeastChange$Rules;", true)
  | 1 => ("LeastChange$Search", "left", "[I", true)
  | 2 => ("LeastChange$Search", "home", "[I", true)
  | 3 => ("LeastChange$Search", "tried", "[I", true)
  | 4 => ("LeastChange$Search", "kept", "[I", true)
  | 5 => ("LeastChange$Search", "names", "I", false)
  | 6 => ("LeastChange$Search", "keptCost", "I", false)
  | 7 => ("LeastChange$Search", "costBound", "I", false)
  | _ => ("LeastChange$Search", "endsWithFirst", "Z", false)
def tyX2 : Nat → FieldType := fun k => match k with
  | 0 => .object "LeastChange$Rules"
  | 1 => .array .int
  | 2 => .array .int
  | 3 => .array .int
  | 4 => .array .int
  | 5 => .int
  | 6 => .int
  | 7 => .int
  | _ => .boolean
abbrev wsX20 : List Cond := u_ws RX2 TX2 9
theorem nmX2 : ∀ a, a < 9 → ∀ b, b < 9 → a ≠ b → (TX2 a).2.1 ≠ (TX2 b).2.1 := by decide +kernel
theorem tyX2_ok : ∀ k, k < 9 → parseFieldDescriptor (TX2 k).2.2.1 = some (tyX2 k) := by decide +kernel
abbrev cX2_init : ByteArray := prog_4_method_1_code
def yX2_init : MethodName := ⟨RX2, "<init>", "(LLeastChange$Rules;)V"⟩
abbrev cX2_findBest : ByteArray := prog_4_method_2_code
def yX2_findBest : MethodName := ⟨RX2, "findBest", "(I[I[I)Z"⟩
abbrev cX2_findFirst : ByteArray := prog_4_method_3_code
def yX2_findFirst : MethodName := ⟨RX2, "findFirst", "(I[I[I)Z"⟩
abbrev cX2_changedCount : ByteArray := prog_4_method_4_code
def yX2_changedCount : MethodName := ⟨RX2, "changedCount", "()I"⟩
abbrev cX2_keptCode : ByteArray := prog_4_method_5_code
def yX2_keptCode : MethodName := ⟨RX2, "keptCode", "(I)I"⟩
abbrev cX2_find : ByteArray := prog_4_method_6_code
def yX2_find : MethodName := ⟨RX2, "find", "(I[I[I)Z"⟩
abbrev cX2_giveFrom : ByteArray := prog_4_method_7_code
def yX2_giveFrom : MethodName := ⟨RX2, "giveFrom", "(II)V"⟩
abbrev cX2_give : ByteArray := prog_4_method_8_code
def yX2_give : MethodName := ⟨RX2, "give", "(III)V"⟩
abbrev cX2_keep : ByteArray := prog_4_method_9_code
def yX2_keep : MethodName := ⟨RX2, "keep", "(I)V"⟩
abbrev cX2_narrowRest : ByteArray := prog_4_method_10_code
def yX2_narrowRest : MethodName := ⟨RX2, "narrowRest", "(III)I"⟩
abbrev cX2_costOf : ByteArray := prog_4_method_11_code
def yX2_costOf : MethodName := ⟨RX2, "costOf", "(II)I"⟩
abbrev cX2_leastCostOf : ByteArray := prog_4_method_12_code
def yX2_leastCostOf : MethodName := ⟨RX2, "leastCostOf", "(II)I"⟩
def RX3 : String := "LeastChange"
def TX3 : u_T := fun k => match k with
  | 0 => ("LeastChange", "rules", "LLeastChange$Rules;", true)
  | 1 => ("LeastChange", "search", "LLeastChange$Search;", true)
  | 2 => ("LeastChange", "found", "LLeastChange$Found;", true)
  | 3 => ("LeastChange", "versions", "[I", true)
  | 4 => ("LeastChange", "locked", "[I", true)
  | 5 => ("LeastChange", "joined", "[I", true)
  | 6 => ("LeastChange", "barred", "[I", true)
  | 7 => ("LeastChange", "rows", "[I", true)
  | 8 => ("LeastChange", "nameCount", "I", false)
  | _ => ("LeastChange", "rowCount", "I", false)
def tyX3 : Nat → FieldType := fun k => match k with
  | 0 => .object "LeastChange$Rules"
  | 1 => .object "LeastChange$Search"
  | 2 => .object "LeastChange$Found"
  | 3 => .array .int
  | 4 => .array .int
  | 5 => .array .int
  | 6 => .array .int
  | 7 => .array .int
  | 8 => .int
  | _ => .int
abbrev wsX30 : List Cond := u_ws RX3 TX3 10
theorem nmX3 : ∀ a, a < 10 → ∀ b, b < 10 → a ≠ b → (TX3 a).2.1 ≠ (TX3 b).2.1 := by decide +kernel
theorem tyX3_ok : ∀ k, k < 10 → parseFieldDescriptor (TX3 k).2.2.1 = some (tyX3 k) := by decide +kernel
abbrev cX3_init : ByteArray := prog_1_method_1_code
def yX3_init : MethodName := ⟨RX3, "<init>", "()V"⟩
abbrev cX3_name : ByteArray := prog_1_method_2_code
def yX3_name : MethodName := ⟨RX3, "name", "(II)I"⟩
abbrev cX3_needs : ByteArray := prog_1_method_3_code
def yX3_needs : MethodName := ⟨RX3, "needs", "(IIIJ)I"⟩
abbrev cX3_want : ByteArray := prog_1_method_4_code
def yX3_want : MethodName := ⟨RX3, "want", "(IJ)I"⟩
abbrev cX3_force : ByteArray := prog_1_method_5_code
def yX3_force : MethodName := ⟨RX3, "force", "(IJ)I"⟩
abbrev cX3_group : ByteArray := prog_1_method_6_code
def yX3_group : MethodName := ⟨RX3, "group", "(II)I"⟩
abbrev cX3_solve : ByteArray := prog_1_method_7_code
def yX3_solve : MethodName := ⟨RX3, "solve", "(IJ)I"⟩
abbrev cX3_chosen : ByteArray := prog_1_method_8_code
def yX3_chosen : MethodName := ⟨RX3, "chosen", "(I)I"⟩
abbrev cX3_down : ByteArray := prog_1_method_9_code
def yX3_down : MethodName := ⟨RX3, "down", "(I)I"⟩
abbrev cX3_lock : ByteArray := prog_1_method_10_code
def yX3_lock : MethodName := ⟨RX3, "lock", "(II)I"⟩
abbrev cX3_digest : ByteArray := prog_1_method_11_code
def yX3_digest : MethodName := ⟨RX3, "digest", "(IJ)J"⟩
abbrev cX3_merge : ByteArray := prog_1_method_12_code
def yX3_merge : MethodName := ⟨RX3, "merge", "(I)I"⟩
abbrev cX3_row : ByteArray := prog_1_method_13_code
def yX3_row : MethodName := ⟨RX3, "row", "(I)I"⟩
abbrev cX3_isName : ByteArray := prog_1_method_14_code
def yX3_isName : MethodName := ⟨RX3, "isName", "(I)Z"⟩
abbrev cX3_addSetRow : ByteArray := prog_1_method_15_code
def yX3_addSetRow : MethodName := ⟨RX3, "addSetRow", "(III)I"⟩
abbrev cX3_addRow : ByteArray := prog_1_method_16_code
def yX3_addRow : MethodName := ⟨RX3, "addRow", "(IIII)I"⟩
abbrev cX3_lockToFound : ByteArray := prog_1_method_17_code
def yX3_lockToFound : MethodName := ⟨RX3, "lockToFound", "()V"⟩
abbrev cX3_waysToTry : ByteArray := prog_1_method_18_code
def yX3_waysToTry : MethodName := ⟨RX3, "waysToTry", "(I)I"⟩
abbrev cX3_codeOf : ByteArray := prog_1_method_19_code
def yX3_codeOf : MethodName := ⟨RX3, "codeOf", "(I)I"⟩
abbrev cX3_versionOf : ByteArray := prog_1_method_20_code
def yX3_versionOf : MethodName := ⟨RX3, "versionOf", "(I)I"⟩
abbrev cX3_codesOf : ByteArray := prog_1_method_21_code
def yX3_codesOf : MethodName := ⟨RX3, "codesOf", "(J)I"⟩
abbrev cX3_digestOf : ByteArray := prog_1_method_22_code
def yX3_digestOf : MethodName := ⟨RX3, "digestOf", "(II)J"⟩
abbrev cX3_ithOf : ByteArray := prog_1_method_23_code
def yX3_ithOf : MethodName := ⟨RX3, "ithOf", "(II)I"⟩
abbrev cX3_isChanged : ByteArray := prog_1_method_24_code
def yX3_isChanged : MethodName := ⟨RX3, "isChanged", "(II)Z"⟩
abbrev cX3_isDown : ByteArray := prog_1_method_25_code
def yX3_isDown : MethodName := ⟨RX3, "isDown", "(II)Z"⟩
def RX4 : String := "LeastChangeModel"
def TX4 : u_T := fun k => match k with
  | 0 => ("LeastChangeModel", "thrown", "I", false)
  | 1 => ("LeastChangeModel", "names", "I", false)
  | 2 => ("LeastChangeModel", "rows", "I", false)
  | 3 => ("LeastChangeModel", "versions", "[I", true)
  | 4 => ("LeastChangeModel", "locked", "[I", true)
  | 5 => ("LeastChangeModel", "barred", "[I", true)
  | 6 => ("LeastChangeModel", "kind", "[I", true)
  | 7 => ("LeastChangeModel", "first", "[I", true)
  | 8 => ("LeastChangeModel", "at", "[I", true)
  | 9 => ("LeastChangeModel", "second", "[I", true)
  | 10 => ("LeastChangeModel", "set", "[I", true)
  | 11 => ("LeastChangeModel", "base", "[I", true)
  | 12 => ("LeastChangeModel", "left", "[I", true)
  | 13 => ("LeastChangeModel", "given", "[I", true)
  | 14 => ("LeastChangeModel", "best", "[I", true)
  | 15 => ("LeastChangeModel", "bestChanged", "I", false)
  | 16 => ("LeastChangeModel", "mostChanged", "I", false)
  | 17 => ("LeastChangeModel", "mostDown", "I", false)
  | 18 => ("LeastChangeModel", "any", "Z", false)
  | 19 => ("LeastChangeModel", "found", "I", false)
  | 20 => ("LeastChangeModel", "gave", "[I", true)
  | 21 => ("LeastChangeModel", "was", "[I", true)
  | 22 => ("LeastChangeModel", "coming", "[I", true)
  | 23 => ("LeastChangeModel", "changes", "[I", true)
  | _ => ("LeastChangeModel", "downs", "[I", true)
def tyX4 : Nat → FieldType := fun k => match k with
  | 0 => .int
  | 1 => .int
  | 2 => .int
  | 3 => .array .int
  | 4 => .array .int
  | 5 => .array .int
  | 6 => .array .int
  | 7 => .array .int
  | 8 => .array .int
  | 9 => .array .int
  | 10 => .array .int
  | 11 => .array .int
  | 12 => .array .int
  | 13 => .array .int
  | 14 => .array .int
  | 15 => .int
  | 16 => .int
  | 17 => .int
  | 18 => .boolean
  | 19 => .int
  | 20 => .array .int
  | 21 => .array .int
  | 22 => .array .int
  | 23 => .array .int
  | _ => .array .int
abbrev wsX40 : List Cond := u_ws RX4 TX4 25
theorem nmX4 : ∀ a, a < 25 → ∀ b, b < 25 → a ≠ b → (TX4 a).2.1 ≠ (TX4 b).2.1 := by decide +kernel
theorem tyX4_ok : ∀ k, k < 25 → parseFieldDescriptor (TX4 k).2.2.1 = some (tyX4 k) := by decide +kernel
abbrev cX4_init : ByteArray := prog_6_method_1_code
def yX4_init : MethodName := ⟨RX4, "<init>", "()V"⟩
abbrev cX4_thrown : ByteArray := prog_6_method_2_code
def yX4_thrown : MethodName := ⟨RX4, "thrown", "()I"⟩
abbrev cX4_isName : ByteArray := prog_6_method_3_code
def yX4_isName : MethodName := ⟨RX4, "isName", "(I)Z"⟩
abbrev cX4_name : ByteArray := prog_6_method_4_code
def yX4_name : MethodName := ⟨RX4, "name", "(II)I"⟩
abbrev cX4_add : ByteArray := prog_6_method_5_code
def yX4_add : MethodName := ⟨RX4, "add", "(IIIIJ)I"⟩
abbrev cX4_needs : ByteArray := prog_6_method_6_code
def yX4_needs : MethodName := ⟨RX4, "needs", "(IIIJ)I"⟩
abbrev cX4_want : ByteArray := prog_6_method_7_code
def yX4_want : MethodName := ⟨RX4, "want", "(IJ)I"⟩
abbrev cX4_force : ByteArray := prog_6_method_8_code
def yX4_force : MethodName := ⟨RX4, "force", "(IJ)I"⟩
abbrev cX4_group : ByteArray := prog_6_method_9_code
def yX4_group : MethodName := ⟨RX4, "group", "(II)I"⟩
abbrev cX4_row : ByteArray := prog_6_method_10_code
def yX4_row : MethodName := ⟨RX4, "row", "(I)I"⟩
abbrev cX4_begin : ByteArray := prog_6_method_11_code
def yX4_begin : MethodName := ⟨RX4, "begin", "()V"⟩
abbrev cX4_leaves : ByteArray := prog_6_method_12_code
def yX4_leaves : MethodName := ⟨RX4, "leaves", "(II)Z"⟩
abbrev cX4_option : ByteArray := prog_6_method_13_code
def yX4_option : MethodName := ⟨RX4, "option", "(II)I"⟩
abbrev cX4_seek : ByteArray := prog_6_method_14_code
def yX4_seek : MethodName := ⟨RX4, "seek", "()V"⟩
abbrev cX4_look : ByteArray := prog_6_method_15_code
def yX4_look : MethodName := ⟨RX4, "look", "(II)Z"⟩
abbrev cX4_lookForBest : ByteArray := prog_6_method_16_code
def yX4_lookForBest : MethodName := ⟨RX4, "lookForBest", "()Z"⟩
abbrev cX4_tries : ByteArray := prog_6_method_17_code
def yX4_tries : MethodName := ⟨RX4, "tries", "(I)J"⟩
abbrev cX4_keep : ByteArray := prog_6_method_18_code
def yX4_keep : MethodName := ⟨RX4, "keep", "()I"⟩
abbrev cX4_solve : ByteArray := prog_6_method_19_code
def yX4_solve : MethodName := ⟨RX4, "solve", "(IJ)I"⟩
abbrev cX4_chosen : ByteArray := prog_6_method_20_code
def yX4_chosen : MethodName := ⟨RX4, "chosen", "(I)I"⟩
abbrev cX4_down : ByteArray := prog_6_method_21_code
def yX4_down : MethodName := ⟨RX4, "down", "(I)I"⟩
abbrev cX4_digestOf : ByteArray := prog_6_method_22_code
def yX4_digestOf : MethodName := ⟨RX4, "digestOf", "(II)J"⟩
abbrev cX4_lock : ByteArray := prog_6_method_23_code
def yX4_lock : MethodName := ⟨RX4, "lock", "(II)I"⟩
abbrev cX4_digest : ByteArray := prog_6_method_24_code
def yX4_digest : MethodName := ⟨RX4, "digest", "(IJ)J"⟩
abbrev cX4_merge : ByteArray := prog_6_method_25_code
def yX4_merge : MethodName := ⟨RX4, "merge", "(I)I"⟩
def RJx00060 : String := "java/lang/ArrayIndexOutOfBoundsException"
def TJx00060 : u_T := fun k => match k with
  | 0 => ("java/lang/Throwable", "backtrace", "Ljava/lang/Object;", false)
  | 1 => ("java/lang/Throwable", "detailMessage", "Ljava/lang/String;", false)
  | 2 => ("java/lang/Throwable", "cause", "Ljava/lang/Throwable;", false)
  | 3 => ("java/lang/Throwable", "stackTrace", "[Ljava/lang/StackTraceElement;", false)
  | 4 => ("java/lang/Throwable", "depth", "I", false)
  | _ => ("java/lang/Throwable", "suppressedExceptions", "Ljava/util/List;", false)
def tyJx00060 : Nat → FieldType := fun k => match k with
  | 0 => .object "java/lang/Object"
  | 1 => .object "java/lang/String"
  | 2 => .object "java/lang/Throwable"
  | 3 => .array (.object "java/lang/StackTraceElement")
  | 4 => .int
  | _ => .object "java/util/List"
abbrev wsJx000600 : List Cond := u_ws RJx00060 TJx00060 6
theorem nmJx00060 : ∀ a, a < 6 → ∀ b, b < 6 → a ≠ b → (TJx00060 a).2.1 ≠ (TJx00060 b).2.1 := by decide +kernel
theorem tyJx00060_ok : ∀ k, k < 6 → parseFieldDescriptor (TJx00060 k).2.2.1 = some (tyJx00060 k) := by decide +kernel
abbrev cJx00060_init_a7421 : ByteArray := prog_7_method_2_code
def yJx00060_init_a7421 : MethodName := ⟨RJx00060, "<init>", "(Ljava/lang/String;)V"⟩
def RJ9 : String := "java/lang/Math"
def TJ9 : u_T := fun k => match k with
  | _ => ("", "", "", false)
def tyJ9 : Nat → FieldType := fun k => match k with
  | _ => .int
abbrev wsJ90 : List Cond := u_ws RJ9 TJ9 0
theorem nmJ9 : ∀ a, a < 0 → ∀ b, b < 0 → a ≠ b → (TJ9 a).2.1 ≠ (TJ9 b).2.1 := by decide +kernel
theorem tyJ9_ok : ∀ k, k < 0 → parseFieldDescriptor (TJ9 k).2.2.1 = some (tyJ9 k) := by decide +kernel
abbrev cJ9_max_7cf53 : ByteArray := prog_10_method_65_code
def yJ9_max_7cf53 : MethodName := ⟨RJ9, "max", "(II)I"⟩
abbrev cJ9_min_7cf53 : ByteArray := prog_10_method_69_code
def yJ9_min_7cf53 : MethodName := ⟨RJ9, "min", "(II)I"⟩
def RJ0 : String := "java/lang/String"
def TJ0 : u_T := fun k => match k with
  | 0 => ("java/lang/String", "value", "[B", true)
  | _ => ("java/lang/String", "coder", "B", true)
def tyJ0 : Nat → FieldType := fun k => match k with
  | 0 => .array .byte
  | _ => .byte
abbrev wsJ00 : List Cond := u_ws RJ0 TJ0 2
theorem nmJ0 : ∀ a, a < 2 → ∀ b, b < 2 → a ≠ b → (TJ0 a).2.1 ≠ (TJ0 b).2.1 := by decide +kernel
theorem tyJ0_ok : ∀ k, k < 2 → parseFieldDescriptor (TJ0 k).2.2.1 = some (tyJ0 k) := by decide +kernel
def RJ7 : String := "java/util/Arrays"
def TJ7 : u_T := fun k => match k with
  | _ => ("", "", "", false)
def tyJ7 : Nat → FieldType := fun k => match k with
  | _ => .int
abbrev wsJ70 : List Cond := u_ws RJ7 TJ7 0
theorem nmJ7 : ∀ a, a < 0 → ∀ b, b < 0 → a ≠ b → (TJ7 a).2.1 ≠ (TJ7 b).2.1 := by decide +kernel
theorem tyJ7_ok : ∀ k, k < 0 → parseFieldDescriptor (TJ7 k).2.2.1 = some (tyJ7 k) := by decide +kernel
abbrev cJ7_fill_53178 : ByteArray := prog_14_method_103_code
def yJ7_fill_53178 : MethodName := ⟨RJ7, "fill", "([II)V"⟩
def RL : String := "LeastChangeLaw"
abbrev cL_row : ByteArray := method_3_code
def yL_row : MethodName := ⟨RL, "row", "(LLeastChange;I[J)I"⟩
abbrev cL_law : ByteArray := code
def yL_law : MethodName := ⟨RL, "law", "([I)Z"⟩
def wsX0_init : List Cond := .code yX0_init cX0_init 1 none :: ([.methodLink RX0 3 objectInit, .instanceMethod objectInit, .code objectInit ⟨#[0xb1]⟩ 1 none, .arrayClass .int, .fieldLink RX0 9 "LeastChange$Found" "codes" "[I", .fieldLink RX0 15 "LeastChange$Found" "given" "I", .fieldLink RX0 19 "LeastChange$Found" "changed" "I", .fieldLink RX0 22 "LeastChange$Found" "down" "I"] ++ wsX00)
def wsX2_keptCode : List Cond := .code yX2_keptCode cX2_keptCode 2 (some .int) :: ([.fieldLink RX2 21 "LeastChange$Search" "kept" "[I"] ++ wsX20 ++ (vx_atM "java/lang/ArrayIndexOutOfBoundsException" ["java/lang/IndexOutOfBoundsException", "java/lang/RuntimeException", "java/lang/Exception"]).filter goodWord)
def wsX3_isChanged : List Cond := .code yX3_isChanged cX3_isChanged 2 (some .boolean) :: ([])
def wsX3_isDown : List Cond := .code yX3_isDown cX3_isDown 2 (some .boolean) :: ([])
def wsX0_keep : List Cond := .code yX0_keep cX0_keep 6 none :: ([.fieldLink RX0 15 "LeastChange$Found" "given" "I", .fieldLink RX0 19 "LeastChange$Found" "changed" "I", .fieldLink RX0 22 "LeastChange$Found" "down" "I", .fieldLink RX0 9 "LeastChange$Found" "codes" "[I", .instanceMethod yX2_keptCode, .initialized RX2, .selects RX2 yX2_keptCode yX2_keptCode, .code yX2_keptCode cX2_keptCode 2 (some .int), .fieldLink RX2 21 "LeastChange$Search" "kept" "[I", .static yX3_isChanged, .initialized RX3, .code yX3_isChanged cX3_isChanged 2 (some .boolean), .static yX3_isDown, .code yX3_isDown cX3_isDown 2 (some .boolean)] ++ wsX00 ++ wsX20 ++ (vx_atM "java/lang/ArrayIndexOutOfBoundsException" ["java/lang/IndexOutOfBoundsException", "java/lang/RuntimeException", "java/lang/Exception"]).filter goodWord)
def wsJ7_fill_53178 : List Cond := .code yJ7_fill_53178 cJ7_fill_53178 4 none :: ([])
def wsX1_init : List Cond := .code yX1_init cX1_init 1 none :: ([.methodLink RX1 3 objectInit, .instanceMethod objectInit, .code objectInit ⟨#[0xb1]⟩ 1 none, .arrayClass .int, .fieldLink RX1 9 "LeastChange$Rules" "alone" "[I", .fieldLink RX1 15 "LeastChange$Rules" "beside" "[I", .methodLink RX1 18 yJ7_fill_53178, .static yJ7_fill_53178, .initialized RJ7, .code yJ7_fill_53178 cJ7_fill_53178 4 none] ++ wsX10)
def wsX1_open : List Cond := .code yX1_open cX1_open 3 none :: ([.fieldLink RX1 9 "LeastChange$Rules" "alone" "[I"] ++ wsX10 ++ (vx_atM "java/lang/ArrayIndexOutOfBoundsException" ["java/lang/IndexOutOfBoundsException", "java/lang/RuntimeException", "java/lang/Exception"]).filter goodWord)
def wsX1_narrow : List Cond := .code yX1_narrow cX1_narrow 3 none :: ([.fieldLink RX1 9 "LeastChange$Rules" "alone" "[I"] ++ wsX10 ++ (vx_atM "java/lang/ArrayIndexOutOfBoundsException" ["java/lang/IndexOutOfBoundsException", "java/lang/RuntimeException", "java/lang/Exception"]).filter goodWord)
def wsX1_place : List Cond := .code yX1_place cX1_place 3 (some .int) :: ([])
def wsX1_tie : List Cond := .code yX1_tie cX1_tie 6 none :: ([.fieldLink RX1 15 "LeastChange$Rules" "beside" "[I", .methodLink RX1 24 yX1_narrow, .instanceMethod yX1_narrow, .selects RX1 yX1_narrow yX1_narrow, .initialized RX1, .code yX1_narrow cX1_narrow 3 none, .fieldLink RX1 9 "LeastChange$Rules" "alone" "[I", .methodLink RX1 28 yX1_place, .static yX1_place, .code yX1_place cX1_place 3 (some .int)] ++ wsX10 ++ (vx_atM "java/lang/ArrayIndexOutOfBoundsException" ["java/lang/IndexOutOfBoundsException", "java/lang/RuntimeException", "java/lang/Exception"]).filter goodWord)
def wsX2_init : List Cond := .code yX2_init cX2_init 2 none :: ([.methodLink RX2 5 objectInit, .instanceMethod objectInit, .code objectInit ⟨#[0xb1]⟩ 1 none, .arrayClass .int, .fieldLink RX2 11 "LeastChange$Search" "left" "[I", .fieldLink RX2 15 "LeastChange$Search" "home" "[I", .fieldLink RX2 18 "LeastChange$Search" "tried" "[I", .fieldLink RX2 21 "LeastChange$Search" "kept" "[I", .fieldLink RX2 24 "LeastChange$Search" "names" "I", .fieldLink RX2 28 "LeastChange$Search" "keptCost" "I", .fieldLink RX2 31 "LeastChange$Search" "costBound" "I", .fieldLink RX2 34 "LeastChange$Search" "endsWithFirst" "Z", .fieldLink RX2 38 "LeastChange$Search" "rules" "LLeastChange$Rules;"] ++ wsX20)
def wsX2_costOf : List Cond := .code yX2_costOf cX2_costOf 2 (some .int) :: ([.static yX3_isChanged, .initialized RX3, .code yX3_isChanged cX3_isChanged 2 (some .boolean), .static yX3_isDown, .code yX3_isDown cX3_isDown 2 (some .boolean)])
def wsX2_leastCostOf : List Cond := .code yX2_leastCostOf cX2_leastCostOf 3 (some .int) :: ([])
def wsX2_narrowRest : List Cond := .code yX2_narrowRest cX2_narrowRest 10 (some .int) :: ([.fieldLink RX2 24 "LeastChange$Search" "names" "I", .fieldLink RX2 11 "LeastChange$Search" "left" "[I", .fieldLink RX2 38 "LeastChange$Search" "rules" "LLeastChange$Rules;", .fieldLink RX2 15 "LeastChange$Search" "home" "[I", .static yX1_place, .initialized RX1, .code yX1_place cX1_place 3 (some .int), .methodLink RX2 77 yX2_leastCostOf, .static yX2_leastCostOf, .initialized RX2, .code yX2_leastCostOf cX2_leastCostOf 3 (some .int)] ++ wsX20 ++ wsX10 ++ (vx_atM "java/lang/ArrayIndexOutOfBoundsException" ["java/lang/IndexOutOfBoundsException", "java/lang/RuntimeException", "java/lang/Exception"]).filter goodWord)
def wsX2_keep : List Cond := .code yX2_keep cX2_keep 3 none :: ([.fieldLink RX2 24 "LeastChange$Search" "names" "I", .fieldLink RX2 21 "LeastChange$Search" "kept" "[I", .fieldLink RX2 18 "LeastChange$Search" "tried" "[I", .fieldLink RX2 28 "LeastChange$Search" "keptCost" "I", .fieldLink RX2 34 "LeastChange$Search" "endsWithFirst" "Z", .fieldLink RX2 31 "LeastChange$Search" "costBound" "I"] ++ wsX20 ++ (vx_atM "java/lang/ArrayIndexOutOfBoundsException" ["java/lang/IndexOutOfBoundsException", "java/lang/RuntimeException", "java/lang/Exception"]).filter goodWord)
def wsX2_give_r1 : List Cond := [Cond.fieldLink RX2 15 "LeastChange$Search" "home" "[I", Cond.fieldLink RX2 31 "LeastChange$Search" "costBound" "I", Cond.fieldLink RX2 18 "LeastChange$Search" "tried" "[I", Cond.methodLink RX2 63 yX2_costOf, Cond.static yX2_costOf, Cond.initialized RX2, Cond.code yX2_costOf cX2_costOf 2 (some .int), Cond.static yX3_isChanged, Cond.initialized RX3, Cond.code yX3_isChanged cX3_isChanged 2 (some .boolean), Cond.static yX3_isDown, Cond.code yX3_isDown cX3_isDown 2 (some .boolean), Cond.methodLink RX2 67 yX2_narrowRest, Cond.instanceMethod yX2_narrowRest, Cond.selects RX2 yX2_narrowRest yX2_narrowRest, Cond.code yX2_narrowRest cX2_narrowRest 10 (some .int), Cond.fieldLink RX2 24 "LeastChange$Search" "names" "I", Cond.fieldLink RX2 11 "LeastChange$Search" "left" "[I", Cond.fieldLink RX2 38 "LeastChange$Search" "rules" "LLeastChange$Rules;", Cond.static yX1_place, Cond.initialized RX1, Cond.code yX1_place cX1_place 3 (some .int), Cond.methodLink RX2 77 yX2_leastCostOf, Cond.static yX2_leastCostOf]
def wsX2_give_r2 : List Cond := [Cond.code yX2_leastCostOf cX2_leastCostOf 3 (some .int), Cond.methodLink RX2 51 yX2_giveFrom, Cond.instanceMethod yX2_giveFrom, Cond.selects RX2 yX2_giveFrom yX2_giveFrom, Cond.code yX2_giveFrom cX2_giveFrom 6 none, Cond.methodLink RX2 55 yX2_keep, Cond.instanceMethod yX2_keep, Cond.selects RX2 yX2_keep yX2_keep, Cond.code yX2_keep cX2_keep 3 none, Cond.fieldLink RX2 21 "LeastChange$Search" "kept" "[I", Cond.fieldLink RX2 28 "LeastChange$Search" "keptCost" "I", Cond.fieldLink RX2 34 "LeastChange$Search" "endsWithFirst" "Z", Cond.methodLink RX2 59 yX2_give, Cond.instanceMethod yX2_give, Cond.selects RX2 yX2_give yX2_give]
def wsX2_give : List Cond := .code yX2_give cX2_give 5 none :: ((wsX2_give_r1 ++ wsX2_give_r2) ++ wsX20 ++ wsX10 ++ (vx_atM "java/lang/ArrayIndexOutOfBoundsException" ["java/lang/IndexOutOfBoundsException", "java/lang/RuntimeException", "java/lang/Exception"]).filter goodWord)
def wsX2_giveFrom_r1 : List Cond := [Cond.fieldLink RX2 24 "LeastChange$Search" "names" "I", Cond.fieldLink RX2 11 "LeastChange$Search" "left" "[I", Cond.fieldLink RX2 15 "LeastChange$Search" "home" "[I", Cond.methodLink RX2 55 yX2_keep, Cond.instanceMethod yX2_keep, Cond.selects RX2 yX2_keep yX2_keep, Cond.initialized RX2, Cond.code yX2_keep cX2_keep 3 none, Cond.fieldLink RX2 21 "LeastChange$Search" "kept" "[I", Cond.fieldLink RX2 18 "LeastChange$Search" "tried" "[I", Cond.fieldLink RX2 28 "LeastChange$Search" "keptCost" "I", Cond.fieldLink RX2 34 "LeastChange$Search" "endsWithFirst" "Z", Cond.fieldLink RX2 31 "LeastChange$Search" "costBound" "I", Cond.methodLink RX2 59 yX2_give, Cond.instanceMethod yX2_give, Cond.selects RX2 yX2_give yX2_give, Cond.code yX2_give cX2_give 5 none, Cond.methodLink RX2 63 yX2_costOf, Cond.static yX2_costOf, Cond.code yX2_costOf cX2_costOf 2 (some .int), Cond.static yX3_isChanged, Cond.initialized RX3, Cond.code yX3_isChanged cX3_isChanged 2 (some .boolean), Cond.static yX3_isDown]
def wsX2_giveFrom_r2 : List Cond := [Cond.code yX3_isDown cX3_isDown 2 (some .boolean), Cond.methodLink RX2 67 yX2_narrowRest, Cond.instanceMethod yX2_narrowRest, Cond.selects RX2 yX2_narrowRest yX2_narrowRest, Cond.code yX2_narrowRest cX2_narrowRest 10 (some .int), Cond.fieldLink RX2 38 "LeastChange$Search" "rules" "LLeastChange$Rules;", Cond.static yX1_place, Cond.initialized RX1, Cond.code yX1_place cX1_place 3 (some .int), Cond.methodLink RX2 77 yX2_leastCostOf, Cond.static yX2_leastCostOf, Cond.code yX2_leastCostOf cX2_leastCostOf 3 (some .int), Cond.methodLink RX2 51 yX2_giveFrom, Cond.instanceMethod yX2_giveFrom, Cond.selects RX2 yX2_giveFrom yX2_giveFrom]
def wsX2_giveFrom : List Cond := .code yX2_giveFrom cX2_giveFrom 6 none :: ((wsX2_giveFrom_r1 ++ wsX2_giveFrom_r2) ++ wsX20 ++ wsX10 ++ (vx_atM "java/lang/ArrayIndexOutOfBoundsException" ["java/lang/IndexOutOfBoundsException", "java/lang/RuntimeException", "java/lang/Exception"]).filter goodWord)
def wsX2_find_r1 : List Cond := [Cond.fieldLink RX2 24 "LeastChange$Search" "names" "I", Cond.fieldLink RX2 28 "LeastChange$Search" "keptCost" "I", Cond.fieldLink RX2 31 "LeastChange$Search" "costBound" "I", Cond.fieldLink RX2 15 "LeastChange$Search" "home" "[I", Cond.fieldLink RX2 11 "LeastChange$Search" "left" "[I", Cond.fieldLink RX2 38 "LeastChange$Search" "rules" "LLeastChange$Rules;", Cond.methodLink RX2 51 yX2_giveFrom, Cond.instanceMethod yX2_giveFrom, Cond.selects RX2 yX2_giveFrom yX2_giveFrom, Cond.initialized RX2, Cond.code yX2_giveFrom cX2_giveFrom 6 none, Cond.methodLink RX2 55 yX2_keep, Cond.instanceMethod yX2_keep, Cond.selects RX2 yX2_keep yX2_keep, Cond.code yX2_keep cX2_keep 3 none, Cond.fieldLink RX2 21 "LeastChange$Search" "kept" "[I", Cond.fieldLink RX2 18 "LeastChange$Search" "tried" "[I", Cond.fieldLink RX2 34 "LeastChange$Search" "endsWithFirst" "Z", Cond.methodLink RX2 59 yX2_give, Cond.instanceMethod yX2_give, Cond.selects RX2 yX2_give yX2_give, Cond.code yX2_give cX2_give 5 none, Cond.methodLink RX2 63 yX2_costOf, Cond.static yX2_costOf]
def wsX2_find_r2 : List Cond := [Cond.code yX2_costOf cX2_costOf 2 (some .int), Cond.static yX3_isChanged, Cond.initialized RX3, Cond.code yX3_isChanged cX3_isChanged 2 (some .boolean), Cond.static yX3_isDown, Cond.code yX3_isDown cX3_isDown 2 (some .boolean), Cond.methodLink RX2 67 yX2_narrowRest, Cond.instanceMethod yX2_narrowRest, Cond.selects RX2 yX2_narrowRest yX2_narrowRest, Cond.code yX2_narrowRest cX2_narrowRest 10 (some .int), Cond.static yX1_place, Cond.initialized RX1, Cond.code yX1_place cX1_place 3 (some .int), Cond.methodLink RX2 77 yX2_leastCostOf, Cond.static yX2_leastCostOf, Cond.code yX2_leastCostOf cX2_leastCostOf 3 (some .int)]
def wsX2_find : List Cond := .code yX2_find cX2_find 5 (some .boolean) :: ((wsX2_find_r1 ++ wsX2_find_r2) ++ wsX20 ++ wsX10 ++ (vx_atM "java/lang/ArrayIndexOutOfBoundsException" ["java/lang/IndexOutOfBoundsException", "java/lang/RuntimeException", "java/lang/Exception"]).filter goodWord)
def wsX2_findBest_r1 : List Cond := [Cond.fieldLink RX2 34 "LeastChange$Search" "endsWithFirst" "Z", Cond.methodLink RX2 42 yX2_find, Cond.instanceMethod yX2_find, Cond.selects RX2 yX2_find yX2_find, Cond.initialized RX2, Cond.code yX2_find cX2_find 5 (some .boolean), Cond.fieldLink RX2 24 "LeastChange$Search" "names" "I", Cond.fieldLink RX2 28 "LeastChange$Search" "keptCost" "I", Cond.fieldLink RX2 31 "LeastChange$Search" "costBound" "I", Cond.fieldLink RX2 15 "LeastChange$Search" "home" "[I", Cond.fieldLink RX2 11 "LeastChange$Search" "left" "[I", Cond.fieldLink RX2 38 "LeastChange$Search" "rules" "LLeastChange$Rules;", Cond.methodLink RX2 51 yX2_giveFrom, Cond.instanceMethod yX2_giveFrom, Cond.selects RX2 yX2_giveFrom yX2_giveFrom, Cond.code yX2_giveFrom cX2_giveFrom 6 none, Cond.methodLink RX2 55 yX2_keep, Cond.instanceMethod yX2_keep, Cond.selects RX2 yX2_keep yX2_keep, Cond.code yX2_keep cX2_keep 3 none, Cond.fieldLink RX2 21 "LeastChange$Search" "kept" "[I", Cond.fieldLink RX2 18 "LeastChange$Search" "tried" "[I", Cond.methodLink RX2 59 yX2_give, Cond.instanceMethod yX2_give]
def wsX2_findBest_r2 : List Cond := [Cond.selects RX2 yX2_give yX2_give, Cond.code yX2_give cX2_give 5 none, Cond.methodLink RX2 63 yX2_costOf, Cond.static yX2_costOf, Cond.code yX2_costOf cX2_costOf 2 (some .int), Cond.static yX3_isChanged, Cond.initialized RX3, Cond.code yX3_isChanged cX3_isChanged 2 (some .boolean), Cond.static yX3_isDown, Cond.code yX3_isDown cX3_isDown 2 (some .boolean), Cond.methodLink RX2 67 yX2_narrowRest, Cond.instanceMethod yX2_narrowRest, Cond.selects RX2 yX2_narrowRest yX2_narrowRest, Cond.code yX2_narrowRest cX2_narrowRest 10 (some .int), Cond.static yX1_place, Cond.initialized RX1, Cond.code yX1_place cX1_place 3 (some .int), Cond.methodLink RX2 77 yX2_leastCostOf, Cond.static yX2_leastCostOf, Cond.code yX2_leastCostOf cX2_leastCostOf 3 (some .int)]
def wsX2_findBest : List Cond := .code yX2_findBest cX2_findBest 4 (some .boolean) :: ((wsX2_findBest_r1 ++ wsX2_findBest_r2) ++ wsX20 ++ wsX10 ++ (vx_atM "java/lang/ArrayIndexOutOfBoundsException" ["java/lang/IndexOutOfBoundsException", "java/lang/RuntimeException", "java/lang/Exception"]).filter goodWord)
def wsX2_findFirst_r1 : List Cond := [Cond.fieldLink RX2 34 "LeastChange$Search" "endsWithFirst" "Z", Cond.methodLink RX2 42 yX2_find, Cond.instanceMethod yX2_find, Cond.selects RX2 yX2_find yX2_find, Cond.initialized RX2, Cond.code yX2_find cX2_find 5 (some .boolean), Cond.fieldLink RX2 24 "LeastChange$Search" "names" "I", Cond.fieldLink RX2 28 "LeastChange$Search" "keptCost" "I", Cond.fieldLink RX2 31 "LeastChange$Search" "costBound" "I", Cond.fieldLink RX2 15 "LeastChange$Search" "home" "[I", Cond.fieldLink RX2 11 "LeastChange$Search" "left" "[I", Cond.fieldLink RX2 38 "LeastChange$Search" "rules" "LLeastChange$Rules;", Cond.methodLink RX2 51 yX2_giveFrom, Cond.instanceMethod yX2_giveFrom, Cond.selects RX2 yX2_giveFrom yX2_giveFrom, Cond.code yX2_giveFrom cX2_giveFrom 6 none, Cond.methodLink RX2 55 yX2_keep, Cond.instanceMethod yX2_keep, Cond.selects RX2 yX2_keep yX2_keep, Cond.code yX2_keep cX2_keep 3 none, Cond.fieldLink RX2 21 "LeastChange$Search" "kept" "[I", Cond.fieldLink RX2 18 "LeastChange$Search" "tried" "[I", Cond.methodLink RX2 59 yX2_give, Cond.instanceMethod yX2_give]
def wsX2_findFirst_r2 : List Cond := [Cond.selects RX2 yX2_give yX2_give, Cond.code yX2_give cX2_give 5 none, Cond.methodLink RX2 63 yX2_costOf, Cond.static yX2_costOf, Cond.code yX2_costOf cX2_costOf 2 (some .int), Cond.static yX3_isChanged, Cond.initialized RX3, Cond.code yX3_isChanged cX3_isChanged 2 (some .boolean), Cond.static yX3_isDown, Cond.code yX3_isDown cX3_isDown 2 (some .boolean), Cond.methodLink RX2 67 yX2_narrowRest, Cond.instanceMethod yX2_narrowRest, Cond.selects RX2 yX2_narrowRest yX2_narrowRest, Cond.code yX2_narrowRest cX2_narrowRest 10 (some .int), Cond.static yX1_place, Cond.initialized RX1, Cond.code yX1_place cX1_place 3 (some .int), Cond.methodLink RX2 77 yX2_leastCostOf, Cond.static yX2_leastCostOf, Cond.code yX2_leastCostOf cX2_leastCostOf 3 (some .int)]
def wsX2_findFirst : List Cond := .code yX2_findFirst cX2_findFirst 4 (some .boolean) :: ((wsX2_findFirst_r1 ++ wsX2_findFirst_r2) ++ wsX20 ++ wsX10 ++ (vx_atM "java/lang/ArrayIndexOutOfBoundsException" ["java/lang/IndexOutOfBoundsException", "java/lang/RuntimeException", "java/lang/Exception"]).filter goodWord)
def wsX2_changedCount : List Cond := .code yX2_changedCount cX2_changedCount 1 (some .int) :: ([.fieldLink RX2 28 "LeastChange$Search" "keptCost" "I"] ++ wsX20)
def wsX3_init_r1 : List Cond := [Cond.methodLink RX3 3 objectInit, Cond.instanceMethod objectInit, Cond.code objectInit ⟨#[0xb1]⟩ 1 none, Cond.classLink RX3 9 RX1, Cond.instantiable RX1 2, Cond.initialized RX1, Cond.fieldLink RX3 12 "LeastChange" "rules" "LLeastChange$Rules;", Cond.classLink RX3 16 RX2, Cond.instantiable RX2 9, Cond.initialized RX2, Cond.fieldLink RX3 21 "LeastChange" "search" "LLeastChange$Search;", Cond.classLink RX3 25 RX0, Cond.instantiable RX0 4, Cond.initialized RX0, Cond.fieldLink RX3 28 "LeastChange" "found" "LLeastChange$Found;", Cond.arrayClass .int, Cond.fieldLink RX3 32 "LeastChange" "versions" "[I", Cond.fieldLink RX3 36 "LeastChange" "locked" "[I", Cond.fieldLink RX3 39 "LeastChange" "joined" "[I", Cond.fieldLink RX3 42 "LeastChange" "barred" "[I", Cond.fieldLink RX3 45 "LeastChange" "rows" "[I", Cond.fieldLink RX3 48 "LeastChange" "nameCount" "I", Cond.fieldLink RX3 52 "LeastChange" "rowCount" "I", Cond.instanceMethod yX1_init]
def wsX3_init_r2 : List Cond := [Cond.code yX1_init cX1_init 1 none, Cond.methodLink RX1 3 objectInit, Cond.fieldLink RX1 9 "LeastChange$Rules" "alone" "[I", Cond.fieldLink RX1 15 "LeastChange$Rules" "beside" "[I", Cond.methodLink RX1 18 yJ7_fill_53178, Cond.static yJ7_fill_53178, Cond.initialized RJ7, Cond.code yJ7_fill_53178 cJ7_fill_53178 4 none, Cond.instanceMethod yX2_init, Cond.code yX2_init cX2_init 2 none, Cond.methodLink RX2 5 objectInit, Cond.fieldLink RX2 11 "LeastChange$Search" "left" "[I", Cond.fieldLink RX2 15 "LeastChange$Search" "home" "[I", Cond.fieldLink RX2 18 "LeastChange$Search" "tried" "[I", Cond.fieldLink RX2 21 "LeastChange$Search" "kept" "[I", Cond.fieldLink RX2 24 "LeastChange$Search" "names" "I", Cond.fieldLink RX2 28 "LeastChange$Search" "keptCost" "I", Cond.fieldLink RX2 31 "LeastChange$Search" "costBound" "I", Cond.fieldLink RX2 34 "LeastChange$Search" "endsWithFirst" "Z", Cond.fieldLink RX2 38 "LeastChange$Search" "rules" "LLeastChange$Rules;", Cond.instanceMethod yX0_init, Cond.code yX0_init cX0_init 1 none, Cond.methodLink RX0 3 objectInit, Cond.fieldLink RX0 9 "LeastChange$Found" "codes" "[I"]
def wsX3_init_r3 : List Cond := [Cond.fieldLink RX0 15 "LeastChange$Found" "given" "I", Cond.fieldLink RX0 19 "LeastChange$Found" "changed" "I", Cond.fieldLink RX0 22 "LeastChange$Found" "down" "I"]
def wsX3_init : List Cond := .code yX3_init cX3_init 1 none :: ((wsX3_init_r1 ++ (wsX3_init_r2 ++ wsX3_init_r3)) ++ wsX10 ++ wsX30 ++ wsX20 ++ wsX00)
def wsX3_codeOf : List Cond := .code yX3_codeOf cX3_codeOf 1 (some .int) :: ([])
def wsX3_name : List Cond := .code yX3_name cX3_name 4 (some .int) :: ([.fieldLink RX3 48 "LeastChange" "nameCount" "I", .fieldLink RX3 32 "LeastChange" "versions" "[I", .fieldLink RX3 36 "LeastChange" "locked" "[I", .fieldLink RX3 12 "LeastChange" "rules" "LLeastChange$Rules;", .methodLink RX3 55 yX3_codeOf, .static yX3_codeOf, .initialized RX3, .code yX3_codeOf cX3_codeOf 1 (some .int), .instanceMethod yX1_open, .initialized RX1, .selects RX1 yX1_open yX1_open, .code yX1_open cX1_open 3 none, .fieldLink RX1 9 "LeastChange$Rules" "alone" "[I"] ++ wsX30 ++ wsX10 ++ (vx_atM "java/lang/ArrayIndexOutOfBoundsException" ["java/lang/IndexOutOfBoundsException", "java/lang/RuntimeException", "java/lang/Exception"]).filter goodWord)
def wsX3_isName : List Cond := .code yX3_isName cX3_isName 2 (some .boolean) :: ([.fieldLink RX3 48 "LeastChange" "nameCount" "I"] ++ wsX30)
def wsX3_codesOf : List Cond := .code yX3_codesOf cX3_codesOf 2 (some .int) :: ([])
def wsX3_addRow : List Cond := .code yX3_addRow cX3_addRow 6 (some .int) :: ([.fieldLink RX3 52 "LeastChange" "rowCount" "I", .fieldLink RX3 45 "LeastChange" "rows" "[I"] ++ wsX30 ++ (vx_atM "java/lang/ArrayIndexOutOfBoundsException" ["java/lang/IndexOutOfBoundsException", "java/lang/RuntimeException", "java/lang/Exception"]).filter goodWord)
def wsX3_needs_r1 : List Cond := [Cond.fieldLink RX3 32 "LeastChange" "versions" "[I", Cond.fieldLink RX3 52 "LeastChange" "rowCount" "I", Cond.fieldLink RX3 12 "LeastChange" "rules" "LLeastChange$Rules;", Cond.methodLink RX3 63 yX3_isName, Cond.instanceMethod yX3_isName, Cond.selects RX3 yX3_isName yX3_isName, Cond.initialized RX3, Cond.code yX3_isName cX3_isName 2 (some .boolean), Cond.fieldLink RX3 48 "LeastChange" "nameCount" "I", Cond.methodLink RX3 55 yX3_codeOf, Cond.static yX3_codeOf, Cond.code yX3_codeOf cX3_codeOf 1 (some .int), Cond.methodLink RX3 67 yX3_codesOf, Cond.static yX3_codesOf, Cond.code yX3_codesOf cX3_codesOf 2 (some .int), Cond.instanceMethod yX1_tie, Cond.initialized RX1, Cond.selects RX1 yX1_tie yX1_tie, Cond.code yX1_tie cX1_tie 6 none, Cond.fieldLink RX1 15 "LeastChange$Rules" "beside" "[I", Cond.methodLink RX1 24 yX1_narrow, Cond.instanceMethod yX1_narrow, Cond.selects RX1 yX1_narrow yX1_narrow, Cond.code yX1_narrow cX1_narrow 3 none]
def wsX3_needs_r2 : List Cond := [Cond.fieldLink RX1 9 "LeastChange$Rules" "alone" "[I", Cond.methodLink RX1 28 yX1_place, Cond.static yX1_place, Cond.code yX1_place cX1_place 3 (some .int), Cond.methodLink RX3 75 yX3_addRow, Cond.instanceMethod yX3_addRow, Cond.selects RX3 yX3_addRow yX3_addRow, Cond.code yX3_addRow cX3_addRow 6 (some .int), Cond.fieldLink RX3 45 "LeastChange" "rows" "[I"]
def wsX3_needs : List Cond := .code yX3_needs cX3_needs 6 (some .int) :: ((wsX3_needs_r1 ++ wsX3_needs_r2) ++ wsX30 ++ wsX10 ++ (vx_atM "java/lang/ArrayIndexOutOfBoundsException" ["java/lang/IndexOutOfBoundsException", "java/lang/RuntimeException", "java/lang/Exception"]).filter goodWord)
def wsX3_addSetRow : List Cond := .code yX3_addSetRow cX3_addSetRow 4 (some .int) :: ([.fieldLink RX3 52 "LeastChange" "rowCount" "I", .fieldLink RX3 12 "LeastChange" "rules" "LLeastChange$Rules;", .methodLink RX3 63 yX3_isName, .instanceMethod yX3_isName, .selects RX3 yX3_isName yX3_isName, .initialized RX3, .code yX3_isName cX3_isName 2 (some .boolean), .fieldLink RX3 48 "LeastChange" "nameCount" "I", .instanceMethod yX1_narrow, .initialized RX1, .selects RX1 yX1_narrow yX1_narrow, .code yX1_narrow cX1_narrow 3 none, .fieldLink RX1 9 "LeastChange$Rules" "alone" "[I", .methodLink RX3 75 yX3_addRow, .instanceMethod yX3_addRow, .selects RX3 yX3_addRow yX3_addRow, .code yX3_addRow cX3_addRow 6 (some .int), .fieldLink RX3 45 "LeastChange" "rows" "[I"] ++ wsX30 ++ wsX10 ++ (vx_atM "java/lang/ArrayIndexOutOfBoundsException" ["java/lang/IndexOutOfBoundsException", "java/lang/RuntimeException", "java/lang/Exception"]).filter goodWord)
def wsX3_want_r1 : List Cond := [Cond.methodLink RX3 67 yX3_codesOf, Cond.static yX3_codesOf, Cond.initialized RX3, Cond.code yX3_codesOf cX3_codesOf 2 (some .int), Cond.methodLink RX3 79 yX3_addSetRow, Cond.instanceMethod yX3_addSetRow, Cond.selects RX3 yX3_addSetRow yX3_addSetRow, Cond.code yX3_addSetRow cX3_addSetRow 4 (some .int), Cond.fieldLink RX3 52 "LeastChange" "rowCount" "I", Cond.fieldLink RX3 12 "LeastChange" "rules" "LLeastChange$Rules;", Cond.methodLink RX3 63 yX3_isName, Cond.instanceMethod yX3_isName, Cond.selects RX3 yX3_isName yX3_isName, Cond.code yX3_isName cX3_isName 2 (some .boolean), Cond.fieldLink RX3 48 "LeastChange" "nameCount" "I", Cond.instanceMethod yX1_narrow, Cond.initialized RX1, Cond.selects RX1 yX1_narrow yX1_narrow, Cond.code yX1_narrow cX1_narrow 3 none, Cond.fieldLink RX1 9 "LeastChange$Rules" "alone" "[I", Cond.methodLink RX3 75 yX3_addRow, Cond.instanceMethod yX3_addRow, Cond.selects RX3 yX3_addRow yX3_addRow, Cond.code yX3_addRow cX3_addRow 6 (some .int)]
def wsX3_want_r2 : List Cond := [Cond.fieldLink RX3 45 "LeastChange" "rows" "[I"]
def wsX3_want : List Cond := .code yX3_want cX3_want 4 (some .int) :: ((wsX3_want_r1 ++ wsX3_want_r2) ++ wsX30 ++ wsX10 ++ (vx_atM "java/lang/ArrayIndexOutOfBoundsException" ["java/lang/IndexOutOfBoundsException", "java/lang/RuntimeException", "java/lang/Exception"]).filter goodWord)
def wsX3_force_r1 : List Cond := [Cond.methodLink RX3 67 yX3_codesOf, Cond.static yX3_codesOf, Cond.initialized RX3, Cond.code yX3_codesOf cX3_codesOf 2 (some .int), Cond.methodLink RX3 79 yX3_addSetRow, Cond.instanceMethod yX3_addSetRow, Cond.selects RX3 yX3_addSetRow yX3_addSetRow, Cond.code yX3_addSetRow cX3_addSetRow 4 (some .int), Cond.fieldLink RX3 52 "LeastChange" "rowCount" "I", Cond.fieldLink RX3 12 "LeastChange" "rules" "LLeastChange$Rules;", Cond.methodLink RX3 63 yX3_isName, Cond.instanceMethod yX3_isName, Cond.selects RX3 yX3_isName yX3_isName, Cond.code yX3_isName cX3_isName 2 (some .boolean), Cond.fieldLink RX3 48 "LeastChange" "nameCount" "I", Cond.instanceMethod yX1_narrow, Cond.initialized RX1, Cond.selects RX1 yX1_narrow yX1_narrow, Cond.code yX1_narrow cX1_narrow 3 none, Cond.fieldLink RX1 9 "LeastChange$Rules" "alone" "[I", Cond.methodLink RX3 75 yX3_addRow, Cond.instanceMethod yX3_addRow, Cond.selects RX3 yX3_addRow yX3_addRow, Cond.code yX3_addRow cX3_addRow 6 (some .int)]
def wsX3_force_r2 : List Cond := [Cond.fieldLink RX3 45 "LeastChange" "rows" "[I"]
def wsX3_force : List Cond := .code yX3_force cX3_force 4 (some .int) :: ((wsX3_force_r1 ++ wsX3_force_r2) ++ wsX30 ++ wsX10 ++ (vx_atM "java/lang/ArrayIndexOutOfBoundsException" ["java/lang/IndexOutOfBoundsException", "java/lang/RuntimeException", "java/lang/Exception"]).filter goodWord)
def wsX3_group_r1 : List Cond := [Cond.fieldLink RX3 52 "LeastChange" "rowCount" "I", Cond.fieldLink RX3 12 "LeastChange" "rules" "LLeastChange$Rules;", Cond.methodLink RX3 63 yX3_isName, Cond.instanceMethod yX3_isName, Cond.selects RX3 yX3_isName yX3_isName, Cond.initialized RX3, Cond.code yX3_isName cX3_isName 2 (some .boolean), Cond.fieldLink RX3 48 "LeastChange" "nameCount" "I", Cond.instanceMethod yX1_tie, Cond.initialized RX1, Cond.selects RX1 yX1_tie yX1_tie, Cond.code yX1_tie cX1_tie 6 none, Cond.fieldLink RX1 15 "LeastChange$Rules" "beside" "[I", Cond.methodLink RX1 24 yX1_narrow, Cond.instanceMethod yX1_narrow, Cond.selects RX1 yX1_narrow yX1_narrow, Cond.code yX1_narrow cX1_narrow 3 none, Cond.fieldLink RX1 9 "LeastChange$Rules" "alone" "[I", Cond.methodLink RX1 28 yX1_place, Cond.static yX1_place, Cond.code yX1_place cX1_place 3 (some .int), Cond.methodLink RX3 75 yX3_addRow, Cond.instanceMethod yX3_addRow, Cond.selects RX3 yX3_addRow yX3_addRow]
def wsX3_group_r2 : List Cond := [Cond.code yX3_addRow cX3_addRow 6 (some .int), Cond.fieldLink RX3 45 "LeastChange" "rows" "[I"]
def wsX3_group : List Cond := .code yX3_group cX3_group 4 (some .int) :: ((wsX3_group_r1 ++ wsX3_group_r2) ++ wsX30 ++ wsX10 ++ (vx_atM "java/lang/ArrayIndexOutOfBoundsException" ["java/lang/IndexOutOfBoundsException", "java/lang/RuntimeException", "java/lang/Exception"]).filter goodWord)
def wsX3_waysToTry : List Cond := .code yX3_waysToTry cX3_waysToTry 5 (some .int) :: ([.fieldLink RX3 48 "LeastChange" "nameCount" "I"] ++ wsX30)
def wsX3_solve_r1 : List Cond := [Cond.fieldLink RX3 21 "LeastChange" "search" "LLeastChange$Search;", Cond.fieldLink RX3 48 "LeastChange" "nameCount" "I", Cond.fieldLink RX3 36 "LeastChange" "locked" "[I", Cond.fieldLink RX3 42 "LeastChange" "barred" "[I", Cond.methodLink RX3 91 Lib.Math.min.name, Cond.static Lib.Math.min.name, Cond.initialized "java/lang/Math", Cond.code Lib.Math.min.name Lib.Math.min.code 2 (some .int), Cond.fieldLink RX3 28 "LeastChange" "found" "LLeastChange$Found;", Cond.instanceMethod yX2_findBest, Cond.initialized RX2, Cond.selects RX2 yX2_findBest yX2_findBest, Cond.code yX2_findBest cX2_findBest 4 (some .boolean), Cond.fieldLink RX2 34 "LeastChange$Search" "endsWithFirst" "Z", Cond.methodLink RX2 42 yX2_find, Cond.instanceMethod yX2_find, Cond.selects RX2 yX2_find yX2_find, Cond.code yX2_find cX2_find 5 (some .boolean), Cond.fieldLink RX2 24 "LeastChange$Search" "names" "I", Cond.fieldLink RX2 28 "LeastChange$Search" "keptCost" "I", Cond.fieldLink RX2 31 "LeastChange$Search" "costBound" "I", Cond.fieldLink RX2 15 "LeastChange$Search" "home" "[I", Cond.fieldLink RX2 11 "LeastChange$Search" "left" "[I", Cond.fieldLink RX2 38 "LeastChange$Search" "rules" "LLeastChange$Rules;"]
def wsX3_solve_r2 : List Cond := [Cond.methodLink RX2 51 yX2_giveFrom, Cond.instanceMethod yX2_giveFrom, Cond.selects RX2 yX2_giveFrom yX2_giveFrom, Cond.code yX2_giveFrom cX2_giveFrom 6 none, Cond.methodLink RX2 55 yX2_keep, Cond.instanceMethod yX2_keep, Cond.selects RX2 yX2_keep yX2_keep, Cond.code yX2_keep cX2_keep 3 none, Cond.fieldLink RX2 21 "LeastChange$Search" "kept" "[I", Cond.fieldLink RX2 18 "LeastChange$Search" "tried" "[I", Cond.methodLink RX2 59 yX2_give, Cond.instanceMethod yX2_give, Cond.selects RX2 yX2_give yX2_give, Cond.code yX2_give cX2_give 5 none, Cond.methodLink RX2 63 yX2_costOf, Cond.static yX2_costOf, Cond.code yX2_costOf cX2_costOf 2 (some .int), Cond.static yX3_isChanged, Cond.initialized RX3, Cond.code yX3_isChanged cX3_isChanged 2 (some .boolean), Cond.static yX3_isDown, Cond.code yX3_isDown cX3_isDown 2 (some .boolean), Cond.methodLink RX2 67 yX2_narrowRest, Cond.instanceMethod yX2_narrowRest]
def wsX3_solve_r3 : List Cond := [Cond.selects RX2 yX2_narrowRest yX2_narrowRest, Cond.code yX2_narrowRest cX2_narrowRest 10 (some .int), Cond.static yX1_place, Cond.initialized RX1, Cond.code yX1_place cX1_place 3 (some .int), Cond.methodLink RX2 77 yX2_leastCostOf, Cond.static yX2_leastCostOf, Cond.code yX2_leastCostOf cX2_leastCostOf 3 (some .int), Cond.instanceMethod yX2_changedCount, Cond.selects RX2 yX2_changedCount yX2_changedCount, Cond.code yX2_changedCount cX2_changedCount 1 (some .int), Cond.methodLink RX3 97 yX3_waysToTry, Cond.instanceMethod yX3_waysToTry, Cond.selects RX3 yX3_waysToTry yX3_waysToTry, Cond.code yX3_waysToTry cX3_waysToTry 5 (some .int), Cond.instanceMethod yX2_findFirst, Cond.selects RX2 yX2_findFirst yX2_findFirst, Cond.code yX2_findFirst cX2_findFirst 4 (some .boolean), Cond.instanceMethod yX0_keep, Cond.initialized RX0, Cond.selects RX0 yX0_keep yX0_keep, Cond.code yX0_keep cX0_keep 6 none, Cond.fieldLink RX0 15 "LeastChange$Found" "given" "I", Cond.fieldLink RX0 19 "LeastChange$Found" "changed" "I"]
def wsX3_solve_r4 : List Cond := [Cond.fieldLink RX0 22 "LeastChange$Found" "down" "I", Cond.fieldLink RX0 9 "LeastChange$Found" "codes" "[I", Cond.instanceMethod yX2_keptCode, Cond.selects RX2 yX2_keptCode yX2_keptCode, Cond.code yX2_keptCode cX2_keptCode 2 (some .int)]
def wsX3_solve : List Cond := .code yX3_solve cX3_solve 7 (some .int) :: ((wsX3_solve_r1 ++ (wsX3_solve_r2 ++ (wsX3_solve_r3 ++ wsX3_solve_r4))) ++ wsX30 ++ wsX20 ++ wsX10 ++ wsX00 ++ (vx_atM "java/lang/ArrayIndexOutOfBoundsException" ["java/lang/IndexOutOfBoundsException", "java/lang/RuntimeException", "java/lang/Exception"]).filter goodWord)
def wsX3_versionOf : List Cond := .code yX3_versionOf cX3_versionOf 1 (some .int) :: ([])
def wsX3_chosen : List Cond := .code yX3_chosen cX3_chosen 2 (some .int) :: ([.fieldLink RX3 28 "LeastChange" "found" "LLeastChange$Found;", .methodLink RX3 63 yX3_isName, .instanceMethod yX3_isName, .selects RX3 yX3_isName yX3_isName, .initialized RX3, .code yX3_isName cX3_isName 2 (some .boolean), .fieldLink RX3 48 "LeastChange" "nameCount" "I", .methodLink RX3 110 yX3_versionOf, .static yX3_versionOf, .code yX3_versionOf cX3_versionOf 1 (some .int)] ++ wsX30 ++ wsX00 ++ (vx_atM "java/lang/ArrayIndexOutOfBoundsException" ["java/lang/IndexOutOfBoundsException", "java/lang/RuntimeException", "java/lang/Exception"]).filter goodWord)
def wsX3_ithOf : List Cond := .code yX3_ithOf cX3_ithOf 4 (some .int) :: ([])
def wsX3_down : List Cond := .code yX3_down cX3_down 2 (some .int) :: ([.fieldLink RX3 28 "LeastChange" "found" "LLeastChange$Found;", .methodLink RX3 116 yX3_ithOf, .static yX3_ithOf, .initialized RX3, .code yX3_ithOf cX3_ithOf 4 (some .int)] ++ wsX30 ++ wsX00)
def wsX3_digestOf : List Cond := .code yX3_digestOf cX3_digestOf 2 (some .long) :: ([.constantLong RX3 151 (1000003), .constantLong RX3 153 (2654435761)])
def wsX3_lock : List Cond := .code yX3_lock cX3_lock 5 (some .int) :: ([.fieldLink RX3 28 "LeastChange" "found" "LLeastChange$Found;", .constantLong RX3 126 (2147483647), .methodLink RX3 116 yX3_ithOf, .static yX3_ithOf, .initialized RX3, .code yX3_ithOf cX3_ithOf 4 (some .int), .methodLink RX3 63 yX3_isName, .instanceMethod yX3_isName, .selects RX3 yX3_isName yX3_isName, .code yX3_isName cX3_isName 2 (some .boolean), .fieldLink RX3 48 "LeastChange" "nameCount" "I", .methodLink RX3 110 yX3_versionOf, .static yX3_versionOf, .code yX3_versionOf cX3_versionOf 1 (some .int), .methodLink RX3 122 yX3_digestOf, .static yX3_digestOf, .code yX3_digestOf cX3_digestOf 2 (some .long), .constantLong RX3 151 (1000003), .constantLong RX3 153 (2654435761)] ++ wsX30 ++ wsX00 ++ (vx_atM "java/lang/ArrayIndexOutOfBoundsException" ["java/lang/IndexOutOfBoundsException", "java/lang/RuntimeException", "java/lang/Exception"]).filter goodWord)
def wsX3_digest : List Cond := .code yX3_digest cX3_digest 7 (some .long) :: ([.constantLong RX3 131 (-1), .fieldLink RX3 36 "LeastChange" "locked" "[I", .fieldLink RX3 32 "LeastChange" "versions" "[I", .constantLong RX3 133 (-3), .fieldLink RX3 42 "LeastChange" "barred" "[I", .methodLink RX3 63 yX3_isName, .instanceMethod yX3_isName, .selects RX3 yX3_isName yX3_isName, .initialized RX3, .code yX3_isName cX3_isName 2 (some .boolean), .fieldLink RX3 48 "LeastChange" "nameCount" "I", .methodLink RX3 110 yX3_versionOf, .static yX3_versionOf, .code yX3_versionOf cX3_versionOf 1 (some .int), .methodLink RX3 122 yX3_digestOf, .static yX3_digestOf, .code yX3_digestOf cX3_digestOf 2 (some .long), .constantLong RX3 151 (1000003), .constantLong RX3 153 (2654435761)] ++ wsX30 ++ (vx_atM "java/lang/ArrayIndexOutOfBoundsException" ["java/lang/IndexOutOfBoundsException", "java/lang/RuntimeException", "java/lang/Exception"]).filter goodWord)
def wsX3_lockToFound : List Cond := .code yX3_lockToFound cX3_lockToFound 2 none :: ([.fieldLink RX3 48 "LeastChange" "nameCount" "I", .fieldLink RX3 28 "LeastChange" "found" "LLeastChange$Found;", .fieldLink RX3 36 "LeastChange" "locked" "[I", .fieldLink RX3 42 "LeastChange" "barred" "[I"] ++ wsX30 ++ wsX00 ++ (vx_atM "java/lang/ArrayIndexOutOfBoundsException" ["java/lang/IndexOutOfBoundsException", "java/lang/RuntimeException", "java/lang/Exception"]).filter goodWord)
def wsX3_merge_r1 : List Cond := [Cond.fieldLink RX3 48 "LeastChange" "nameCount" "I", Cond.fieldLink RX3 39 "LeastChange" "joined" "[I", Cond.fieldLink RX3 36 "LeastChange" "locked" "[I", Cond.methodLink RX3 135 Lib.Math.max.name, Cond.static Lib.Math.max.name, Cond.initialized "java/lang/Math", Cond.code Lib.Math.max.name Lib.Math.max.code 2 (some .int), Cond.fieldLink RX3 21 "LeastChange" "search" "LLeastChange$Search;", Cond.fieldLink RX3 42 "LeastChange" "barred" "[I", Cond.fieldLink RX3 28 "LeastChange" "found" "LLeastChange$Found;", Cond.instanceMethod yX2_findBest, Cond.initialized RX2, Cond.selects RX2 yX2_findBest yX2_findBest, Cond.code yX2_findBest cX2_findBest 4 (some .boolean), Cond.fieldLink RX2 34 "LeastChange$Search" "endsWithFirst" "Z", Cond.methodLink RX2 42 yX2_find, Cond.instanceMethod yX2_find, Cond.selects RX2 yX2_find yX2_find, Cond.code yX2_find cX2_find 5 (some .boolean), Cond.fieldLink RX2 24 "LeastChange$Search" "names" "I", Cond.fieldLink RX2 28 "LeastChange$Search" "keptCost" "I", Cond.fieldLink RX2 31 "LeastChange$Search" "costBound" "I", Cond.fieldLink RX2 15 "LeastChange$Search" "home" "[I", Cond.fieldLink RX2 11 "LeastChange$Search" "left" "[I"]
def wsX3_merge_r2 : List Cond := [Cond.fieldLink RX2 38 "LeastChange$Search" "rules" "LLeastChange$Rules;", Cond.methodLink RX2 51 yX2_giveFrom, Cond.instanceMethod yX2_giveFrom, Cond.selects RX2 yX2_giveFrom yX2_giveFrom, Cond.code yX2_giveFrom cX2_giveFrom 6 none, Cond.methodLink RX2 55 yX2_keep, Cond.instanceMethod yX2_keep, Cond.selects RX2 yX2_keep yX2_keep, Cond.code yX2_keep cX2_keep 3 none, Cond.fieldLink RX2 21 "LeastChange$Search" "kept" "[I", Cond.fieldLink RX2 18 "LeastChange$Search" "tried" "[I", Cond.methodLink RX2 59 yX2_give, Cond.instanceMethod yX2_give, Cond.selects RX2 yX2_give yX2_give, Cond.code yX2_give cX2_give 5 none, Cond.methodLink RX2 63 yX2_costOf, Cond.static yX2_costOf, Cond.code yX2_costOf cX2_costOf 2 (some .int), Cond.static yX3_isChanged, Cond.initialized RX3, Cond.code yX3_isChanged cX3_isChanged 2 (some .boolean), Cond.static yX3_isDown, Cond.code yX3_isDown cX3_isDown 2 (some .boolean), Cond.methodLink RX2 67 yX2_narrowRest]
def wsX3_merge_r3 : List Cond := [Cond.instanceMethod yX2_narrowRest, Cond.selects RX2 yX2_narrowRest yX2_narrowRest, Cond.code yX2_narrowRest cX2_narrowRest 10 (some .int), Cond.static yX1_place, Cond.initialized RX1, Cond.code yX1_place cX1_place 3 (some .int), Cond.methodLink RX2 77 yX2_leastCostOf, Cond.static yX2_leastCostOf, Cond.code yX2_leastCostOf cX2_leastCostOf 3 (some .int), Cond.instanceMethod yX0_keep, Cond.initialized RX0, Cond.selects RX0 yX0_keep yX0_keep, Cond.code yX0_keep cX0_keep 6 none, Cond.fieldLink RX0 15 "LeastChange$Found" "given" "I", Cond.fieldLink RX0 19 "LeastChange$Found" "changed" "I", Cond.fieldLink RX0 22 "LeastChange$Found" "down" "I", Cond.fieldLink RX0 9 "LeastChange$Found" "codes" "[I", Cond.instanceMethod yX2_keptCode, Cond.selects RX2 yX2_keptCode yX2_keptCode, Cond.code yX2_keptCode cX2_keptCode 2 (some .int), Cond.methodLink RX3 138 yX3_lockToFound, Cond.instanceMethod yX3_lockToFound, Cond.selects RX3 yX3_lockToFound yX3_lockToFound, Cond.code yX3_lockToFound cX3_lockToFound 2 none]
def wsX3_merge : List Cond := .code yX3_merge cX3_merge 3 (some .int) :: ((wsX3_merge_r1 ++ (wsX3_merge_r2 ++ wsX3_merge_r3)) ++ wsX30 ++ wsX20 ++ wsX10 ++ wsX00 ++ (vx_atM "java/lang/ArrayIndexOutOfBoundsException" ["java/lang/IndexOutOfBoundsException", "java/lang/RuntimeException", "java/lang/Exception"]).filter goodWord)
def wsX3_row : List Cond := .code yX3_row cX3_row 2 (some .int) :: ([.fieldLink RX3 52 "LeastChange" "rowCount" "I", .classLink RX3 141 RJx00060, .instantiable RJx00060 6, .initialized RJx00060, .fieldLink RX3 45 "LeastChange" "rows" "[I"] ++ wsX30 ++ wsJx000600 ++ (vx_atM "java/lang/ArrayIndexOutOfBoundsException" ["java/lang/IndexOutOfBoundsException", "java/lang/RuntimeException", "java/lang/Exception"]).filter goodWord)
def wsX4_init : List Cond := .code yX4_init cX4_init 1 none :: ([.methodLink RX4 1 objectInit, .instanceMethod objectInit, .code objectInit ⟨#[0xb1]⟩ 1 none, .arrayClass .int, .fieldLink RX4 7 "LeastChangeModel" "versions" "[I", .fieldLink RX4 13 "LeastChangeModel" "locked" "[I", .fieldLink RX4 16 "LeastChangeModel" "barred" "[I", .fieldLink RX4 19 "LeastChangeModel" "kind" "[I", .fieldLink RX4 22 "LeastChangeModel" "first" "[I", .fieldLink RX4 25 "LeastChangeModel" "at" "[I", .fieldLink RX4 28 "LeastChangeModel" "second" "[I", .fieldLink RX4 31 "LeastChangeModel" "set" "[I", .fieldLink RX4 34 "LeastChangeModel" "base" "[I", .fieldLink RX4 37 "LeastChangeModel" "left" "[I", .fieldLink RX4 40 "LeastChangeModel" "given" "[I", .fieldLink RX4 43 "LeastChangeModel" "best" "[I", .fieldLink RX4 46 "LeastChangeModel" "gave" "[I", .fieldLink RX4 49 "LeastChangeModel" "was" "[I", .fieldLink RX4 52 "LeastChangeModel" "coming" "[I", .fieldLink RX4 55 "LeastChangeModel" "changes" "[I", .fieldLink RX4 58 "LeastChangeModel" "downs" "[I"] ++ wsX40)
def wsX4_thrown : List Cond := .code yX4_thrown cX4_thrown 1 (some .int) :: ([.fieldLink RX4 61 "LeastChangeModel" "thrown" "I"] ++ wsX40)
def wsX4_isName : List Cond := .code yX4_isName cX4_isName 2 (some .boolean) :: ([.fieldLink RX4 65 "LeastChangeModel" "names" "I"] ++ wsX40)
def wsX4_name : List Cond := .code yX4_name cX4_name 3 (some .int) :: ([.fieldLink RX4 61 "LeastChangeModel" "thrown" "I", .fieldLink RX4 65 "LeastChangeModel" "names" "I", .fieldLink RX4 7 "LeastChangeModel" "versions" "[I", .fieldLink RX4 13 "LeastChangeModel" "locked" "[I"] ++ wsX40 ++ (vx_atM "java/lang/ArrayIndexOutOfBoundsException" ["java/lang/IndexOutOfBoundsException", "java/lang/RuntimeException", "java/lang/Exception"]).filter goodWord)
def wsX4_add : List Cond := .code yX4_add cX4_add 7 (some .int) :: ([.fieldLink RX4 68 "LeastChangeModel" "rows" "I", .fieldLink RX4 19 "LeastChangeModel" "kind" "[I", .fieldLink RX4 22 "LeastChangeModel" "first" "[I", .fieldLink RX4 25 "LeastChangeModel" "at" "[I", .fieldLink RX4 28 "LeastChangeModel" "second" "[I", .fieldLink RX4 31 "LeastChangeModel" "set" "[I", .constantLong RX4 71 (63)] ++ wsX40 ++ (vx_atM "java/lang/ArrayIndexOutOfBoundsException" ["java/lang/IndexOutOfBoundsException", "java/lang/RuntimeException", "java/lang/Exception"]).filter goodWord)
def wsX4_needs : List Cond := .code yX4_needs cX4_needs 6 (some .int) :: ([.fieldLink RX4 61 "LeastChangeModel" "thrown" "I", .fieldLink RX4 7 "LeastChangeModel" "versions" "[I", .methodLink RX4 73 yX4_isName, .instanceMethod yX4_isName, .selects RX4 yX4_isName yX4_isName, .initialized RX4, .code yX4_isName cX4_isName 2 (some .boolean), .fieldLink RX4 65 "LeastChangeModel" "names" "I", .methodLink RX4 77 yX4_add, .instanceMethod yX4_add, .selects RX4 yX4_add yX4_add, .code yX4_add cX4_add 7 (some .int), .fieldLink RX4 68 "LeastChangeModel" "rows" "I", .fieldLink RX4 19 "LeastChangeModel" "kind" "[I", .fieldLink RX4 22 "LeastChangeModel" "first" "[I", .fieldLink RX4 25 "LeastChangeModel" "at" "[I", .fieldLink RX4 28 "LeastChangeModel" "second" "[I", .fieldLink RX4 31 "LeastChangeModel" "set" "[I", .constantLong RX4 71 (63)] ++ wsX40 ++ (vx_atM "java/lang/ArrayIndexOutOfBoundsException" ["java/lang/IndexOutOfBoundsException", "java/lang/RuntimeException", "java/lang/Exception"]).filter goodWord)
def wsX4_want : List Cond := .code yX4_want cX4_want 4 (some .int) :: ([.fieldLink RX4 61 "LeastChangeModel" "thrown" "I", .methodLink RX4 73 yX4_isName, .instanceMethod yX4_isName, .selects RX4 yX4_isName yX4_isName, .initialized RX4, .code yX4_isName cX4_isName 2 (some .boolean), .fieldLink RX4 65 "LeastChangeModel" "names" "I", .methodLink RX4 77 yX4_add, .instanceMethod yX4_add, .selects RX4 yX4_add yX4_add, .code yX4_add cX4_add 7 (some .int), .fieldLink RX4 68 "LeastChangeModel" "rows" "I", .fieldLink RX4 19 "LeastChangeModel" "kind" "[I", .fieldLink RX4 22 "LeastChangeModel" "first" "[I", .fieldLink RX4 25 "LeastChangeModel" "at" "[I", .fieldLink RX4 28 "LeastChangeModel" "second" "[I", .fieldLink RX4 31 "LeastChangeModel" "set" "[I", .constantLong RX4 71 (63)] ++ wsX40 ++ (vx_atM "java/lang/ArrayIndexOutOfBoundsException" ["java/lang/IndexOutOfBoundsException", "java/lang/RuntimeException", "java/lang/Exception"]).filter goodWord)
def wsX4_force : List Cond := .code yX4_force cX4_force 4 (some .int) :: ([.fieldLink RX4 61 "LeastChangeModel" "thrown" "I", .methodLink RX4 73 yX4_isName, .instanceMethod yX4_isName, .selects RX4 yX4_isName yX4_isName, .initialized RX4, .code yX4_isName cX4_isName 2 (some .boolean), .fieldLink RX4 65 "LeastChangeModel" "names" "I", .methodLink RX4 77 yX4_add, .instanceMethod yX4_add, .selects RX4 yX4_add yX4_add, .code yX4_add cX4_add 7 (some .int), .fieldLink RX4 68 "LeastChangeModel" "rows" "I", .fieldLink RX4 19 "LeastChangeModel" "kind" "[I", .fieldLink RX4 22 "LeastChangeModel" "first" "[I", .fieldLink RX4 25 "LeastChangeModel" "at" "[I", .fieldLink RX4 28 "LeastChangeModel" "second" "[I", .fieldLink RX4 31 "LeastChangeModel" "set" "[I", .constantLong RX4 71 (63)] ++ wsX40 ++ (vx_atM "java/lang/ArrayIndexOutOfBoundsException" ["java/lang/IndexOutOfBoundsException", "java/lang/RuntimeException", "java/lang/Exception"]).filter goodWord)
def wsX4_group : List Cond := .code yX4_group cX4_group 3 (some .int) :: ([.fieldLink RX4 61 "LeastChangeModel" "thrown" "I", .methodLink RX4 73 yX4_isName, .instanceMethod yX4_isName, .selects RX4 yX4_isName yX4_isName, .initialized RX4, .code yX4_isName cX4_isName 2 (some .boolean), .fieldLink RX4 65 "LeastChangeModel" "names" "I", .methodLink RX4 77 yX4_add, .instanceMethod yX4_add, .selects RX4 yX4_add yX4_add, .code yX4_add cX4_add 7 (some .int), .fieldLink RX4 68 "LeastChangeModel" "rows" "I", .fieldLink RX4 19 "LeastChangeModel" "kind" "[I", .fieldLink RX4 22 "LeastChangeModel" "first" "[I", .fieldLink RX4 25 "LeastChangeModel" "at" "[I", .fieldLink RX4 28 "LeastChangeModel" "second" "[I", .fieldLink RX4 31 "LeastChangeModel" "set" "[I", .constantLong RX4 71 (63)] ++ wsX40 ++ (vx_atM "java/lang/ArrayIndexOutOfBoundsException" ["java/lang/IndexOutOfBoundsException", "java/lang/RuntimeException", "java/lang/Exception"]).filter goodWord)
def wsX4_row : List Cond := .code yX4_row cX4_row 2 (some .int) :: ([.fieldLink RX4 68 "LeastChangeModel" "rows" "I", .fieldLink RX4 61 "LeastChangeModel" "thrown" "I", .fieldLink RX4 19 "LeastChangeModel" "kind" "[I", .fieldLink RX4 22 "LeastChangeModel" "first" "[I", .fieldLink RX4 25 "LeastChangeModel" "at" "[I", .fieldLink RX4 28 "LeastChangeModel" "second" "[I"] ++ wsX40 ++ (vx_atM "java/lang/ArrayIndexOutOfBoundsException" ["java/lang/IndexOutOfBoundsException", "java/lang/RuntimeException", "java/lang/Exception"]).filter goodWord)
def wsX4_begin : List Cond := .code yX4_begin cX4_begin 3 none :: ([.fieldLink RX4 65 "LeastChangeModel" "names" "I", .fieldLink RX4 37 "LeastChangeModel" "left" "[I", .fieldLink RX4 7 "LeastChangeModel" "versions" "[I", .fieldLink RX4 16 "LeastChangeModel" "barred" "[I", .fieldLink RX4 68 "LeastChangeModel" "rows" "I", .fieldLink RX4 22 "LeastChangeModel" "first" "[I", .fieldLink RX4 19 "LeastChangeModel" "kind" "[I", .fieldLink RX4 31 "LeastChangeModel" "set" "[I", .fieldLink RX4 28 "LeastChangeModel" "second" "[I", .fieldLink RX4 25 "LeastChangeModel" "at" "[I"] ++ wsX40 ++ (vx_atM "java/lang/ArrayIndexOutOfBoundsException" ["java/lang/IndexOutOfBoundsException", "java/lang/RuntimeException", "java/lang/Exception"]).filter goodWord)
def wsX4_leaves : List Cond := .code yX4_leaves cX4_leaves 7 (some .boolean) :: ([.fieldLink RX4 65 "LeastChangeModel" "names" "I", .fieldLink RX4 37 "LeastChangeModel" "left" "[I", .fieldLink RX4 68 "LeastChangeModel" "rows" "I", .fieldLink RX4 22 "LeastChangeModel" "first" "[I", .fieldLink RX4 28 "LeastChangeModel" "second" "[I", .fieldLink RX4 19 "LeastChangeModel" "kind" "[I", .fieldLink RX4 25 "LeastChangeModel" "at" "[I", .fieldLink RX4 31 "LeastChangeModel" "set" "[I"] ++ wsX40 ++ (vx_atM "java/lang/ArrayIndexOutOfBoundsException" ["java/lang/IndexOutOfBoundsException", "java/lang/RuntimeException", "java/lang/Exception"]).filter goodWord)
def wsX4_option : List Cond := .code yX4_option cX4_option 5 (some .int) :: ([.fieldLink RX4 34 "LeastChangeModel" "base" "[I", .fieldLink RX4 7 "LeastChangeModel" "versions" "[I"] ++ wsX40 ++ (vx_atM "java/lang/ArrayIndexOutOfBoundsException" ["java/lang/IndexOutOfBoundsException", "java/lang/RuntimeException", "java/lang/Exception"]).filter goodWord)
def wsX4_seek_r1 : List Cond := [Cond.fieldLink RX4 52 "LeastChangeModel" "coming" "[I", Cond.fieldLink RX4 55 "LeastChangeModel" "changes" "[I", Cond.fieldLink RX4 58 "LeastChangeModel" "downs" "[I", Cond.fieldLink RX4 65 "LeastChangeModel" "names" "I", Cond.fieldLink RX4 7 "LeastChangeModel" "versions" "[I", Cond.fieldLink RX4 37 "LeastChangeModel" "left" "[I", Cond.fieldLink RX4 40 "LeastChangeModel" "given" "[I", Cond.fieldLink RX4 34 "LeastChangeModel" "base" "[I", Cond.fieldLink RX4 89 "LeastChangeModel" "mostChanged" "I", Cond.fieldLink RX4 92 "LeastChangeModel" "mostDown" "I", Cond.fieldLink RX4 95 "LeastChangeModel" "any" "Z", Cond.fieldLink RX4 99 "LeastChangeModel" "bestChanged" "I", Cond.fieldLink RX4 43 "LeastChangeModel" "best" "[I", Cond.methodLink RX4 81 yX4_option, Cond.instanceMethod yX4_option, Cond.selects RX4 yX4_option yX4_option, Cond.initialized RX4, Cond.code yX4_option cX4_option 5 (some .int), Cond.methodLink RX4 85 yX4_leaves, Cond.instanceMethod yX4_leaves, Cond.selects RX4 yX4_leaves yX4_leaves, Cond.code yX4_leaves cX4_leaves 7 (some .boolean), Cond.fieldLink RX4 68 "LeastChangeModel" "rows" "I", Cond.fieldLink RX4 22 "LeastChangeModel" "first" "[I"]
def wsX4_seek_r2 : List Cond := [Cond.fieldLink RX4 28 "LeastChangeModel" "second" "[I", Cond.fieldLink RX4 19 "LeastChangeModel" "kind" "[I", Cond.fieldLink RX4 25 "LeastChangeModel" "at" "[I", Cond.fieldLink RX4 31 "LeastChangeModel" "set" "[I"]
def wsX4_seek : List Cond := .code yX4_seek cX4_seek 7 none :: ((wsX4_seek_r1 ++ wsX4_seek_r2) ++ wsX40 ++ (vx_atM "java/lang/ArrayIndexOutOfBoundsException" ["java/lang/IndexOutOfBoundsException", "java/lang/RuntimeException", "java/lang/Exception"]).filter goodWord)
def wsX4_look_r1 : List Cond := [Cond.fieldLink RX4 95 "LeastChangeModel" "any" "Z", Cond.fieldLink RX4 89 "LeastChangeModel" "mostChanged" "I", Cond.fieldLink RX4 92 "LeastChangeModel" "mostDown" "I", Cond.fieldLink RX4 65 "LeastChangeModel" "names" "I", Cond.fieldLink RX4 37 "LeastChangeModel" "left" "[I", Cond.methodLink RX4 102 yX4_begin, Cond.instanceMethod yX4_begin, Cond.selects RX4 yX4_begin yX4_begin, Cond.initialized RX4, Cond.code yX4_begin cX4_begin 3 none, Cond.fieldLink RX4 7 "LeastChangeModel" "versions" "[I", Cond.fieldLink RX4 16 "LeastChangeModel" "barred" "[I", Cond.fieldLink RX4 68 "LeastChangeModel" "rows" "I", Cond.fieldLink RX4 22 "LeastChangeModel" "first" "[I", Cond.fieldLink RX4 19 "LeastChangeModel" "kind" "[I", Cond.fieldLink RX4 31 "LeastChangeModel" "set" "[I", Cond.fieldLink RX4 28 "LeastChangeModel" "second" "[I", Cond.fieldLink RX4 25 "LeastChangeModel" "at" "[I", Cond.methodLink RX4 105 yX4_seek, Cond.instanceMethod yX4_seek, Cond.selects RX4 yX4_seek yX4_seek, Cond.code yX4_seek cX4_seek 7 none, Cond.fieldLink RX4 52 "LeastChangeModel" "coming" "[I", Cond.fieldLink RX4 55 "LeastChangeModel" "changes" "[I"]
def wsX4_look_r2 : List Cond := [Cond.fieldLink RX4 58 "LeastChangeModel" "downs" "[I", Cond.fieldLink RX4 40 "LeastChangeModel" "given" "[I", Cond.fieldLink RX4 34 "LeastChangeModel" "base" "[I", Cond.fieldLink RX4 99 "LeastChangeModel" "bestChanged" "I", Cond.fieldLink RX4 43 "LeastChangeModel" "best" "[I", Cond.methodLink RX4 81 yX4_option, Cond.instanceMethod yX4_option, Cond.selects RX4 yX4_option yX4_option, Cond.code yX4_option cX4_option 5 (some .int), Cond.methodLink RX4 85 yX4_leaves, Cond.instanceMethod yX4_leaves, Cond.selects RX4 yX4_leaves yX4_leaves, Cond.code yX4_leaves cX4_leaves 7 (some .boolean)]
def wsX4_look : List Cond := .code yX4_look cX4_look 5 (some .boolean) :: ((wsX4_look_r1 ++ wsX4_look_r2) ++ wsX40 ++ (vx_atM "java/lang/ArrayIndexOutOfBoundsException" ["java/lang/IndexOutOfBoundsException", "java/lang/RuntimeException", "java/lang/Exception"]).filter goodWord)
def wsX4_lookForBest_r1 : List Cond := [Cond.methodLink RX4 108 yX4_look, Cond.instanceMethod yX4_look, Cond.selects RX4 yX4_look yX4_look, Cond.initialized RX4, Cond.code yX4_look cX4_look 5 (some .boolean), Cond.fieldLink RX4 95 "LeastChangeModel" "any" "Z", Cond.fieldLink RX4 89 "LeastChangeModel" "mostChanged" "I", Cond.fieldLink RX4 92 "LeastChangeModel" "mostDown" "I", Cond.fieldLink RX4 65 "LeastChangeModel" "names" "I", Cond.fieldLink RX4 37 "LeastChangeModel" "left" "[I", Cond.methodLink RX4 102 yX4_begin, Cond.instanceMethod yX4_begin, Cond.selects RX4 yX4_begin yX4_begin, Cond.code yX4_begin cX4_begin 3 none, Cond.fieldLink RX4 7 "LeastChangeModel" "versions" "[I", Cond.fieldLink RX4 16 "LeastChangeModel" "barred" "[I", Cond.fieldLink RX4 68 "LeastChangeModel" "rows" "I", Cond.fieldLink RX4 22 "LeastChangeModel" "first" "[I", Cond.fieldLink RX4 19 "LeastChangeModel" "kind" "[I", Cond.fieldLink RX4 31 "LeastChangeModel" "set" "[I", Cond.fieldLink RX4 28 "LeastChangeModel" "second" "[I", Cond.fieldLink RX4 25 "LeastChangeModel" "at" "[I", Cond.methodLink RX4 105 yX4_seek, Cond.instanceMethod yX4_seek]
def wsX4_lookForBest_r2 : List Cond := [Cond.selects RX4 yX4_seek yX4_seek, Cond.code yX4_seek cX4_seek 7 none, Cond.fieldLink RX4 52 "LeastChangeModel" "coming" "[I", Cond.fieldLink RX4 55 "LeastChangeModel" "changes" "[I", Cond.fieldLink RX4 58 "LeastChangeModel" "downs" "[I", Cond.fieldLink RX4 40 "LeastChangeModel" "given" "[I", Cond.fieldLink RX4 34 "LeastChangeModel" "base" "[I", Cond.fieldLink RX4 99 "LeastChangeModel" "bestChanged" "I", Cond.fieldLink RX4 43 "LeastChangeModel" "best" "[I", Cond.methodLink RX4 81 yX4_option, Cond.instanceMethod yX4_option, Cond.selects RX4 yX4_option yX4_option, Cond.code yX4_option cX4_option 5 (some .int), Cond.methodLink RX4 85 yX4_leaves, Cond.instanceMethod yX4_leaves, Cond.selects RX4 yX4_leaves yX4_leaves, Cond.code yX4_leaves cX4_leaves 7 (some .boolean)]
def wsX4_lookForBest : List Cond := .code yX4_lookForBest cX4_lookForBest 3 (some .boolean) :: ((wsX4_lookForBest_r1 ++ wsX4_lookForBest_r2) ++ wsX40 ++ (vx_atM "java/lang/ArrayIndexOutOfBoundsException" ["java/lang/IndexOutOfBoundsException", "java/lang/RuntimeException", "java/lang/Exception"]).filter goodWord)
def wsX4_tries : List Cond := .code yX4_tries cX4_tries 7 (some .long) :: ([.fieldLink RX4 65 "LeastChangeModel" "names" "I"] ++ wsX40)
def wsX4_keep : List Cond := .code yX4_keep cX4_keep 3 (some .int) :: ([.fieldLink RX4 65 "LeastChangeModel" "names" "I", .fieldLink RX4 111 "LeastChangeModel" "found" "I", .fieldLink RX4 46 "LeastChangeModel" "gave" "[I", .fieldLink RX4 43 "LeastChangeModel" "best" "[I", .fieldLink RX4 49 "LeastChangeModel" "was" "[I", .fieldLink RX4 34 "LeastChangeModel" "base" "[I"] ++ wsX40 ++ (vx_atM "java/lang/ArrayIndexOutOfBoundsException" ["java/lang/IndexOutOfBoundsException", "java/lang/RuntimeException", "java/lang/Exception"]).filter goodWord)
def wsX4_solve_r1 : List Cond := [Cond.fieldLink RX4 61 "LeastChangeModel" "thrown" "I", Cond.fieldLink RX4 65 "LeastChangeModel" "names" "I", Cond.fieldLink RX4 34 "LeastChangeModel" "base" "[I", Cond.fieldLink RX4 13 "LeastChangeModel" "locked" "[I", Cond.fieldLink RX4 99 "LeastChangeModel" "bestChanged" "I", Cond.methodLink RX4 114 yX4_lookForBest, Cond.instanceMethod yX4_lookForBest, Cond.selects RX4 yX4_lookForBest yX4_lookForBest, Cond.initialized RX4, Cond.code yX4_lookForBest cX4_lookForBest 3 (some .boolean), Cond.methodLink RX4 108 yX4_look, Cond.instanceMethod yX4_look, Cond.selects RX4 yX4_look yX4_look, Cond.code yX4_look cX4_look 5 (some .boolean), Cond.fieldLink RX4 95 "LeastChangeModel" "any" "Z", Cond.fieldLink RX4 89 "LeastChangeModel" "mostChanged" "I", Cond.fieldLink RX4 92 "LeastChangeModel" "mostDown" "I", Cond.fieldLink RX4 37 "LeastChangeModel" "left" "[I", Cond.methodLink RX4 102 yX4_begin, Cond.instanceMethod yX4_begin, Cond.selects RX4 yX4_begin yX4_begin, Cond.code yX4_begin cX4_begin 3 none, Cond.fieldLink RX4 7 "LeastChangeModel" "versions" "[I", Cond.fieldLink RX4 16 "LeastChangeModel" "barred" "[I"]
def wsX4_solve_r2 : List Cond := [Cond.fieldLink RX4 68 "LeastChangeModel" "rows" "I", Cond.fieldLink RX4 22 "LeastChangeModel" "first" "[I", Cond.fieldLink RX4 19 "LeastChangeModel" "kind" "[I", Cond.fieldLink RX4 31 "LeastChangeModel" "set" "[I", Cond.fieldLink RX4 28 "LeastChangeModel" "second" "[I", Cond.fieldLink RX4 25 "LeastChangeModel" "at" "[I", Cond.methodLink RX4 105 yX4_seek, Cond.instanceMethod yX4_seek, Cond.selects RX4 yX4_seek yX4_seek, Cond.code yX4_seek cX4_seek 7 none, Cond.fieldLink RX4 52 "LeastChangeModel" "coming" "[I", Cond.fieldLink RX4 55 "LeastChangeModel" "changes" "[I", Cond.fieldLink RX4 58 "LeastChangeModel" "downs" "[I", Cond.fieldLink RX4 40 "LeastChangeModel" "given" "[I", Cond.fieldLink RX4 43 "LeastChangeModel" "best" "[I", Cond.methodLink RX4 81 yX4_option, Cond.instanceMethod yX4_option, Cond.selects RX4 yX4_option yX4_option, Cond.code yX4_option cX4_option 5 (some .int), Cond.methodLink RX4 85 yX4_leaves, Cond.instanceMethod yX4_leaves, Cond.selects RX4 yX4_leaves yX4_leaves, Cond.code yX4_leaves cX4_leaves 7 (some .boolean), Cond.methodLink RX4 118 yX4_tries]
def wsX4_solve_r3 : List Cond := [Cond.instanceMethod yX4_tries, Cond.selects RX4 yX4_tries yX4_tries, Cond.code yX4_tries cX4_tries 7 (some .long), Cond.methodLink RX4 122 yX4_keep, Cond.instanceMethod yX4_keep, Cond.selects RX4 yX4_keep yX4_keep, Cond.code yX4_keep cX4_keep 3 (some .int), Cond.fieldLink RX4 111 "LeastChangeModel" "found" "I", Cond.fieldLink RX4 46 "LeastChangeModel" "gave" "[I", Cond.fieldLink RX4 49 "LeastChangeModel" "was" "[I"]
def wsX4_solve : List Cond := .code yX4_solve cX4_solve 7 (some .int) :: ((wsX4_solve_r1 ++ (wsX4_solve_r2 ++ wsX4_solve_r3)) ++ wsX40 ++ (vx_atM "java/lang/ArrayIndexOutOfBoundsException" ["java/lang/IndexOutOfBoundsException", "java/lang/RuntimeException", "java/lang/Exception"]).filter goodWord)
def wsX4_chosen : List Cond := .code yX4_chosen cX4_chosen 2 (some .int) :: ([.fieldLink RX4 61 "LeastChangeModel" "thrown" "I", .fieldLink RX4 111 "LeastChangeModel" "found" "I", .fieldLink RX4 46 "LeastChangeModel" "gave" "[I"] ++ wsX40 ++ (vx_atM "java/lang/ArrayIndexOutOfBoundsException" ["java/lang/IndexOutOfBoundsException", "java/lang/RuntimeException", "java/lang/Exception"]).filter goodWord)
def wsX4_down : List Cond := .code yX4_down cX4_down 4 (some .int) :: ([.fieldLink RX4 61 "LeastChangeModel" "thrown" "I", .fieldLink RX4 111 "LeastChangeModel" "found" "I", .fieldLink RX4 46 "LeastChangeModel" "gave" "[I", .fieldLink RX4 49 "LeastChangeModel" "was" "[I"] ++ wsX40 ++ (vx_atM "java/lang/ArrayIndexOutOfBoundsException" ["java/lang/IndexOutOfBoundsException", "java/lang/RuntimeException", "java/lang/Exception"]).filter goodWord)
def wsX4_digestOf : List Cond := .code yX4_digestOf cX4_digestOf 2 (some .long) :: ([.constantLong RX4 126 (1000003), .constantLong RX4 128 (2654435761)])
def wsX4_lock : List Cond := .code yX4_lock cX4_lock 5 (some .int) :: ([.fieldLink RX4 61 "LeastChangeModel" "thrown" "I", .fieldLink RX4 111 "LeastChangeModel" "found" "I", .fieldLink RX4 46 "LeastChangeModel" "gave" "[I", .constantLong RX4 134 (2147483647), .fieldLink RX4 49 "LeastChangeModel" "was" "[I", .methodLink RX4 130 yX4_digestOf, .static yX4_digestOf, .initialized RX4, .code yX4_digestOf cX4_digestOf 2 (some .long), .constantLong RX4 126 (1000003), .constantLong RX4 128 (2654435761)] ++ wsX40 ++ (vx_atM "java/lang/ArrayIndexOutOfBoundsException" ["java/lang/IndexOutOfBoundsException", "java/lang/RuntimeException", "java/lang/Exception"]).filter goodWord)
def wsX4_digest : List Cond := .code yX4_digest cX4_digest 6 (some .long) :: ([.fieldLink RX4 61 "LeastChangeModel" "thrown" "I", .constantLong RX4 136 (-1), .fieldLink RX4 13 "LeastChangeModel" "locked" "[I", .fieldLink RX4 7 "LeastChangeModel" "versions" "[I", .constantLong RX4 138 (-3), .fieldLink RX4 16 "LeastChangeModel" "barred" "[I", .methodLink RX4 73 yX4_isName, .instanceMethod yX4_isName, .selects RX4 yX4_isName yX4_isName, .initialized RX4, .code yX4_isName cX4_isName 2 (some .boolean), .fieldLink RX4 65 "LeastChangeModel" "names" "I", .methodLink RX4 130 yX4_digestOf, .static yX4_digestOf, .code yX4_digestOf cX4_digestOf 2 (some .long), .constantLong RX4 126 (1000003), .constantLong RX4 128 (2654435761)] ++ wsX40 ++ (vx_atM "java/lang/ArrayIndexOutOfBoundsException" ["java/lang/IndexOutOfBoundsException", "java/lang/RuntimeException", "java/lang/Exception"]).filter goodWord)
def wsX4_merge_r1 : List Cond := [Cond.fieldLink RX4 61 "LeastChangeModel" "thrown" "I", Cond.fieldLink RX4 65 "LeastChangeModel" "names" "I", Cond.fieldLink RX4 34 "LeastChangeModel" "base" "[I", Cond.fieldLink RX4 13 "LeastChangeModel" "locked" "[I", Cond.fieldLink RX4 46 "LeastChangeModel" "gave" "[I", Cond.fieldLink RX4 16 "LeastChangeModel" "barred" "[I", Cond.methodLink RX4 114 yX4_lookForBest, Cond.instanceMethod yX4_lookForBest, Cond.selects RX4 yX4_lookForBest yX4_lookForBest, Cond.initialized RX4, Cond.code yX4_lookForBest cX4_lookForBest 3 (some .boolean), Cond.methodLink RX4 108 yX4_look, Cond.instanceMethod yX4_look, Cond.selects RX4 yX4_look yX4_look, Cond.code yX4_look cX4_look 5 (some .boolean), Cond.fieldLink RX4 95 "LeastChangeModel" "any" "Z", Cond.fieldLink RX4 89 "LeastChangeModel" "mostChanged" "I", Cond.fieldLink RX4 92 "LeastChangeModel" "mostDown" "I", Cond.fieldLink RX4 37 "LeastChangeModel" "left" "[I", Cond.methodLink RX4 102 yX4_begin, Cond.instanceMethod yX4_begin, Cond.selects RX4 yX4_begin yX4_begin, Cond.code yX4_begin cX4_begin 3 none, Cond.fieldLink RX4 7 "LeastChangeModel" "versions" "[I"]
def wsX4_merge_r2 : List Cond := [Cond.fieldLink RX4 68 "LeastChangeModel" "rows" "I", Cond.fieldLink RX4 22 "LeastChangeModel" "first" "[I", Cond.fieldLink RX4 19 "LeastChangeModel" "kind" "[I", Cond.fieldLink RX4 31 "LeastChangeModel" "set" "[I", Cond.fieldLink RX4 28 "LeastChangeModel" "second" "[I", Cond.fieldLink RX4 25 "LeastChangeModel" "at" "[I", Cond.methodLink RX4 105 yX4_seek, Cond.instanceMethod yX4_seek, Cond.selects RX4 yX4_seek yX4_seek, Cond.code yX4_seek cX4_seek 7 none, Cond.fieldLink RX4 52 "LeastChangeModel" "coming" "[I", Cond.fieldLink RX4 55 "LeastChangeModel" "changes" "[I", Cond.fieldLink RX4 58 "LeastChangeModel" "downs" "[I", Cond.fieldLink RX4 40 "LeastChangeModel" "given" "[I", Cond.fieldLink RX4 99 "LeastChangeModel" "bestChanged" "I", Cond.fieldLink RX4 43 "LeastChangeModel" "best" "[I", Cond.methodLink RX4 81 yX4_option, Cond.instanceMethod yX4_option, Cond.selects RX4 yX4_option yX4_option, Cond.code yX4_option cX4_option 5 (some .int), Cond.methodLink RX4 85 yX4_leaves, Cond.instanceMethod yX4_leaves, Cond.selects RX4 yX4_leaves yX4_leaves, Cond.code yX4_leaves cX4_leaves 7 (some .boolean)]
def wsX4_merge_r3 : List Cond := [Cond.methodLink RX4 122 yX4_keep, Cond.instanceMethod yX4_keep, Cond.selects RX4 yX4_keep yX4_keep, Cond.code yX4_keep cX4_keep 3 (some .int), Cond.fieldLink RX4 111 "LeastChangeModel" "found" "I", Cond.fieldLink RX4 49 "LeastChangeModel" "was" "[I"]
def wsX4_merge : List Cond := .code yX4_merge cX4_merge 4 (some .int) :: ((wsX4_merge_r1 ++ (wsX4_merge_r2 ++ wsX4_merge_r3)) ++ wsX40 ++ (vx_atM "java/lang/ArrayIndexOutOfBoundsException" ["java/lang/IndexOutOfBoundsException", "java/lang/RuntimeException", "java/lang/Exception"]).filter goodWord)
def wsJx00060_init_a7421 : List Cond := .code yJx00060_init_a7421 cJx00060_init_a7421 2 none :: ([])
def wsJ9_max_7cf53 : List Cond := .code yJ9_max_7cf53 cJ9_max_7cf53 2 (some .int) :: ([])
def wsJ9_min_7cf53 : List Cond := .code yJ9_min_7cf53 cJ9_min_7cf53 2 (some .int) :: ([])
def wsL_row : List Cond := .codeWith yL_row cL_row 4 (some .int) [(0, 9, 12, 13)] :: ([.classLink RL 13 "java/lang/ArrayIndexOutOfBoundsException", .methodLink RL 7 yX3_row, .instanceMethod yX3_row, .selects RX3 yX3_row yX3_row, .initialized RX3, .code yX3_row cX3_row 2 (some .int), .fieldLink RX3 52 "LeastChange" "rowCount" "I", .classLink RX3 141 RJx00060, .instantiable RJx00060 6, .initialized RJx00060, .fieldLink RX3 45 "LeastChange" "rows" "[I"] ++ wsX30 ++ wsJx000600 ++ (vx_atM "java/lang/ArrayIndexOutOfBoundsException" ["java/lang/IndexOutOfBoundsException", "java/lang/RuntimeException", "java/lang/Exception"]).filter goodWord)
def wsL_law0_r1 : List Cond := [Cond.classLink RL 8 RX3, Cond.instantiable RX3 10, Cond.initialized RX3, Cond.classLink RL 16 RX4, Cond.instantiable RX4 25, Cond.initialized RX4, Cond.arrayClass .long, Cond.constantLong RL 24 (4294967295), Cond.methodLink RL 15 yX3_init, Cond.instanceMethod yX3_init, Cond.code yX3_init cX3_init 1 none, Cond.methodLink RX3 3 objectInit, Cond.instanceMethod objectInit, Cond.code objectInit ⟨#[0xb1]⟩ 1 none, Cond.classLink RX3 9 RX1, Cond.instantiable RX1 2, Cond.initialized RX1, Cond.fieldLink RX3 12 "LeastChange" "rules" "LLeastChange$Rules;", Cond.classLink RX3 16 RX2, Cond.instantiable RX2 9, Cond.initialized RX2, Cond.fieldLink RX3 21 "LeastChange" "search" "LLeastChange$Search;", Cond.classLink RX3 25 RX0, Cond.instantiable RX0 4]
def wsL_law0_r2 : List Cond := [Cond.initialized RX0, Cond.fieldLink RX3 28 "LeastChange" "found" "LLeastChange$Found;", Cond.arrayClass .int, Cond.fieldLink RX3 32 "LeastChange" "versions" "[I", Cond.fieldLink RX3 36 "LeastChange" "locked" "[I", Cond.fieldLink RX3 39 "LeastChange" "joined" "[I", Cond.fieldLink RX3 42 "LeastChange" "barred" "[I", Cond.fieldLink RX3 45 "LeastChange" "rows" "[I", Cond.fieldLink RX3 48 "LeastChange" "nameCount" "I", Cond.fieldLink RX3 52 "LeastChange" "rowCount" "I", Cond.instanceMethod yX1_init, Cond.code yX1_init cX1_init 1 none, Cond.methodLink RX1 3 objectInit, Cond.fieldLink RX1 9 "LeastChange$Rules" "alone" "[I", Cond.fieldLink RX1 15 "LeastChange$Rules" "beside" "[I", Cond.methodLink RX1 18 yJ7_fill_53178, Cond.static yJ7_fill_53178, Cond.initialized RJ7, Cond.code yJ7_fill_53178 cJ7_fill_53178 4 none, Cond.instanceMethod yX2_init, Cond.code yX2_init cX2_init 2 none, Cond.methodLink RX2 5 objectInit, Cond.fieldLink RX2 11 "LeastChange$Search" "left" "[I", Cond.fieldLink RX2 15 "LeastChange$Search" "home" "[I"]
def wsL_law0_r3 : List Cond := [Cond.fieldLink RX2 18 "LeastChange$Search" "tried" "[I", Cond.fieldLink RX2 21 "LeastChange$Search" "kept" "[I", Cond.fieldLink RX2 24 "LeastChange$Search" "names" "I", Cond.fieldLink RX2 28 "LeastChange$Search" "keptCost" "I", Cond.fieldLink RX2 31 "LeastChange$Search" "costBound" "I", Cond.fieldLink RX2 34 "LeastChange$Search" "endsWithFirst" "Z", Cond.fieldLink RX2 38 "LeastChange$Search" "rules" "LLeastChange$Rules;", Cond.instanceMethod yX0_init, Cond.code yX0_init cX0_init 1 none, Cond.methodLink RX0 3 objectInit, Cond.fieldLink RX0 9 "LeastChange$Found" "codes" "[I", Cond.fieldLink RX0 15 "LeastChange$Found" "given" "I", Cond.fieldLink RX0 19 "LeastChange$Found" "changed" "I", Cond.fieldLink RX0 22 "LeastChange$Found" "down" "I", Cond.methodLink RL 18 yX4_init, Cond.instanceMethod yX4_init, Cond.code yX4_init cX4_init 1 none, Cond.methodLink RX4 1 objectInit, Cond.fieldLink RX4 7 "LeastChangeModel" "versions" "[I", Cond.fieldLink RX4 13 "LeastChangeModel" "locked" "[I", Cond.fieldLink RX4 16 "LeastChangeModel" "barred" "[I", Cond.fieldLink RX4 19 "LeastChangeModel" "kind" "[I", Cond.fieldLink RX4 22 "LeastChangeModel" "first" "[I", Cond.fieldLink RX4 25 "LeastChangeModel" "at" "[I"]
def wsL_law0_r4 : List Cond := [Cond.fieldLink RX4 28 "LeastChangeModel" "second" "[I", Cond.fieldLink RX4 31 "LeastChangeModel" "set" "[I", Cond.fieldLink RX4 34 "LeastChangeModel" "base" "[I", Cond.fieldLink RX4 37 "LeastChangeModel" "left" "[I", Cond.fieldLink RX4 40 "LeastChangeModel" "given" "[I", Cond.fieldLink RX4 43 "LeastChangeModel" "best" "[I", Cond.fieldLink RX4 46 "LeastChangeModel" "gave" "[I", Cond.fieldLink RX4 49 "LeastChangeModel" "was" "[I", Cond.fieldLink RX4 52 "LeastChangeModel" "coming" "[I", Cond.fieldLink RX4 55 "LeastChangeModel" "changes" "[I", Cond.fieldLink RX4 58 "LeastChangeModel" "downs" "[I", Cond.methodLink RL 19 yX3_name, Cond.instanceMethod yX3_name, Cond.selects RX3 yX3_name yX3_name, Cond.code yX3_name cX3_name 4 (some .int), Cond.methodLink RX3 55 yX3_codeOf, Cond.static yX3_codeOf, Cond.code yX3_codeOf cX3_codeOf 1 (some .int), Cond.instanceMethod yX1_open, Cond.selects RX1 yX1_open yX1_open, Cond.code yX1_open cX1_open 3 none, Cond.methodLink RL 23 yX4_name, Cond.instanceMethod yX4_name, Cond.selects RX4 yX4_name yX4_name]
def wsL_law0_r5 : List Cond := [Cond.code yX4_name cX4_name 3 (some .int), Cond.fieldLink RX4 61 "LeastChangeModel" "thrown" "I", Cond.fieldLink RX4 65 "LeastChangeModel" "names" "I", Cond.methodLink RL 26 yX3_needs, Cond.instanceMethod yX3_needs, Cond.selects RX3 yX3_needs yX3_needs, Cond.code yX3_needs cX3_needs 6 (some .int), Cond.methodLink RX3 63 yX3_isName, Cond.instanceMethod yX3_isName, Cond.selects RX3 yX3_isName yX3_isName, Cond.code yX3_isName cX3_isName 2 (some .boolean), Cond.methodLink RX3 67 yX3_codesOf, Cond.static yX3_codesOf, Cond.code yX3_codesOf cX3_codesOf 2 (some .int), Cond.instanceMethod yX1_tie, Cond.selects RX1 yX1_tie yX1_tie, Cond.code yX1_tie cX1_tie 6 none, Cond.methodLink RX1 24 yX1_narrow, Cond.instanceMethod yX1_narrow, Cond.selects RX1 yX1_narrow yX1_narrow, Cond.code yX1_narrow cX1_narrow 3 none, Cond.methodLink RX1 28 yX1_place, Cond.static yX1_place, Cond.code yX1_place cX1_place 3 (some .int)]
def wsL_law0_r6 : List Cond := [Cond.methodLink RX3 75 yX3_addRow, Cond.instanceMethod yX3_addRow, Cond.selects RX3 yX3_addRow yX3_addRow, Cond.code yX3_addRow cX3_addRow 6 (some .int), Cond.methodLink RL 30 yX4_needs, Cond.instanceMethod yX4_needs, Cond.selects RX4 yX4_needs yX4_needs, Cond.code yX4_needs cX4_needs 6 (some .int), Cond.methodLink RX4 73 yX4_isName, Cond.instanceMethod yX4_isName, Cond.selects RX4 yX4_isName yX4_isName, Cond.code yX4_isName cX4_isName 2 (some .boolean), Cond.methodLink RX4 77 yX4_add, Cond.instanceMethod yX4_add, Cond.selects RX4 yX4_add yX4_add, Cond.code yX4_add cX4_add 7 (some .int), Cond.fieldLink RX4 68 "LeastChangeModel" "rows" "I", Cond.constantLong RX4 71 (63), Cond.methodLink RL 31 yX3_want, Cond.instanceMethod yX3_want, Cond.selects RX3 yX3_want yX3_want, Cond.code yX3_want cX3_want 4 (some .int), Cond.methodLink RX3 79 yX3_addSetRow, Cond.instanceMethod yX3_addSetRow]
def wsL_law0_r7 : List Cond := [Cond.selects RX3 yX3_addSetRow yX3_addSetRow, Cond.code yX3_addSetRow cX3_addSetRow 4 (some .int), Cond.methodLink RL 35 yX4_want, Cond.instanceMethod yX4_want, Cond.selects RX4 yX4_want yX4_want, Cond.code yX4_want cX4_want 4 (some .int), Cond.methodLink RL 36 yX3_force, Cond.instanceMethod yX3_force, Cond.selects RX3 yX3_force yX3_force, Cond.code yX3_force cX3_force 4 (some .int), Cond.methodLink RL 39 yX4_force, Cond.instanceMethod yX4_force, Cond.selects RX4 yX4_force yX4_force, Cond.code yX4_force cX4_force 4 (some .int), Cond.methodLink RL 40 yX3_group, Cond.instanceMethod yX3_group, Cond.selects RX3 yX3_group yX3_group, Cond.code yX3_group cX3_group 4 (some .int), Cond.methodLink RL 43 yX4_group, Cond.instanceMethod yX4_group, Cond.selects RX4 yX4_group yX4_group, Cond.code yX4_group cX4_group 3 (some .int), Cond.methodLink RL 44 yX3_solve, Cond.instanceMethod yX3_solve]
def wsL_law0_r8 : List Cond := [Cond.selects RX3 yX3_solve yX3_solve, Cond.code yX3_solve cX3_solve 7 (some .int), Cond.methodLink RX3 91 Lib.Math.min.name, Cond.static Lib.Math.min.name, Cond.initialized "java/lang/Math", Cond.code Lib.Math.min.name Lib.Math.min.code 2 (some .int), Cond.instanceMethod yX2_findBest, Cond.selects RX2 yX2_findBest yX2_findBest, Cond.code yX2_findBest cX2_findBest 4 (some .boolean), Cond.methodLink RX2 42 yX2_find, Cond.instanceMethod yX2_find, Cond.selects RX2 yX2_find yX2_find, Cond.code yX2_find cX2_find 5 (some .boolean), Cond.methodLink RX2 51 yX2_giveFrom, Cond.instanceMethod yX2_giveFrom, Cond.selects RX2 yX2_giveFrom yX2_giveFrom, Cond.code yX2_giveFrom cX2_giveFrom 6 none, Cond.methodLink RX2 55 yX2_keep, Cond.instanceMethod yX2_keep, Cond.selects RX2 yX2_keep yX2_keep, Cond.code yX2_keep cX2_keep 3 none, Cond.methodLink RX2 59 yX2_give, Cond.instanceMethod yX2_give, Cond.selects RX2 yX2_give yX2_give]
def wsL_law0_r9 : List Cond := [Cond.code yX2_give cX2_give 5 none, Cond.methodLink RX2 63 yX2_costOf, Cond.static yX2_costOf, Cond.code yX2_costOf cX2_costOf 2 (some .int), Cond.static yX3_isChanged, Cond.code yX3_isChanged cX3_isChanged 2 (some .boolean), Cond.static yX3_isDown, Cond.code yX3_isDown cX3_isDown 2 (some .boolean), Cond.methodLink RX2 67 yX2_narrowRest, Cond.instanceMethod yX2_narrowRest, Cond.selects RX2 yX2_narrowRest yX2_narrowRest, Cond.code yX2_narrowRest cX2_narrowRest 10 (some .int), Cond.methodLink RX2 77 yX2_leastCostOf, Cond.static yX2_leastCostOf, Cond.code yX2_leastCostOf cX2_leastCostOf 3 (some .int), Cond.instanceMethod yX2_changedCount, Cond.selects RX2 yX2_changedCount yX2_changedCount, Cond.code yX2_changedCount cX2_changedCount 1 (some .int), Cond.methodLink RX3 97 yX3_waysToTry, Cond.instanceMethod yX3_waysToTry, Cond.selects RX3 yX3_waysToTry yX3_waysToTry, Cond.code yX3_waysToTry cX3_waysToTry 5 (some .int), Cond.instanceMethod yX2_findFirst, Cond.selects RX2 yX2_findFirst yX2_findFirst]
def wsL_law0_r10 : List Cond := [Cond.code yX2_findFirst cX2_findFirst 4 (some .boolean), Cond.instanceMethod yX0_keep, Cond.selects RX0 yX0_keep yX0_keep, Cond.code yX0_keep cX0_keep 6 none, Cond.instanceMethod yX2_keptCode, Cond.selects RX2 yX2_keptCode yX2_keptCode, Cond.code yX2_keptCode cX2_keptCode 2 (some .int), Cond.methodLink RL 47 yX4_solve, Cond.instanceMethod yX4_solve, Cond.selects RX4 yX4_solve yX4_solve, Cond.code yX4_solve cX4_solve 7 (some .int), Cond.fieldLink RX4 99 "LeastChangeModel" "bestChanged" "I", Cond.methodLink RX4 114 yX4_lookForBest, Cond.instanceMethod yX4_lookForBest, Cond.selects RX4 yX4_lookForBest yX4_lookForBest, Cond.code yX4_lookForBest cX4_lookForBest 3 (some .boolean), Cond.methodLink RX4 108 yX4_look, Cond.instanceMethod yX4_look, Cond.selects RX4 yX4_look yX4_look, Cond.code yX4_look cX4_look 5 (some .boolean), Cond.fieldLink RX4 95 "LeastChangeModel" "any" "Z", Cond.fieldLink RX4 89 "LeastChangeModel" "mostChanged" "I", Cond.fieldLink RX4 92 "LeastChangeModel" "mostDown" "I", Cond.methodLink RX4 102 yX4_begin]
def wsL_law0_r11 : List Cond := [Cond.instanceMethod yX4_begin, Cond.selects RX4 yX4_begin yX4_begin, Cond.code yX4_begin cX4_begin 3 none, Cond.methodLink RX4 105 yX4_seek, Cond.instanceMethod yX4_seek, Cond.selects RX4 yX4_seek yX4_seek, Cond.code yX4_seek cX4_seek 7 none, Cond.methodLink RX4 81 yX4_option, Cond.instanceMethod yX4_option, Cond.selects RX4 yX4_option yX4_option, Cond.code yX4_option cX4_option 5 (some .int), Cond.methodLink RX4 85 yX4_leaves, Cond.instanceMethod yX4_leaves, Cond.selects RX4 yX4_leaves yX4_leaves, Cond.code yX4_leaves cX4_leaves 7 (some .boolean), Cond.methodLink RX4 118 yX4_tries, Cond.instanceMethod yX4_tries, Cond.selects RX4 yX4_tries yX4_tries, Cond.code yX4_tries cX4_tries 7 (some .long), Cond.methodLink RX4 122 yX4_keep, Cond.instanceMethod yX4_keep, Cond.selects RX4 yX4_keep yX4_keep, Cond.code yX4_keep cX4_keep 3 (some .int), Cond.fieldLink RX4 111 "LeastChangeModel" "found" "I"]
def wsL_law0_r12 : List Cond := [Cond.methodLink RL 48 yX3_chosen, Cond.instanceMethod yX3_chosen, Cond.selects RX3 yX3_chosen yX3_chosen, Cond.code yX3_chosen cX3_chosen 2 (some .int), Cond.methodLink RX3 110 yX3_versionOf, Cond.static yX3_versionOf, Cond.code yX3_versionOf cX3_versionOf 1 (some .int), Cond.methodLink RL 51 yX4_chosen, Cond.instanceMethod yX4_chosen, Cond.selects RX4 yX4_chosen yX4_chosen, Cond.code yX4_chosen cX4_chosen 2 (some .int), Cond.methodLink RL 52 yX3_down, Cond.instanceMethod yX3_down, Cond.selects RX3 yX3_down yX3_down, Cond.code yX3_down cX3_down 2 (some .int), Cond.methodLink RX3 116 yX3_ithOf, Cond.static yX3_ithOf, Cond.code yX3_ithOf cX3_ithOf 4 (some .int), Cond.methodLink RL 55 yX4_down, Cond.instanceMethod yX4_down, Cond.selects RX4 yX4_down yX4_down, Cond.code yX4_down cX4_down 4 (some .int), Cond.methodLink RL 56 yX3_lock, Cond.instanceMethod yX3_lock]
def wsL_law0_r13 : List Cond := [Cond.selects RX3 yX3_lock yX3_lock, Cond.code yX3_lock cX3_lock 5 (some .int), Cond.constantLong RX3 126 (2147483647), Cond.methodLink RX3 122 yX3_digestOf, Cond.static yX3_digestOf, Cond.code yX3_digestOf cX3_digestOf 2 (some .long), Cond.constantLong RX3 151 (1000003), Cond.constantLong RX3 153 (2654435761), Cond.methodLink RL 59 yX4_lock, Cond.instanceMethod yX4_lock, Cond.selects RX4 yX4_lock yX4_lock, Cond.code yX4_lock cX4_lock 5 (some .int), Cond.constantLong RX4 134 (2147483647), Cond.methodLink RX4 130 yX4_digestOf, Cond.static yX4_digestOf, Cond.code yX4_digestOf cX4_digestOf 2 (some .long), Cond.constantLong RX4 126 (1000003), Cond.constantLong RX4 128 (2654435761), Cond.methodLink RL 60 yX3_digest, Cond.instanceMethod yX3_digest, Cond.selects RX3 yX3_digest yX3_digest, Cond.code yX3_digest cX3_digest 7 (some .long), Cond.constantLong RX3 131 (-1), Cond.constantLong RX3 133 (-3)]
def wsL_law0_r14 : List Cond := [Cond.methodLink RL 64 yX4_digest, Cond.instanceMethod yX4_digest, Cond.selects RX4 yX4_digest yX4_digest, Cond.code yX4_digest cX4_digest 6 (some .long), Cond.constantLong RX4 136 (-1), Cond.constantLong RX4 138 (-3), Cond.methodLink RL 65 yX3_merge, Cond.instanceMethod yX3_merge, Cond.selects RX3 yX3_merge yX3_merge, Cond.code yX3_merge cX3_merge 3 (some .int), Cond.methodLink RX3 135 Lib.Math.max.name, Cond.static Lib.Math.max.name, Cond.code Lib.Math.max.name Lib.Math.max.code 2 (some .int), Cond.methodLink RX3 138 yX3_lockToFound, Cond.instanceMethod yX3_lockToFound, Cond.selects RX3 yX3_lockToFound yX3_lockToFound, Cond.code yX3_lockToFound cX3_lockToFound 2 none, Cond.methodLink RL 68 yX4_merge, Cond.instanceMethod yX4_merge, Cond.selects RX4 yX4_merge yX4_merge, Cond.code yX4_merge cX4_merge 4 (some .int), Cond.methodLink RL 69 yL_row, Cond.static yL_row, Cond.initialized RL]
def wsL_law0_r15 : List Cond := [Cond.codeWith yL_row cL_row 4 (some .int) [(0, 9, 12, 13)], Cond.classLink RL 13 "java/lang/ArrayIndexOutOfBoundsException", Cond.methodLink RL 7 yX3_row, Cond.instanceMethod yX3_row, Cond.selects RX3 yX3_row yX3_row, Cond.code yX3_row cX3_row 2 (some .int), Cond.classLink RX3 141 RJx00060, Cond.instantiable RJx00060 6, Cond.initialized RJx00060, Cond.methodLink RL 74 yX4_row, Cond.instanceMethod yX4_row, Cond.selects RX4 yX4_row yX4_row, Cond.code yX4_row cX4_row 2 (some .int), Cond.methodLink RL 75 yX4_thrown, Cond.instanceMethod yX4_thrown, Cond.selects RX4 yX4_thrown yX4_thrown, Cond.code yX4_thrown cX4_thrown 1 (some .int)]
def wsL_law0 : List Cond := (wsL_law0_r1 ++ (wsL_law0_r2 ++ (wsL_law0_r3 ++ (wsL_law0_r4 ++ (wsL_law0_r5 ++ (wsL_law0_r6 ++ (wsL_law0_r7 ++ (wsL_law0_r8 ++ (wsL_law0_r9 ++ (wsL_law0_r10 ++ (wsL_law0_r11 ++ (wsL_law0_r12 ++ (wsL_law0_r13 ++ (wsL_law0_r14 ++ wsL_law0_r15)))))))))))))) ++ wsX30 ++ wsX40 ++ wsX10 ++ wsX20 ++ wsX00 ++ wsJx000600 ++ ([] : List Cond)
def wsL_law : List Cond := wsL_law0 ++ (vx_atM "java/lang/ArrayIndexOutOfBoundsException" ["java/lang/IndexOutOfBoundsException", "java/lang/RuntimeException", "java/lang/Exception"]).filter goodWord
end
section
set_option maxRecDepth 20000 in
theorem wsL_in_r1 : ∀ w ∈ wsL_law0_r1, w ∈ lw_tbl := fun w h => (goodIn_p wsL_law0_r1 [47, 50] (by decide +kernel) (by decide +kernel) w h).1
set_option maxRecDepth 20000 in
theorem wsL_in_r2 : ∀ w ∈ wsL_law0_r2, w ∈ lw_tbl := fun w h => (goodIn_p wsL_law0_r2 [55, 59, 74] (by decide +kernel) (by decide +kernel) w h).1
set_option maxRecDepth 20000 in
theorem wsL_in_r3 : ∀ w ∈ wsL_law0_r3, w ∈ lw_tbl := fun w h => (goodIn_p wsL_law0_r3 [108, 407] (by decide +kernel) (by decide +kernel) w h).1
set_option maxRecDepth 20000 in
theorem wsL_in_r4 : ∀ w ∈ wsL_law0_r4, w ∈ lw_tbl := fun w h => (goodIn_p wsL_law0_r4 [161, 164, 168] (by decide +kernel) (by decide +kernel) w h).1
set_option maxRecDepth 20000 in
theorem wsL_in_r5 : ∀ w ∈ wsL_law0_r5, w ∈ lw_tbl := fun w h => (goodIn_p wsL_law0_r5 [492, 172, 176, 179, 183, 187, 190] (by decide +kernel) (by decide +kernel) w h).1
set_option maxRecDepth 20000 in
theorem wsL_in_r6 : ∀ w ∈ wsL_law0_r6, w ∈ lw_tbl := fun w h => (goodIn_p wsL_law0_r6 [194, 496, 500, 504, 198] (by decide +kernel) (by decide +kernel) w h).1
set_option maxRecDepth 20000 in
theorem wsL_in_r7 : ∀ w ∈ wsL_law0_r7, w ∈ lw_tbl := fun w h => (goodIn_p wsL_law0_r7 [202, 509, 207, 513, 211, 517] (by decide +kernel) (by decide +kernel) w h).1
set_option maxRecDepth 20000 in
theorem wsL_in_r8 : ∀ w ∈ wsL_law0_r8, w ∈ lw_tbl := fun w h => (goodIn_p wsL_law0_r8 [215, 259, 219, 223, 227, 231] (by decide +kernel) (by decide +kernel) w h).1
set_option maxRecDepth 20000 in
theorem wsL_in_r9 : ∀ w ∈ wsL_law0_r9, w ∈ lw_tbl := fun w h => (goodIn_p wsL_law0_r9 [235, 238, 241, 244, 248, 252, 256, 263] (by decide +kernel) (by decide +kernel) w h).1
set_option maxRecDepth 20000 in
theorem wsL_in_r10 : ∀ w ∈ wsL_law0_r10, w ∈ lw_tbl := fun w h => (goodIn_p wsL_law0_r10 [267, 271, 275, 525, 529, 533] (by decide +kernel) (by decide +kernel) w h).1
set_option maxRecDepth 20000 in
theorem wsL_in_r11 : ∀ w ∈ wsL_law0_r11, w ∈ lw_tbl := fun w h => (goodIn_p wsL_law0_r11 [537, 541, 545, 549, 553, 557] (by decide +kernel) (by decide +kernel) w h).1
set_option maxRecDepth 20000 in
theorem wsL_in_r12 : ∀ w ∈ wsL_law0_r12, w ∈ lw_tbl := fun w h => (goodIn_p wsL_law0_r12 [281, 284, 561, 288, 291, 565] (by decide +kernel) (by decide +kernel) w h).1
set_option maxRecDepth 20000 in
theorem wsL_in_r13 : ∀ w ∈ wsL_law0_r13, w ∈ lw_tbl := fun w h => (goodIn_p wsL_law0_r13 [295, 298, 569, 572, 305] (by decide +kernel) (by decide +kernel) w h).1
set_option maxRecDepth 20000 in
theorem wsL_in_r14 : ∀ w ∈ wsL_law0_r14, w ∈ lw_tbl := fun w h => (goodIn_p wsL_law0_r14 [579, 311, 314, 318, 585] (by decide +kernel) (by decide +kernel) w h).1
set_option maxRecDepth 20000 in
theorem wsL_in_r15 : ∀ w ∈ wsL_law0_r15, w ∈ lw_tbl := fun w h => (goodIn_p wsL_law0_r15 [399, 521, 488] (by decide +kernel) (by decide +kernel) w h).1
set_option maxRecDepth 20000 in
theorem wsL_in_wsX30 : ∀ w ∈ wsX30, w ∈ lw_tbl := by decide +kernel
set_option maxRecDepth 20000 in
theorem wsL_in_wsX40 : ∀ w ∈ wsX40, w ∈ lw_tbl := by decide +kernel
set_option maxRecDepth 20000 in
theorem wsL_in_wsX10 : ∀ w ∈ wsX10, w ∈ lw_tbl := by decide +kernel
set_option maxRecDepth 20000 in
theorem wsL_in_wsX20 : ∀ w ∈ wsX20, w ∈ lw_tbl := by decide +kernel
set_option maxRecDepth 20000 in
theorem wsL_in_wsX00 : ∀ w ∈ wsX00, w ∈ lw_tbl := by decide +kernel
set_option maxRecDepth 20000 in
theorem wsL_in_wsJx000600 : ∀ w ∈ wsJx000600, w ∈ lw_tbl := by decide +kernel
theorem zz_app {P : Cond → Prop} {a b : List Cond} (ha : ∀ w ∈ a, P w) (hb : ∀ w ∈ b, P w) : ∀ w ∈ a ++ b, P w := fun w h => (List.mem_append.mp h).elim (ha w) (hb w)
theorem wsL_law_in0 : ∀ w ∈ wsL_law0, w ∈ lw_tbl := (zz_app (zz_app (zz_app (zz_app (zz_app (zz_app (zz_app (zz_app wsL_in_r1 (zz_app wsL_in_r2 (zz_app wsL_in_r3 (zz_app wsL_in_r4 (zz_app wsL_in_r5 (zz_app wsL_in_r6 (zz_app wsL_in_r7 (zz_app wsL_in_r8 (zz_app wsL_in_r9 (zz_app wsL_in_r10 (zz_app wsL_in_r11 (zz_app wsL_in_r12 (zz_app wsL_in_r13 (zz_app wsL_in_r14 wsL_in_r15)))))))))))))) wsL_in_wsX30) wsL_in_wsX40) wsL_in_wsX10) wsL_in_wsX20) wsL_in_wsX00) wsL_in_wsJx000600) (fun _ h => absurd h List.not_mem_nil))
end
section
theorem wsL_law_x0 : ∀ w ∈ (vx_atM "java/lang/ArrayIndexOutOfBoundsException" ["java/lang/IndexOutOfBoundsException", "java/lang/RuntimeException", "java/lang/Exception"]).filter goodWord, w ∈ lw_tbl := by decide +kernel
theorem wsL_law_in : ∀ w ∈ wsL_law, w ∈ lw_tbl := fun w h => (List.mem_append.mp h).elim (fun h => wsL_law_in0 w h) (fun h => wsL_law_x0 w h)
theorem inlX0 : ∀ w ∈ wsX00, w ∈ wsL_law := fun _ h => List.mem_append_left _ (List.mem_append_left _ (List.mem_append_left _ (List.mem_append_right _ h)))
theorem inX0 : ∀ w ∈ wsX00, w ∈ lw_tbl := fun w h => wsL_law_in w (inlX0 w h)
theorem inlX1 : ∀ w ∈ wsX10, w ∈ wsL_law := fun _ h => List.mem_append_left _ (List.mem_append_left _ (List.mem_append_left _ (List.mem_append_left _ (List.mem_append_left _ (List.mem_append_right _ h)))))
theorem inX1 : ∀ w ∈ wsX10, w ∈ lw_tbl := fun w h => wsL_law_in w (inlX1 w h)
theorem inlX2 : ∀ w ∈ wsX20, w ∈ wsL_law := fun _ h => List.mem_append_left _ (List.mem_append_left _ (List.mem_append_left _ (List.mem_append_left _ (List.mem_append_right _ h))))
theorem inX2 : ∀ w ∈ wsX20, w ∈ lw_tbl := fun w h => wsL_law_in w (inlX2 w h)
theorem inlX3 : ∀ w ∈ wsX30, w ∈ wsL_law := fun _ h => List.mem_append_left _ (List.mem_append_left _ (List.mem_append_left _ (List.mem_append_left _ (List.mem_append_left _ (List.mem_append_left _ (List.mem_append_left _ (List.mem_append_right _ h)))))))
theorem inX3 : ∀ w ∈ wsX30, w ∈ lw_tbl := fun w h => wsL_law_in w (inlX3 w h)
theorem inlX4 : ∀ w ∈ wsX40, w ∈ wsL_law := fun _ h => List.mem_append_left _ (List.mem_append_left _ (List.mem_append_left _ (List.mem_append_left _ (List.mem_append_left _ (List.mem_append_left _ (List.mem_append_right _ h))))))
theorem inX4 : ∀ w ∈ wsX40, w ∈ lw_tbl := fun w h => wsL_law_in w (inlX4 w h)
theorem inlJx00060 : ∀ w ∈ wsJx000600, w ∈ wsL_law := fun _ h => List.mem_append_left _ (List.mem_append_left _ (List.mem_append_right _ h))
theorem inJx00060 : ∀ w ∈ wsJx000600, w ∈ lw_tbl := fun w h => wsL_law_in w (inlJx00060 w h)
theorem inJ9 : ∀ w ∈ wsJ90, w ∈ lw_tbl := by decide +kernel
theorem inJ0 : ∀ w ∈ wsJ00, w ∈ lw_tbl := by decide +kernel
theorem inJ7 : ∀ w ∈ wsJ70, w ∈ lw_tbl := by decide +kernel
theorem dX0_init_0 : decode cX0_init 0 = .ok (.aload_n 0, 1) := by decide +kernel
theorem dX0_init_1 : decode cX0_init 1 = .ok (.invokespecial 3, 3) := by decide +kernel
theorem dX0_init_4 : decode cX0_init 4 = .ok (.aload_n 0, 1) := by decide +kernel
theorem dX0_init_5 : decode cX0_init 5 = .ok (.bipush 8, 2) := by decide +kernel
theorem dX0_init_7 : decode cX0_init 7 = .ok (.newarray .int, 2) := by decide +kernel
theorem dX0_init_9 : decode cX0_init 9 = .ok (.putfield 9, 3) := by decide +kernel
theorem dX0_init_12 : decode cX0_init 12 = .ok (.aload_n 0, 1) := by decide +kernel
theorem dX0_init_13 : decode cX0_init 13 = .ok (.iconst 0, 1) := by decide +kernel
theorem dX0_init_14 : decode cX0_init 14 = .ok (.putfield 15, 3) := by decide +kernel
theorem dX0_init_17 : decode cX0_init 17 = .ok (.aload_n 0, 1) := by decide +kernel
theorem dX0_init_18 : decode cX0_init 18 = .ok (.iconst 0, 1) := by decide +kernel
theorem dX0_init_19 : decode cX0_init 19 = .ok (.putfield 19, 3) := by decide +kernel
theorem dX0_init_22 : decode cX0_init 22 = .ok (.aload_n 0, 1) := by decide +kernel
theorem dX0_init_23 : decode cX0_init 23 = .ok (.iconst 0, 1) := by decide +kernel
theorem dX0_init_24 : decode cX0_init 24 = .ok (.putfield 22, 3) := by decide +kernel
theorem dX0_init_27 : decode cX0_init 27 = .ok (.return_, 1) := by decide +kernel
set_option maxRecDepth 20000 in
theorem ggX0_keep_X2_keptCode : GoodIn wsX0_keep wsX2_keptCode := goodIn_ca (goodIn_r _ [8, 9, 19, 20, 21, 22, 23, 24, 25, 26, 27] (by decide +kernel) (by decide +kernel)) (goodIn_sub (fun _ h => List.mem_cons_of_mem _ (List.mem_append_right _ h)) (by decide +kernel))
set_option maxRecDepth 20000 in
theorem gX0_keep_X2_keptCode_n25 : GoodIn wsX0_keep (wsX2_keptCode) := ggX0_keep_X2_keptCode
set_option maxRecDepth 20000 in
theorem ggX0_keep_X3_isChanged : GoodIn wsX0_keep wsX3_isChanged := goodIn_r _ [12] (by decide +kernel) (by decide +kernel)
set_option maxRecDepth 20000 in
theorem gX0_keep_X3_isChanged_n31 : GoodIn wsX0_keep (wsX3_isChanged) := ggX0_keep_X3_isChanged
set_option maxRecDepth 20000 in
theorem ggX0_keep_X3_isDown : GoodIn wsX0_keep wsX3_isDown := goodIn_r _ [14] (by decide +kernel) (by decide +kernel)
set_option maxRecDepth 20000 in
theorem gX0_keep_X3_isDown_n35 : GoodIn wsX0_keep (wsX3_isDown) := ggX0_keep_X3_isDown
theorem dX0_keep_0 : decode cX0_keep 0 = .ok (.aload_n 0, 1) := by decide +kernel
theorem dX0_keep_1 : decode cX0_keep 1 = .ok (.iconst 0, 1) := by decide +kernel
theorem dX0_keep_2 : decode cX0_keep 2 = .ok (.putfield 15, 3) := by decide +kernel
theorem dX0_keep_5 : decode cX0_keep 5 = .ok (.aload_n 0, 1) := by decide +kernel
theorem dX0_keep_6 : decode cX0_keep 6 = .ok (.iconst 0, 1) := by decide +kernel
theorem dX0_keep_7 : decode cX0_keep 7 = .ok (.putfield 19, 3) := by decide +kernel
theorem dX0_keep_10 : decode cX0_keep 10 = .ok (.aload_n 0, 1) := by decide +kernel
theorem dX0_keep_11 : decode cX0_keep 11 = .ok (.iconst 0, 1) := by decide +kernel
theorem dX0_keep_12 : decode cX0_keep 12 = .ok (.putfield 22, 3) := by decide +kernel
theorem dX0_keep_15 : decode cX0_keep 15 = .ok (.iconst 0, 1) := by decide +kernel
theorem dX0_keep_16 : decode cX0_keep 16 = .ok (.istore 4, 2) := by decide +kernel
theorem dX0_keep_18 : decode cX0_keep 18 = .ok (.iload 4, 2) := by decide +kernel
theorem dX0_keep_20 : decode cX0_keep 20 = .ok (.iload_n 2, 1) := by decide +kernel
theorem dX0_keep_21 : decode cX0_keep 21 = .ok (.if_icmp .ge 106, 3) := by decide +kernel
theorem dX0_keep_24 : decode cX0_keep 24 = .ok (.aload_n 1, 1) := by decide +kernel
theorem dX0_keep_25 : decode cX0_keep 25 = .ok (.iload 4, 2) := by decide +kernel
theorem dX0_keep_27 : decode cX0_keep 27 = .ok (.invokevirtual 25, 3) := by decide +kernel
theorem dX0_keep_30 : decode cX0_keep 30 = .ok (.istore 5, 2) := by decide +kernel
theorem dX0_keep_32 : decode cX0_keep 32 = .ok (.aload_n 0, 1) := by decide +kernel
theorem dX0_keep_33 : decode cX0_keep 33 = .ok (.getfield 9, 3) := by decide +kernel
theorem dX0_keep_36 : decode cX0_keep 36 = .ok (.iload 4, 2) := by decide +kernel
theorem dX0_keep_38 : decode cX0_keep 38 = .ok (.iload 5, 2) := by decide +kernel
theorem dX0_keep_40 : decode cX0_keep 40 = .ok (.iastore, 1) := by decide +kernel
theorem dX0_keep_41 : decode cX0_keep 41 = .ok (.aload_n 0, 1) := by decide +kernel
theorem dX0_keep_42 : decode cX0_keep 42 = .ok (.dup, 1) := by decide +kernel
theorem dX0_keep_43 : decode cX0_keep 43 = .ok (.getfield 15, 3) := by decide +kernel
theorem dX0_keep_46 : decode cX0_keep 46 = .ok (.iload 5, 2) := by decide +kernel
theorem dX0_keep_48 : decode cX0_keep 48 = .ok (.ifCond .eq 10, 3) := by decide +kernel
theorem dX0_keep_51 : decode cX0_keep 51 = .ok (.iconst 1, 1) := by decide +kernel
theorem dX0_keep_52 : decode cX0_keep 52 = .ok (.iload 4, 2) := by decide +kernel
theorem dX0_keep_54 : decode cX0_keep 54 = .ok (.ishl, 1) := by decide +kernel
theorem dX0_keep_55 : decode cX0_keep 55 = .ok (.goto 4, 3) := by decide +kernel
theorem dX0_keep_58 : decode cX0_keep 58 = .ok (.iconst 0, 1) := by decide +kernel
theorem dX0_keep_59 : decode cX0_keep 59 = .ok (.ior, 1) := by decide +kernel
theorem dX0_keep_60 : decode cX0_keep 60 = .ok (.putfield 15, 3) := by decide +kernel
theorem dX0_keep_63 : decode cX0_keep 63 = .ok (.aload_n 0, 1) := by decide +kernel
theorem dX0_keep_64 : decode cX0_keep 64 = .ok (.dup, 1) := by decide +kernel
theorem dX0_keep_65 : decode cX0_keep 65 = .ok (.getfield 19, 3) := by decide +kernel
theorem dX0_keep_68 : decode cX0_keep 68 = .ok (.iload 5, 2) := by decide +kernel
theorem dX0_keep_70 : decode cX0_keep 70 = .ok (.aload_n 3, 1) := by decide +kernel
theorem dX0_keep_71 : decode cX0_keep 71 = .ok (.iload 4, 2) := by decide +kernel
theorem dX0_keep_73 : decode cX0_keep 73 = .ok (.iaload, 1) := by decide +kernel
theorem dX0_keep_74 : decode cX0_keep 74 = .ok (.invokestatic 31, 3) := by decide +kernel
theorem dX0_keep_77 : decode cX0_keep 77 = .ok (.ifCond .eq 10, 3) := by decide +kernel
theorem dX0_keep_80 : decode cX0_keep 80 = .ok (.iconst 1, 1) := by decide +kernel
theorem dX0_keep_81 : decode cX0_keep 81 = .ok (.iload 4, 2) := by decide +kernel
theorem dX0_keep_83 : decode cX0_keep 83 = .ok (.ishl, 1) := by decide +kernel
theorem dX0_keep_84 : decode cX0_keep 84 = .ok (.goto 4, 3) := by decide +kernel
theorem dX0_keep_87 : decode cX0_keep 87 = .ok (.iconst 0, 1) := by decide +kernel
theorem dX0_keep_88 : decode cX0_keep 88 = .ok (.ior, 1) := by decide +kernel
theorem dX0_keep_89 : decode cX0_keep 89 = .ok (.putfield 19, 3) := by decide +kernel
theorem dX0_keep_92 : decode cX0_keep 92 = .ok (.aload_n 0, 1) := by decide +kernel
theorem dX0_keep_93 : decode cX0_keep 93 = .ok (.dup, 1) := by decide +kernel
theorem dX0_keep_94 : decode cX0_keep 94 = .ok (.getfield 22, 3) := by decide +kernel
theorem dX0_keep_97 : decode cX0_keep 97 = .ok (.iload 5, 2) := by decide +kernel
theorem dX0_keep_99 : decode cX0_keep 99 = .ok (.aload_n 3, 1) := by decide +kernel
theorem dX0_keep_100 : decode cX0_keep 100 = .ok (.iload 4, 2) := by decide +kernel
theorem dX0_keep_102 : decode cX0_keep 102 = .ok (.iaload, 1) := by decide +kernel
theorem dX0_keep_103 : decode cX0_keep 103 = .ok (.invokestatic 35, 3) := by decide +kernel
theorem dX0_keep_106 : decode cX0_keep 106 = .ok (.ifCond .eq 10, 3) := by decide +kernel
theorem dX0_keep_109 : decode cX0_keep 109 = .ok (.iconst 1, 1) := by decide +kernel
theorem dX0_keep_110 : decode cX0_keep 110 = .ok (.iload 4, 2) := by decide +kernel
theorem dX0_keep_112 : decode cX0_keep 112 = .ok (.ishl, 1) := by decide +kernel
theorem dX0_keep_113 : decode cX0_keep 113 = .ok (.goto 4, 3) := by decide +kernel
theorem dX0_keep_116 : decode cX0_keep 116 = .ok (.iconst 0, 1) := by decide +kernel
theorem dX0_keep_117 : decode cX0_keep 117 = .ok (.ior, 1) := by decide +kernel
theorem dX0_keep_118 : decode cX0_keep 118 = .ok (.putfield 22, 3) := by decide +kernel
theorem dX0_keep_121 : decode cX0_keep 121 = .ok (.iinc 4 1, 3) := by decide +kernel
theorem dX0_keep_124 : decode cX0_keep 124 = .ok (.goto (-106), 3) := by decide +kernel
theorem dX0_keep_127 : decode cX0_keep 127 = .ok (.return_, 1) := by decide +kernel
set_option maxRecDepth 20000 in
theorem ggX1_init_J7_fill_53178 : GoodIn wsX1_init wsJ7_fill_53178 := goodIn_r _ [10] (by decide +kernel) (by decide +kernel)
set_option maxRecDepth 20000 in
theorem gX1_init_J7_fill_53178 : GoodIn wsX1_init (va_wsS RX1 18 yJ7_fill_53178 wsJ7_fill_53178) := goodIn_app (goodIn_of _ (by decide +kernel)) ggX1_init_J7_fill_53178
theorem dX1_init_0 : decode cX1_init 0 = .ok (.aload_n 0, 1) := by decide +kernel
theorem dX1_init_1 : decode cX1_init 1 = .ok (.invokespecial 3, 3) := by decide +kernel
theorem dX1_init_4 : decode cX1_init 4 = .ok (.aload_n 0, 1) := by decide +kernel
theorem dX1_init_5 : decode cX1_init 5 = .ok (.bipush 8, 2) := by decide +kernel
theorem dX1_init_7 : decode cX1_init 7 = .ok (.newarray .int, 2) := by decide +kernel
theorem dX1_init_9 : decode cX1_init 9 = .ok (.putfield 9, 3) := by decide +kernel
theorem dX1_init_12 : decode cX1_init 12 = .ok (.aload_n 0, 1) := by decide +kernel
theorem dX1_init_13 : decode cX1_init 13 = .ok (.sipush 448, 3) := by decide +kernel
theorem dX1_init_16 : decode cX1_init 16 = .ok (.newarray .int, 2) := by decide +kernel
theorem dX1_init_18 : decode cX1_init 18 = .ok (.putfield 15, 3) := by decide +kernel
theorem dX1_init_21 : decode cX1_init 21 = .ok (.aload_n 0, 1) := by decide +kernel
theorem dX1_init_22 : decode cX1_init 22 = .ok (.getfield 15, 3) := by decide +kernel
theorem dX1_init_25 : decode cX1_init 25 = .ok (.bipush 127, 2) := by decide +kernel
theorem dX1_init_27 : decode cX1_init 27 = .ok (.invokestatic 18, 3) := by decide +kernel
theorem dX1_init_30 : decode cX1_init 30 = .ok (.return_, 1) := by decide +kernel
theorem dX1_open_0 : decode cX1_open 0 = .ok (.aload_n 0, 1) := by decide +kernel
theorem dX1_open_1 : decode cX1_open 1 = .ok (.getfield 9, 3) := by decide +kernel
theorem dX1_open_4 : decode cX1_open 4 = .ok (.iload_n 1, 1) := by decide +kernel
theorem dX1_open_5 : decode cX1_open 5 = .ok (.iconst 2, 1) := by decide +kernel
theorem dX1_open_6 : decode cX1_open 6 = .ok (.iload_n 2, 1) := by decide +kernel
theorem dX1_open_7 : decode cX1_open 7 = .ok (.ishl, 1) := by decide +kernel
theorem dX1_open_8 : decode cX1_open 8 = .ok (.iconst 1, 1) := by decide +kernel
theorem dX1_open_9 : decode cX1_open 9 = .ok (.isub, 1) := by decide +kernel
theorem dX1_open_10 : decode cX1_open 10 = .ok (.iastore, 1) := by decide +kernel
theorem dX1_open_11 : decode cX1_open 11 = .ok (.return_, 1) := by decide +kernel
theorem dX1_narrow_0 : decode cX1_narrow 0 = .ok (.aload_n 0, 1) := by decide +kernel
theorem dX1_narrow_1 : decode cX1_narrow 1 = .ok (.getfield 9, 3) := by decide +kernel
theorem dX1_narrow_4 : decode cX1_narrow 4 = .ok (.iload_n 1, 1) := by decide +kernel
theorem dX1_narrow_5 : decode cX1_narrow 5 = .ok (.dup2, 1) := by decide +kernel
theorem dX1_narrow_6 : decode cX1_narrow 6 = .ok (.iaload, 1) := by decide +kernel
theorem dX1_narrow_7 : decode cX1_narrow 7 = .ok (.iload_n 2, 1) := by decide +kernel
theorem dX1_narrow_8 : decode cX1_narrow 8 = .ok (.iand, 1) := by decide +kernel
theorem dX1_narrow_9 : decode cX1_narrow 9 = .ok (.iastore, 1) := by decide +kernel
theorem dX1_narrow_10 : decode cX1_narrow 10 = .ok (.return_, 1) := by decide +kernel
set_option maxRecDepth 20000 in
theorem ggX1_tie_X1_narrow : GoodIn wsX1_tie wsX1_narrow := goodIn_ca (goodIn_r _ [6, 7, 11, 12] (by decide +kernel) (by decide +kernel)) (goodIn_sub (fun _ h => List.mem_cons_of_mem _ (List.mem_append_right _ h)) (by decide +kernel))
set_option maxRecDepth 20000 in
theorem gX1_tie_X1_narrow : GoodIn wsX1_tie (wsV RX1 24 RX1 yX1_narrow wsX1_narrow) := goodIn_app (goodIn_of _ (by decide +kernel)) ggX1_tie_X1_narrow
set_option maxRecDepth 20000 in
theorem ggX1_tie_X1_place : GoodIn wsX1_tie wsX1_place := goodIn_r _ [10] (by decide +kernel) (by decide +kernel)
set_option maxRecDepth 20000 in
theorem gX1_tie_X1_place : GoodIn wsX1_tie (va_wsS RX1 28 yX1_place wsX1_place) := goodIn_app (goodIn_of _ (by decide +kernel)) ggX1_tie_X1_place
theorem dX1_tie_0 : decode cX1_tie 0 = .ok (.iload_n 1, 1) := by decide +kernel
theorem dX1_tie_1 : decode cX1_tie 1 = .ok (.iload_n 3, 1) := by decide +kernel
theorem dX1_tie_2 : decode cX1_tie 2 = .ok (.if_icmp .ne 23, 3) := by decide +kernel
theorem dX1_tie_5 : decode cX1_tie 5 = .ok (.iload 4, 2) := by decide +kernel
theorem dX1_tie_7 : decode cX1_tie 7 = .ok (.iload_n 2, 1) := by decide +kernel
theorem dX1_tie_8 : decode cX1_tie 8 = .ok (.ishr, 1) := by decide +kernel
theorem dX1_tie_9 : decode cX1_tie 9 = .ok (.iconst 1, 1) := by decide +kernel
theorem dX1_tie_10 : decode cX1_tie 10 = .ok (.iand, 1) := by decide +kernel
theorem dX1_tie_11 : decode cX1_tie 11 = .ok (.ifCond .ne 13, 3) := by decide +kernel
theorem dX1_tie_14 : decode cX1_tie 14 = .ok (.aload_n 0, 1) := by decide +kernel
theorem dX1_tie_15 : decode cX1_tie 15 = .ok (.iload_n 1, 1) := by decide +kernel
theorem dX1_tie_16 : decode cX1_tie 16 = .ok (.iconst 1, 1) := by decide +kernel
theorem dX1_tie_17 : decode cX1_tie 17 = .ok (.iload_n 2, 1) := by decide +kernel
theorem dX1_tie_18 : decode cX1_tie 18 = .ok (.ishl, 1) := by decide +kernel
theorem dX1_tie_19 : decode cX1_tie 19 = .ok (.iconst (-1), 1) := by decide +kernel
theorem dX1_tie_20 : decode cX1_tie 20 = .ok (.ixor, 1) := by decide +kernel
theorem dX1_tie_21 : decode cX1_tie 21 = .ok (.invokevirtual 24, 3) := by decide +kernel
theorem dX1_tie_24 : decode cX1_tie 24 = .ok (.return_, 1) := by decide +kernel
theorem dX1_tie_25 : decode cX1_tie 25 = .ok (.aload_n 0, 1) := by decide +kernel
theorem dX1_tie_26 : decode cX1_tie 26 = .ok (.getfield 15, 3) := by decide +kernel
theorem dX1_tie_29 : decode cX1_tie 29 = .ok (.iload_n 1, 1) := by decide +kernel
theorem dX1_tie_30 : decode cX1_tie 30 = .ok (.iload_n 2, 1) := by decide +kernel
theorem dX1_tie_31 : decode cX1_tie 31 = .ok (.iload_n 3, 1) := by decide +kernel
theorem dX1_tie_32 : decode cX1_tie 32 = .ok (.invokestatic 28, 3) := by decide +kernel
theorem dX1_tie_35 : decode cX1_tie 35 = .ok (.dup2, 1) := by decide +kernel
theorem dX1_tie_36 : decode cX1_tie 36 = .ok (.iaload, 1) := by decide +kernel
theorem dX1_tie_37 : decode cX1_tie 37 = .ok (.iload 4, 2) := by decide +kernel
theorem dX1_tie_39 : decode cX1_tie 39 = .ok (.iand, 1) := by decide +kernel
theorem dX1_tie_40 : decode cX1_tie 40 = .ok (.iastore, 1) := by decide +kernel
theorem dX1_tie_41 : decode cX1_tie 41 = .ok (.iconst 0, 1) := by decide +kernel
theorem dX1_tie_42 : decode cX1_tie 42 = .ok (.istore 5, 2) := by decide +kernel
theorem dX1_tie_44 : decode cX1_tie 44 = .ok (.iload 5, 2) := by decide +kernel
theorem dX1_tie_46 : decode cX1_tie 46 = .ok (.bipush 7, 2) := by decide +kernel
theorem dX1_tie_48 : decode cX1_tie 48 = .ok (.if_icmp .ge 39, 3) := by decide +kernel
theorem dX1_tie_51 : decode cX1_tie 51 = .ok (.iload 4, 2) := by decide +kernel
theorem dX1_tie_53 : decode cX1_tie 53 = .ok (.iload 5, 2) := by decide +kernel
theorem dX1_tie_55 : decode cX1_tie 55 = .ok (.ishr, 1) := by decide +kernel
theorem dX1_tie_56 : decode cX1_tie 56 = .ok (.iconst 1, 1) := by decide +kernel
theorem dX1_tie_57 : decode cX1_tie 57 = .ok (.iand, 1) := by decide +kernel
theorem dX1_tie_58 : decode cX1_tie 58 = .ok (.ifCond .ne 23, 3) := by decide +kernel
theorem dX1_tie_61 : decode cX1_tie 61 = .ok (.aload_n 0, 1) := by decide +kernel
theorem dX1_tie_62 : decode cX1_tie 62 = .ok (.getfield 15, 3) := by decide +kernel
theorem dX1_tie_65 : decode cX1_tie 65 = .ok (.iload_n 3, 1) := by decide +kernel
theorem dX1_tie_66 : decode cX1_tie 66 = .ok (.iload 5, 2) := by decide +kernel
theorem dX1_tie_68 : decode cX1_tie 68 = .ok (.iload_n 1, 1) := by decide +kernel
theorem dX1_tie_69 : decode cX1_tie 69 = .ok (.invokestatic 28, 3) := by decide +kernel
theorem dX1_tie_72 : decode cX1_tie 72 = .ok (.dup2, 1) := by decide +kernel
theorem dX1_tie_73 : decode cX1_tie 73 = .ok (.iaload, 1) := by decide +kernel
theorem dX1_tie_74 : decode cX1_tie 74 = .ok (.iconst 1, 1) := by decide +kernel
theorem dX1_tie_75 : decode cX1_tie 75 = .ok (.iload_n 2, 1) := by decide +kernel
theorem dX1_tie_76 : decode cX1_tie 76 = .ok (.ishl, 1) := by decide +kernel
theorem dX1_tie_77 : decode cX1_tie 77 = .ok (.iconst (-1), 1) := by decide +kernel
theorem dX1_tie_78 : decode cX1_tie 78 = .ok (.ixor, 1) := by decide +kernel
theorem dX1_tie_79 : decode cX1_tie 79 = .ok (.iand, 1) := by decide +kernel
theorem dX1_tie_80 : decode cX1_tie 80 = .ok (.iastore, 1) := by decide +kernel
theorem dX1_tie_81 : decode cX1_tie 81 = .ok (.iinc 5 1, 3) := by decide +kernel
theorem dX1_tie_84 : decode cX1_tie 84 = .ok (.goto (-40), 3) := by decide +kernel
theorem dX1_tie_87 : decode cX1_tie 87 = .ok (.return_, 1) := by decide +kernel
theorem dX1_place_0 : decode cX1_place 0 = .ok (.iload_n 0, 1) := by decide +kernel
theorem dX1_place_1 : decode cX1_place 1 = .ok (.bipush 7, 2) := by decide +kernel
theorem dX1_place_3 : decode cX1_place 3 = .ok (.imul, 1) := by decide +kernel
theorem dX1_place_4 : decode cX1_place 4 = .ok (.iload_n 1, 1) := by decide +kernel
theorem dX1_place_5 : decode cX1_place 5 = .ok (.iadd, 1) := by decide +kernel
theorem dX1_place_6 : decode cX1_place 6 = .ok (.bipush 8, 2) := by decide +kernel
theorem dX1_place_8 : decode cX1_place 8 = .ok (.imul, 1) := by decide +kernel
theorem dX1_place_9 : decode cX1_place 9 = .ok (.iload_n 2, 1) := by decide +kernel
theorem dX1_place_10 : decode cX1_place 10 = .ok (.iadd, 1) := by decide +kernel
theorem dX1_place_11 : decode cX1_place 11 = .ok (.ireturn, 1) := by decide +kernel
theorem dX2_init_0 : decode cX2_init 0 = .ok (.aload_n 0, 1) := by decide +kernel
theorem dX2_init_1 : decode cX2_init 1 = .ok (.invokespecial 5, 3) := by decide +kernel
theorem dX2_init_4 : decode cX2_init 4 = .ok (.aload_n 0, 1) := by decide +kernel
theorem dX2_init_5 : decode cX2_init 5 = .ok (.bipush 72, 2) := by decide +kernel
theorem dX2_init_7 : decode cX2_init 7 = .ok (.newarray .int, 2) := by decide +kernel
theorem dX2_init_9 : decode cX2_init 9 = .ok (.putfield 11, 3) := by decide +kernel
theorem dX2_init_12 : decode cX2_init 12 = .ok (.aload_n 0, 1) := by decide +kernel
theorem dX2_init_13 : decode cX2_init 13 = .ok (.bipush 8, 2) := by decide +kernel
theorem dX2_init_15 : decode cX2_init 15 = .ok (.newarray .int, 2) := by decide +kernel
theorem dX2_init_17 : decode cX2_init 17 = .ok (.putfield 15, 3) := by decide +kernel
theorem dX2_init_20 : decode cX2_init 20 = .ok (.aload_n 0, 1) := by decide +kernel
theorem dX2_init_21 : decode cX2_init 21 = .ok (.bipush 8, 2) := by decide +kernel
theorem dX2_init_23 : decode cX2_init 23 = .ok (.newarray .int, 2) := by decide +kernel
theorem dX2_init_25 : decode cX2_init 25 = .ok (.putfield 18, 3) := by decide +kernel
theorem dX2_init_28 : decode cX2_init 28 = .ok (.aload_n 0, 1) := by decide +kernel
theorem dX2_init_29 : decode cX2_init 29 = .ok (.bipush 8, 2) := by decide +kernel
theorem dX2_init_31 : decode cX2_init 31 = .ok (.newarray .int, 2) := by decide +kernel
theorem dX2_init_33 : decode cX2_init 33 = .ok (.putfield 21, 3) := by decide +kernel
theorem dX2_init_36 : decode cX2_init 36 = .ok (.aload_n 0, 1) := by decide +kernel
theorem dX2_init_37 : decode cX2_init 37 = .ok (.iconst 0, 1) := by decide +kernel
theorem dX2_init_38 : decode cX2_init 38 = .ok (.putfield 24, 3) := by decide +kernel
theorem dX2_init_41 : decode cX2_init 41 = .ok (.aload_n 0, 1) := by decide +kernel
theorem dX2_init_42 : decode cX2_init 42 = .ok (.sipush 144, 3) := by decide +kernel
theorem dX2_init_45 : decode cX2_init 45 = .ok (.putfield 28, 3) := by decide +kernel
theorem dX2_init_48 : decode cX2_init 48 = .ok (.aload_n 0, 1) := by decide +kernel
theorem dX2_init_49 : decode cX2_init 49 = .ok (.sipush 144, 3) := by decide +kernel
theorem dX2_init_52 : decode cX2_init 52 = .ok (.putfield 31, 3) := by decide +kernel
theorem dX2_init_55 : decode cX2_init 55 = .ok (.aload_n 0, 1) := by decide +kernel
theorem dX2_init_56 : decode cX2_init 56 = .ok (.iconst 0, 1) := by decide +kernel
theorem dX2_init_57 : decode cX2_init 57 = .ok (.putfield 34, 3) := by decide +kernel
theorem dX2_init_60 : decode cX2_init 60 = .ok (.aload_n 0, 1) := by decide +kernel
theorem dX2_init_61 : decode cX2_init 61 = .ok (.aload_n 1, 1) := by decide +kernel
theorem dX2_init_62 : decode cX2_init 62 = .ok (.putfield 38, 3) := by decide +kernel
theorem dX2_init_65 : decode cX2_init 65 = .ok (.return_, 1) := by decide +kernel
set_option maxRecDepth 20000 in
theorem ggX2_findBest_X2_find : GoodIn wsX2_findBest wsX2_find := goodIn_ca (goodIn_r _ [6, 7, 8, 9, 10, 11, 12, 13, 14, 15, 5, 16, 17, 18, 19, 20, 21, 22, 1, 23, 24, 25, 26, 27, 28, 29, 30, 31, 32, 33, 34, 35, 36, 37, 38, 39, 40, 41, 42, 43, 44, 45, 46, 47, 48, 49, 50, 51, 52, 53, 54, 55] (by decide +kernel) (by decide +kernel)) (goodIn_sub (fun _ h => List.mem_cons_of_mem _ (List.mem_append_right _ h)) (by decide +kernel))
set_option maxRecDepth 20000 in
theorem gX2_findBest_X2_find : GoodIn wsX2_findBest (wsV RX2 42 RX2 yX2_find wsX2_find) := goodIn_app (goodIn_of _ (by decide +kernel)) ggX2_findBest_X2_find
theorem dX2_findBest_0 : decode cX2_findBest 0 = .ok (.aload_n 0, 1) := by decide +kernel
theorem dX2_findBest_1 : decode cX2_findBest 1 = .ok (.iconst 0, 1) := by decide +kernel
theorem dX2_findBest_2 : decode cX2_findBest 2 = .ok (.putfield 34, 3) := by decide +kernel
theorem dX2_findBest_5 : decode cX2_findBest 5 = .ok (.aload_n 0, 1) := by decide +kernel
theorem dX2_findBest_6 : decode cX2_findBest 6 = .ok (.iload_n 1, 1) := by decide +kernel
theorem dX2_findBest_7 : decode cX2_findBest 7 = .ok (.aload_n 2, 1) := by decide +kernel
theorem dX2_findBest_8 : decode cX2_findBest 8 = .ok (.aload_n 3, 1) := by decide +kernel
theorem dX2_findBest_9 : decode cX2_findBest 9 = .ok (.invokevirtual 42, 3) := by decide +kernel
theorem dX2_findBest_12 : decode cX2_findBest 12 = .ok (.ireturn, 1) := by decide +kernel
set_option maxRecDepth 20000 in
theorem ggX2_findFirst_X2_find : GoodIn wsX2_findFirst wsX2_find := goodIn_ca (goodIn_r _ [6, 7, 8, 9, 10, 11, 12, 13, 14, 15, 5, 16, 17, 18, 19, 20, 21, 22, 1, 23, 24, 25, 26, 27, 28, 29, 30, 31, 32, 33, 34, 35, 36, 37, 38, 39, 40, 41, 42, 43, 44, 45, 46, 47, 48, 49, 50, 51, 52, 53, 54, 55] (by decide +kernel) (by decide +kernel)) (goodIn_sub (fun _ h => List.mem_cons_of_mem _ (List.mem_append_right _ h)) (by decide +kernel))
set_option maxRecDepth 20000 in
theorem gX2_findFirst_X2_find : GoodIn wsX2_findFirst (wsV RX2 42 RX2 yX2_find wsX2_find) := goodIn_app (goodIn_of _ (by decide +kernel)) ggX2_findFirst_X2_find
theorem dX2_findFirst_0 : decode cX2_findFirst 0 = .ok (.aload_n 0, 1) := by decide +kernel
theorem dX2_findFirst_1 : decode cX2_findFirst 1 = .ok (.iconst 1, 1) := by decide +kernel
theorem dX2_findFirst_2 : decode cX2_findFirst 2 = .ok (.putfield 34, 3) := by decide +kernel
theorem dX2_findFirst_5 : decode cX2_findFirst 5 = .ok (.aload_n 0, 1) := by decide +kernel
theorem dX2_findFirst_6 : decode cX2_findFirst 6 = .ok (.iload_n 1, 1) := by decide +kernel
theorem dX2_findFirst_7 : decode cX2_findFirst 7 = .ok (.aload_n 2, 1) := by decide +kernel
theorem dX2_findFirst_8 : decode cX2_findFirst 8 = .ok (.aload_n 3, 1) := by decide +kernel
theorem dX2_findFirst_9 : decode cX2_findFirst 9 = .ok (.invokevirtual 42, 3) := by decide +kernel
theorem dX2_findFirst_12 : decode cX2_findFirst 12 = .ok (.ireturn, 1) := by decide +kernel
theorem dX2_changedCount_0 : decode cX2_changedCount 0 = .ok (.aload_n 0, 1) := by decide +kernel
theorem dX2_changedCount_1 : decode cX2_changedCount 1 = .ok (.getfield 28, 3) := by decide +kernel
theorem dX2_changedCount_4 : decode cX2_changedCount 4 = .ok (.bipush 16, 2) := by decide +kernel
theorem dX2_changedCount_6 : decode cX2_changedCount 6 = .ok (.idiv, 1) := by decide +kernel
theorem dX2_changedCount_7 : decode cX2_changedCount 7 = .ok (.ireturn, 1) := by decide +kernel
theorem dX2_keptCode_0 : decode cX2_keptCode 0 = .ok (.aload_n 0, 1) := by decide +kernel
theorem dX2_keptCode_1 : decode cX2_keptCode 1 = .ok (.getfield 21, 3) := by decide +kernel
theorem dX2_keptCode_4 : decode cX2_keptCode 4 = .ok (.iload_n 1, 1) := by decide +kernel
theorem dX2_keptCode_5 : decode cX2_keptCode 5 = .ok (.iaload, 1) := by decide +kernel
theorem dX2_keptCode_6 : decode cX2_keptCode 6 = .ok (.ireturn, 1) := by decide +kernel
set_option maxRecDepth 20000 in
theorem ggX2_find_X2_giveFrom : GoodIn wsX2_find wsX2_giveFrom := goodIn_ca (goodIn_r _ [11, 1, 5, 4, 12, 13, 14, 10, 15, 16, 17, 2, 18, 3, 19, 20, 21, 22, 23, 24, 25, 26, 27, 28, 29, 30, 31, 32, 33, 34, 6, 35, 36, 37, 38, 39, 40, 7, 8, 9, 41, 42, 43, 44, 45, 46, 47, 48, 49, 50, 51] (by decide +kernel) (by decide +kernel)) (goodIn_sub (fun _ h => List.mem_cons_of_mem _ (List.mem_append_right _ h)) (by decide +kernel))
set_option maxRecDepth 20000 in
theorem gX2_find_X2_giveFrom : GoodIn wsX2_find (wsV RX2 51 RX2 yX2_giveFrom wsX2_giveFrom) := goodIn_app (goodIn_of _ (by decide +kernel)) ggX2_find_X2_giveFrom
theorem dX2_find_0 : decode cX2_find 0 = .ok (.aload_n 0, 1) := by decide +kernel
theorem dX2_find_1 : decode cX2_find 1 = .ok (.iload_n 1, 1) := by decide +kernel
theorem dX2_find_2 : decode cX2_find 2 = .ok (.putfield 24, 3) := by decide +kernel
theorem dX2_find_5 : decode cX2_find 5 = .ok (.aload_n 0, 1) := by decide +kernel
theorem dX2_find_6 : decode cX2_find 6 = .ok (.sipush 144, 3) := by decide +kernel
theorem dX2_find_9 : decode cX2_find 9 = .ok (.putfield 28, 3) := by decide +kernel
theorem dX2_find_12 : decode cX2_find 12 = .ok (.aload_n 0, 1) := by decide +kernel
theorem dX2_find_13 : decode cX2_find 13 = .ok (.sipush 144, 3) := by decide +kernel
theorem dX2_find_16 : decode cX2_find 16 = .ok (.putfield 31, 3) := by decide +kernel
theorem dX2_find_19 : decode cX2_find 19 = .ok (.iconst 0, 1) := by decide +kernel
theorem dX2_find_20 : decode cX2_find 20 = .ok (.istore 4, 2) := by decide +kernel
theorem dX2_find_22 : decode cX2_find 22 = .ok (.iload 4, 2) := by decide +kernel
theorem dX2_find_24 : decode cX2_find 24 = .ok (.iload_n 1, 1) := by decide +kernel
theorem dX2_find_25 : decode cX2_find 25 = .ok (.if_icmp .ge 44, 3) := by decide +kernel
theorem dX2_find_28 : decode cX2_find 28 = .ok (.aload_n 0, 1) := by decide +kernel
theorem dX2_find_29 : decode cX2_find 29 = .ok (.getfield 15, 3) := by decide +kernel
theorem dX2_find_32 : decode cX2_find 32 = .ok (.iload 4, 2) := by decide +kernel
theorem dX2_find_34 : decode cX2_find 34 = .ok (.aload_n 2, 1) := by decide +kernel
theorem dX2_find_35 : decode cX2_find 35 = .ok (.iload 4, 2) := by decide +kernel
theorem dX2_find_37 : decode cX2_find 37 = .ok (.iaload, 1) := by decide +kernel
theorem dX2_find_38 : decode cX2_find 38 = .ok (.iastore, 1) := by decide +kernel
theorem dX2_find_39 : decode cX2_find 39 = .ok (.aload_n 0, 1) := by decide +kernel
theorem dX2_find_40 : decode cX2_find 40 = .ok (.getfield 11, 3) := by decide +kernel
theorem dX2_find_43 : decode cX2_find 43 = .ok (.iload 4, 2) := by decide +kernel
theorem dX2_find_45 : decode cX2_find 45 = .ok (.aload_n 0, 1) := by decide +kernel
theorem dX2_find_46 : decode cX2_find 46 = .ok (.getfield 38, 3) := by decide +kernel
theorem dX2_find_49 : decode cX2_find 49 = .ok (.getfield 46, 3) := by decide +kernel
theorem dX2_find_52 : decode cX2_find 52 = .ok (.iload 4, 2) := by decide +kernel
theorem dX2_find_54 : decode cX2_find 54 = .ok (.iaload, 1) := by decide +kernel
theorem dX2_find_55 : decode cX2_find 55 = .ok (.aload_n 3, 1) := by decide +kernel
theorem dX2_find_56 : decode cX2_find 56 = .ok (.iload 4, 2) := by decide +kernel
theorem dX2_find_58 : decode cX2_find 58 = .ok (.iaload, 1) := by decide +kernel
theorem dX2_find_59 : decode cX2_find 59 = .ok (.iconst (-1), 1) := by decide +kernel
theorem dX2_find_60 : decode cX2_find 60 = .ok (.ixor, 1) := by decide +kernel
theorem dX2_find_61 : decode cX2_find 61 = .ok (.iand, 1) := by decide +kernel
theorem dX2_find_62 : decode cX2_find 62 = .ok (.iastore, 1) := by decide +kernel
theorem dX2_find_63 : decode cX2_find 63 = .ok (.iinc 4 1, 3) := by decide +kernel
theorem dX2_find_66 : decode cX2_find 66 = .ok (.goto (-44), 3) := by decide +kernel
theorem dX2_find_69 : decode cX2_find 69 = .ok (.aload_n 0, 1) := by decide +kernel
theorem dX2_find_70 : decode cX2_find 70 = .ok (.iconst 0, 1) := by decide +kernel
theorem dX2_find_71 : decode cX2_find 71 = .ok (.iconst 0, 1) := by decide +kernel
theorem dX2_find_72 : decode cX2_find 72 = .ok (.invokevirtual 51, 3) := by decide +kernel
theorem dX2_find_75 : decode cX2_find 75 = .ok (.aload_n 0, 1) := by decide +kernel
theorem dX2_find_76 : decode cX2_find 76 = .ok (.getfield 28, 3) := by decide +kernel
theorem dX2_find_79 : decode cX2_find 79 = .ok (.sipush 144, 3) := by decide +kernel
theorem dX2_find_82 : decode cX2_find 82 = .ok (.if_icmp .ge 7, 3) := by decide +kernel
theorem dX2_find_85 : decode cX2_find 85 = .ok (.iconst 1, 1) := by decide +kernel
theorem dX2_find_86 : decode cX2_find 86 = .ok (.goto 4, 3) := by decide +kernel
theorem dX2_find_89 : decode cX2_find 89 = .ok (.iconst 0, 1) := by decide +kernel
theorem dX2_find_90 : decode cX2_find 90 = .ok (.ireturn, 1) := by decide +kernel
set_option maxRecDepth 20000 in
theorem ggX2_giveFrom_X2_keep : GoodIn wsX2_giveFrom wsX2_keep := goodIn_ca (goodIn_r _ [8, 1, 9, 10, 11, 12, 13, 40, 41, 42, 43, 44, 45, 46, 47, 48] (by decide +kernel) (by decide +kernel)) (goodIn_sub (fun _ h => List.mem_cons_of_mem _ (List.mem_append_right _ h)) (by decide +kernel))
set_option maxRecDepth 20000 in
theorem gX2_giveFrom_X2_keep : GoodIn wsX2_giveFrom (wsV RX2 55 RX2 yX2_keep wsX2_keep) := goodIn_app (goodIn_of _ (by decide +kernel)) ggX2_giveFrom_X2_keep
set_option maxRecDepth 20000 in
theorem ggX2_giveFrom_X2_give : GoodIn wsX2_giveFrom wsX2_give := goodIn_ca (goodIn_r _ [17, 3, 13, 10, 18, 19, 7, 20, 21, 22, 23, 24, 25, 26, 27, 28, 29, 1, 2, 30, 31, 32, 33, 34, 35, 36, 37, 38, 39, 0, 4, 5, 6, 8, 9, 11, 12, 14, 15, 16, 40, 41, 42, 43, 44, 45, 46, 47, 48, 49, 50] (by decide +kernel) (by decide +kernel)) (goodIn_sub (fun _ h => List.mem_cons_of_mem _ (List.mem_append_right _ h)) (by decide +kernel))
set_option maxRecDepth 20000 in
theorem gX2_giveFrom_X2_give : GoodIn wsX2_giveFrom (wsV RX2 59 RX2 yX2_give wsX2_give) := goodIn_app (goodIn_of _ (by decide +kernel)) ggX2_giveFrom_X2_give
theorem dX2_giveFrom_0 : decode cX2_giveFrom 0 = .ok (.iload_n 1, 1) := by decide +kernel
theorem dX2_giveFrom_1 : decode cX2_giveFrom 1 = .ok (.aload_n 0, 1) := by decide +kernel
theorem dX2_giveFrom_2 : decode cX2_giveFrom 2 = .ok (.getfield 24, 3) := by decide +kernel
theorem dX2_giveFrom_5 : decode cX2_giveFrom 5 = .ok (.if_icmp .lt 9, 3) := by decide +kernel
theorem dX2_giveFrom_8 : decode cX2_giveFrom 8 = .ok (.aload_n 0, 1) := by decide +kernel
theorem dX2_giveFrom_9 : decode cX2_giveFrom 9 = .ok (.iload_n 2, 1) := by decide +kernel
theorem dX2_giveFrom_10 : decode cX2_giveFrom 10 = .ok (.invokevirtual 55, 3) := by decide +kernel
theorem dX2_giveFrom_13 : decode cX2_giveFrom 13 = .ok (.return_, 1) := by decide +kernel
theorem dX2_giveFrom_14 : decode cX2_giveFrom 14 = .ok (.aload_n 0, 1) := by decide +kernel
theorem dX2_giveFrom_15 : decode cX2_giveFrom 15 = .ok (.getfield 11, 3) := by decide +kernel
theorem dX2_giveFrom_18 : decode cX2_giveFrom 18 = .ok (.iload_n 1, 1) := by decide +kernel
theorem dX2_giveFrom_19 : decode cX2_giveFrom 19 = .ok (.bipush 8, 2) := by decide +kernel
theorem dX2_giveFrom_21 : decode cX2_giveFrom 21 = .ok (.imul, 1) := by decide +kernel
theorem dX2_giveFrom_22 : decode cX2_giveFrom 22 = .ok (.iload_n 1, 1) := by decide +kernel
theorem dX2_giveFrom_23 : decode cX2_giveFrom 23 = .ok (.iadd, 1) := by decide +kernel
theorem dX2_giveFrom_24 : decode cX2_giveFrom 24 = .ok (.iaload, 1) := by decide +kernel
theorem dX2_giveFrom_25 : decode cX2_giveFrom 25 = .ok (.istore_n 3, 1) := by decide +kernel
theorem dX2_giveFrom_26 : decode cX2_giveFrom 26 = .ok (.aload_n 0, 1) := by decide +kernel
theorem dX2_giveFrom_27 : decode cX2_giveFrom 27 = .ok (.getfield 15, 3) := by decide +kernel
theorem dX2_giveFrom_30 : decode cX2_giveFrom 30 = .ok (.iload_n 1, 1) := by decide +kernel
theorem dX2_giveFrom_31 : decode cX2_giveFrom 31 = .ok (.iaload, 1) := by decide +kernel
theorem dX2_giveFrom_32 : decode cX2_giveFrom 32 = .ok (.istore 4, 2) := by decide +kernel
theorem dX2_giveFrom_34 : decode cX2_giveFrom 34 = .ok (.iload_n 3, 1) := by decide +kernel
theorem dX2_giveFrom_35 : decode cX2_giveFrom 35 = .ok (.iload 4, 2) := by decide +kernel
theorem dX2_giveFrom_37 : decode cX2_giveFrom 37 = .ok (.ishr, 1) := by decide +kernel
theorem dX2_giveFrom_38 : decode cX2_giveFrom 38 = .ok (.iconst 1, 1) := by decide +kernel
theorem dX2_giveFrom_39 : decode cX2_giveFrom 39 = .ok (.iand, 1) := by decide +kernel
theorem dX2_giveFrom_40 : decode cX2_giveFrom 40 = .ok (.ifCond .eq 11, 3) := by decide +kernel
theorem dX2_giveFrom_43 : decode cX2_giveFrom 43 = .ok (.aload_n 0, 1) := by decide +kernel
theorem dX2_giveFrom_44 : decode cX2_giveFrom 44 = .ok (.iload_n 1, 1) := by decide +kernel
theorem dX2_giveFrom_45 : decode cX2_giveFrom 45 = .ok (.iload 4, 2) := by decide +kernel
theorem dX2_giveFrom_47 : decode cX2_giveFrom 47 = .ok (.iload_n 2, 1) := by decide +kernel
theorem dX2_giveFrom_48 : decode cX2_giveFrom 48 = .ok (.invokevirtual 59, 3) := by decide +kernel
theorem dX2_giveFrom_51 : decode cX2_giveFrom 51 = .ok (.bipush 6, 2) := by decide +kernel
theorem dX2_giveFrom_53 : decode cX2_giveFrom 53 = .ok (.istore 5, 2) := by decide +kernel
theorem dX2_giveFrom_55 : decode cX2_giveFrom 55 = .ok (.iload 5, 2) := by decide +kernel
theorem dX2_giveFrom_57 : decode cX2_giveFrom 57 = .ok (.ifCond .lt 33, 3) := by decide +kernel
theorem dX2_giveFrom_60 : decode cX2_giveFrom 60 = .ok (.iload 5, 2) := by decide +kernel
theorem dX2_giveFrom_62 : decode cX2_giveFrom 62 = .ok (.iload 4, 2) := by decide +kernel
theorem dX2_giveFrom_64 : decode cX2_giveFrom 64 = .ok (.if_icmp .eq 20, 3) := by decide +kernel
theorem dX2_giveFrom_67 : decode cX2_giveFrom 67 = .ok (.iload_n 3, 1) := by decide +kernel
theorem dX2_giveFrom_68 : decode cX2_giveFrom 68 = .ok (.iload 5, 2) := by decide +kernel
theorem dX2_giveFrom_70 : decode cX2_giveFrom 70 = .ok (.ishr, 1) := by decide +kernel
theorem dX2_giveFrom_71 : decode cX2_giveFrom 71 = .ok (.iconst 1, 1) := by decide +kernel
theorem dX2_giveFrom_72 : decode cX2_giveFrom 72 = .ok (.iand, 1) := by decide +kernel
theorem dX2_giveFrom_73 : decode cX2_giveFrom 73 = .ok (.ifCond .eq 11, 3) := by decide +kernel
theorem dX2_giveFrom_76 : decode cX2_giveFrom 76 = .ok (.aload_n 0, 1) := by decide +kernel
theorem dX2_giveFrom_77 : decode cX2_giveFrom 77 = .ok (.iload_n 1, 1) := by decide +kernel
theorem dX2_giveFrom_78 : decode cX2_giveFrom 78 = .ok (.iload 5, 2) := by decide +kernel
theorem dX2_giveFrom_80 : decode cX2_giveFrom 80 = .ok (.iload_n 2, 1) := by decide +kernel
theorem dX2_giveFrom_81 : decode cX2_giveFrom 81 = .ok (.invokevirtual 59, 3) := by decide +kernel
theorem dX2_giveFrom_84 : decode cX2_giveFrom 84 = .ok (.iinc 5 (-1), 3) := by decide +kernel
theorem dX2_giveFrom_87 : decode cX2_giveFrom 87 = .ok (.goto (-32), 3) := by decide +kernel
theorem dX2_giveFrom_90 : decode cX2_giveFrom 90 = .ok (.return_, 1) := by decide +kernel
set_option maxRecDepth 20000 in
theorem ggX2_give_X2_costOf : GoodIn wsX2_give wsX2_costOf := goodIn_r _ [7, 8, 9, 10, 11, 12] (by decide +kernel) (by decide +kernel)
set_option maxRecDepth 20000 in
theorem gX2_give_X2_costOf : GoodIn wsX2_give (va_wsS RX2 63 yX2_costOf wsX2_costOf) := goodIn_app (goodIn_of _ (by decide +kernel)) ggX2_give_X2_costOf
set_option maxRecDepth 20000 in
theorem ggX2_give_X2_narrowRest : GoodIn wsX2_give wsX2_narrowRest := goodIn_ca (goodIn_r _ [16, 17, 18, 19, 1, 20, 21, 22, 23, 24, 6, 25, 40, 41, 42, 43, 44, 45, 46, 47, 48, 49, 50] (by decide +kernel) (by decide +kernel)) (goodIn_sub (fun _ h => List.mem_cons_of_mem _ (List.mem_append_right _ h)) (by decide +kernel))
set_option maxRecDepth 20000 in
theorem gX2_give_X2_narrowRest : GoodIn wsX2_give (wsV RX2 67 RX2 yX2_narrowRest wsX2_narrowRest) := goodIn_app (goodIn_of _ (by decide +kernel)) ggX2_give_X2_narrowRest
set_option maxRecDepth 20000 in
theorem ggX2_give_X2_giveFrom : GoodIn wsX2_give wsX2_giveFrom := goodIn_ca (goodIn_r _ [29, 17, 18, 1, 30, 31, 32, 6, 33, 34, 3, 35, 36, 2, 37, 38, 39, 0, 4, 5, 7, 8, 9, 10, 11, 12, 13, 14, 15, 16, 19, 20, 21, 22, 23, 24, 25, 26, 27, 28, 40, 41, 42, 43, 44, 45, 46, 47, 48, 49, 50] (by decide +kernel) (by decide +kernel)) (goodIn_sub (fun _ h => List.mem_cons_of_mem _ (List.mem_append_right _ h)) (by decide +kernel))
set_option maxRecDepth 20000 in
theorem gX2_give_X2_giveFrom : GoodIn wsX2_give (wsV RX2 51 RX2 yX2_giveFrom wsX2_giveFrom) := goodIn_app (goodIn_of _ (by decide +kernel)) ggX2_give_X2_giveFrom
theorem dX2_give_0 : decode cX2_give 0 = .ok (.iload_n 3, 1) := by decide +kernel
theorem dX2_give_1 : decode cX2_give 1 = .ok (.iload_n 2, 1) := by decide +kernel
theorem dX2_give_2 : decode cX2_give 2 = .ok (.aload_n 0, 1) := by decide +kernel
theorem dX2_give_3 : decode cX2_give 3 = .ok (.getfield 15, 3) := by decide +kernel
theorem dX2_give_6 : decode cX2_give 6 = .ok (.iload_n 1, 1) := by decide +kernel
theorem dX2_give_7 : decode cX2_give 7 = .ok (.iaload, 1) := by decide +kernel
theorem dX2_give_8 : decode cX2_give 8 = .ok (.invokestatic 63, 3) := by decide +kernel
theorem dX2_give_11 : decode cX2_give 11 = .ok (.iadd, 1) := by decide +kernel
theorem dX2_give_12 : decode cX2_give 12 = .ok (.istore 4, 2) := by decide +kernel
theorem dX2_give_14 : decode cX2_give 14 = .ok (.iload 4, 2) := by decide +kernel
theorem dX2_give_16 : decode cX2_give 16 = .ok (.aload_n 0, 1) := by decide +kernel
theorem dX2_give_17 : decode cX2_give 17 = .ok (.iload_n 1, 1) := by decide +kernel
theorem dX2_give_18 : decode cX2_give 18 = .ok (.iload_n 2, 1) := by decide +kernel
theorem dX2_give_19 : decode cX2_give 19 = .ok (.aload_n 0, 1) := by decide +kernel
theorem dX2_give_20 : decode cX2_give 20 = .ok (.getfield 31, 3) := by decide +kernel
theorem dX2_give_23 : decode cX2_give 23 = .ok (.iload 4, 2) := by decide +kernel
theorem dX2_give_25 : decode cX2_give 25 = .ok (.isub, 1) := by decide +kernel
theorem dX2_give_26 : decode cX2_give 26 = .ok (.invokevirtual 67, 3) := by decide +kernel
theorem dX2_give_29 : decode cX2_give 29 = .ok (.iadd, 1) := by decide +kernel
theorem dX2_give_30 : decode cX2_give 30 = .ok (.aload_n 0, 1) := by decide +kernel
theorem dX2_give_31 : decode cX2_give 31 = .ok (.getfield 31, 3) := by decide +kernel
theorem dX2_give_34 : decode cX2_give 34 = .ok (.if_icmp .ge 19, 3) := by decide +kernel
theorem dX2_give_37 : decode cX2_give 37 = .ok (.aload_n 0, 1) := by decide +kernel
theorem dX2_give_38 : decode cX2_give 38 = .ok (.getfield 18, 3) := by decide +kernel
theorem dX2_give_41 : decode cX2_give 41 = .ok (.iload_n 1, 1) := by decide +kernel
theorem dX2_give_42 : decode cX2_give 42 = .ok (.iload_n 2, 1) := by decide +kernel
theorem dX2_give_43 : decode cX2_give 43 = .ok (.iastore, 1) := by decide +kernel
theorem dX2_give_44 : decode cX2_give 44 = .ok (.aload_n 0, 1) := by decide +kernel
theorem dX2_give_45 : decode cX2_give 45 = .ok (.iload_n 1, 1) := by decide +kernel
theorem dX2_give_46 : decode cX2_give 46 = .ok (.iconst 1, 1) := by decide +kernel
theorem dX2_give_47 : decode cX2_give 47 = .ok (.iadd, 1) := by decide +kernel
theorem dX2_give_48 : decode cX2_give 48 = .ok (.iload 4, 2) := by decide +kernel
theorem dX2_give_50 : decode cX2_give 50 = .ok (.invokevirtual 51, 3) := by decide +kernel
theorem dX2_give_53 : decode cX2_give 53 = .ok (.return_, 1) := by decide +kernel
theorem dX2_keep_0 : decode cX2_keep 0 = .ok (.iconst 0, 1) := by decide +kernel
theorem dX2_keep_1 : decode cX2_keep 1 = .ok (.istore_n 2, 1) := by decide +kernel
theorem dX2_keep_2 : decode cX2_keep 2 = .ok (.iload_n 2, 1) := by decide +kernel
theorem dX2_keep_3 : decode cX2_keep 3 = .ok (.aload_n 0, 1) := by decide +kernel
theorem dX2_keep_4 : decode cX2_keep 4 = .ok (.getfield 24, 3) := by decide +kernel
theorem dX2_keep_7 : decode cX2_keep 7 = .ok (.if_icmp .ge 21, 3) := by decide +kernel
theorem dX2_keep_10 : decode cX2_keep 10 = .ok (.aload_n 0, 1) := by decide +kernel
theorem dX2_keep_11 : decode cX2_keep 11 = .ok (.getfield 21, 3) := by decide +kernel
theorem dX2_keep_14 : decode cX2_keep 14 = .ok (.iload_n 2, 1) := by decide +kernel
theorem dX2_keep_15 : decode cX2_keep 15 = .ok (.aload_n 0, 1) := by decide +kernel
theorem dX2_keep_16 : decode cX2_keep 16 = .ok (.getfield 18, 3) := by decide +kernel
theorem dX2_keep_19 : decode cX2_keep 19 = .ok (.iload_n 2, 1) := by decide +kernel
theorem dX2_keep_20 : decode cX2_keep 20 = .ok (.iaload, 1) := by decide +kernel
theorem dX2_keep_21 : decode cX2_keep 21 = .ok (.iastore, 1) := by decide +kernel
theorem dX2_keep_22 : decode cX2_keep 22 = .ok (.iinc 2 1, 3) := by decide +kernel
theorem dX2_keep_25 : decode cX2_keep 25 = .ok (.goto (-23), 3) := by decide +kernel
theorem dX2_keep_28 : decode cX2_keep 28 = .ok (.aload_n 0, 1) := by decide +kernel
theorem dX2_keep_29 : decode cX2_keep 29 = .ok (.iload_n 1, 1) := by decide +kernel
theorem dX2_keep_30 : decode cX2_keep 30 = .ok (.putfield 28, 3) := by decide +kernel
theorem dX2_keep_33 : decode cX2_keep 33 = .ok (.aload_n 0, 1) := by decide +kernel
theorem dX2_keep_34 : decode cX2_keep 34 = .ok (.aload_n 0, 1) := by decide +kernel
theorem dX2_keep_35 : decode cX2_keep 35 = .ok (.getfield 34, 3) := by decide +kernel
theorem dX2_keep_38 : decode cX2_keep 38 = .ok (.ifCond .eq 7, 3) := by decide +kernel
theorem dX2_keep_41 : decode cX2_keep 41 = .ok (.iconst 0, 1) := by decide +kernel
theorem dX2_keep_42 : decode cX2_keep 42 = .ok (.goto 4, 3) := by decide +kernel
theorem dX2_keep_45 : decode cX2_keep 45 = .ok (.iload_n 1, 1) := by decide +kernel
theorem dX2_keep_46 : decode cX2_keep 46 = .ok (.putfield 31, 3) := by decide +kernel
theorem dX2_keep_49 : decode cX2_keep 49 = .ok (.return_, 1) := by decide +kernel
set_option maxRecDepth 20000 in
theorem ggX2_narrowRest_X1_place : GoodIn wsX2_narrowRest wsX1_place := goodIn_r _ [7] (by decide +kernel) (by decide +kernel)
set_option maxRecDepth 20000 in
theorem gX2_narrowRest_X1_place_n71 : GoodIn wsX2_narrowRest (wsX1_place) := ggX2_narrowRest_X1_place
set_option maxRecDepth 20000 in
theorem ggX2_narrowRest_X2_leastCostOf : GoodIn wsX2_narrowRest wsX2_leastCostOf := goodIn_r _ [11] (by decide +kernel) (by decide +kernel)
set_option maxRecDepth 20000 in
theorem gX2_narrowRest_X2_leastCostOf : GoodIn wsX2_narrowRest (va_wsS RX2 77 yX2_leastCostOf wsX2_leastCostOf) := goodIn_app (goodIn_of _ (by decide +kernel)) ggX2_narrowRest_X2_leastCostOf
theorem dX2_narrowRest_0 : decode cX2_narrowRest 0 = .ok (.iload_n 1, 1) := by decide +kernel
theorem dX2_narrowRest_1 : decode cX2_narrowRest 1 = .ok (.bipush 8, 2) := by decide +kernel
theorem dX2_narrowRest_3 : decode cX2_narrowRest 3 = .ok (.imul, 1) := by decide +kernel
theorem dX2_narrowRest_4 : decode cX2_narrowRest 4 = .ok (.istore 4, 2) := by decide +kernel
theorem dX2_narrowRest_6 : decode cX2_narrowRest 6 = .ok (.iload 4, 2) := by decide +kernel
theorem dX2_narrowRest_8 : decode cX2_narrowRest 8 = .ok (.bipush 8, 2) := by decide +kernel
theorem dX2_narrowRest_10 : decode cX2_narrowRest 10 = .ok (.iadd, 1) := by decide +kernel
theorem dX2_narrowRest_11 : decode cX2_narrowRest 11 = .ok (.istore 5, 2) := by decide +kernel
theorem dX2_narrowRest_13 : decode cX2_narrowRest 13 = .ok (.iload_n 1, 1) := by decide +kernel
theorem dX2_narrowRest_14 : decode cX2_narrowRest 14 = .ok (.iload_n 2, 1) := by decide +kernel
theorem dX2_narrowRest_15 : decode cX2_narrowRest 15 = .ok (.iconst 0, 1) := by decide +kernel
theorem dX2_narrowRest_16 : decode cX2_narrowRest 16 = .ok (.invokestatic 71, 3) := by decide +kernel
theorem dX2_narrowRest_19 : decode cX2_narrowRest 19 = .ok (.istore 6, 2) := by decide +kernel
theorem dX2_narrowRest_21 : decode cX2_narrowRest 21 = .ok (.iconst 0, 1) := by decide +kernel
theorem dX2_narrowRest_22 : decode cX2_narrowRest 22 = .ok (.istore 7, 2) := by decide +kernel
theorem dX2_narrowRest_24 : decode cX2_narrowRest 24 = .ok (.iload_n 1, 1) := by decide +kernel
theorem dX2_narrowRest_25 : decode cX2_narrowRest 25 = .ok (.iconst 1, 1) := by decide +kernel
theorem dX2_narrowRest_26 : decode cX2_narrowRest 26 = .ok (.iadd, 1) := by decide +kernel
theorem dX2_narrowRest_27 : decode cX2_narrowRest 27 = .ok (.istore 8, 2) := by decide +kernel
theorem dX2_narrowRest_29 : decode cX2_narrowRest 29 = .ok (.iload 8, 2) := by decide +kernel
theorem dX2_narrowRest_31 : decode cX2_narrowRest 31 = .ok (.aload_n 0, 1) := by decide +kernel
theorem dX2_narrowRest_32 : decode cX2_narrowRest 32 = .ok (.getfield 24, 3) := by decide +kernel
theorem dX2_narrowRest_35 : decode cX2_narrowRest 35 = .ok (.if_icmp .ge 70, 3) := by decide +kernel
theorem dX2_narrowRest_38 : decode cX2_narrowRest 38 = .ok (.iload 7, 2) := by decide +kernel
theorem dX2_narrowRest_40 : decode cX2_narrowRest 40 = .ok (.iload_n 3, 1) := by decide +kernel
theorem dX2_narrowRest_41 : decode cX2_narrowRest 41 = .ok (.if_icmp .ge 64, 3) := by decide +kernel
theorem dX2_narrowRest_44 : decode cX2_narrowRest 44 = .ok (.aload_n 0, 1) := by decide +kernel
theorem dX2_narrowRest_45 : decode cX2_narrowRest 45 = .ok (.getfield 11, 3) := by decide +kernel
theorem dX2_narrowRest_48 : decode cX2_narrowRest 48 = .ok (.iload 4, 2) := by decide +kernel
theorem dX2_narrowRest_50 : decode cX2_narrowRest 50 = .ok (.iload 8, 2) := by decide +kernel
theorem dX2_narrowRest_52 : decode cX2_narrowRest 52 = .ok (.iadd, 1) := by decide +kernel
theorem dX2_narrowRest_53 : decode cX2_narrowRest 53 = .ok (.iaload, 1) := by decide +kernel
theorem dX2_narrowRest_54 : decode cX2_narrowRest 54 = .ok (.aload_n 0, 1) := by decide +kernel
theorem dX2_narrowRest_55 : decode cX2_narrowRest 55 = .ok (.getfield 38, 3) := by decide +kernel
theorem dX2_narrowRest_58 : decode cX2_narrowRest 58 = .ok (.getfield 74, 3) := by decide +kernel
theorem dX2_narrowRest_61 : decode cX2_narrowRest 61 = .ok (.iload 6, 2) := by decide +kernel
theorem dX2_narrowRest_63 : decode cX2_narrowRest 63 = .ok (.iload 8, 2) := by decide +kernel
theorem dX2_narrowRest_65 : decode cX2_narrowRest 65 = .ok (.iadd, 1) := by decide +kernel
theorem dX2_narrowRest_66 : decode cX2_narrowRest 66 = .ok (.iaload, 1) := by decide +kernel
theorem dX2_narrowRest_67 : decode cX2_narrowRest 67 = .ok (.iand, 1) := by decide +kernel
theorem dX2_narrowRest_68 : decode cX2_narrowRest 68 = .ok (.istore 9, 2) := by decide +kernel
theorem dX2_narrowRest_70 : decode cX2_narrowRest 70 = .ok (.aload_n 0, 1) := by decide +kernel
theorem dX2_narrowRest_71 : decode cX2_narrowRest 71 = .ok (.getfield 11, 3) := by decide +kernel
theorem dX2_narrowRest_74 : decode cX2_narrowRest 74 = .ok (.iload 5, 2) := by decide +kernel
theorem dX2_narrowRest_76 : decode cX2_narrowRest 76 = .ok (.iload 8, 2) := by decide +kernel
theorem dX2_narrowRest_78 : decode cX2_narrowRest 78 = .ok (.iadd, 1) := by decide +kernel
theorem dX2_narrowRest_79 : decode cX2_narrowRest 79 = .ok (.iload 9, 2) := by decide +kernel
theorem dX2_narrowRest_81 : decode cX2_narrowRest 81 = .ok (.iastore, 1) := by decide +kernel
theorem dX2_narrowRest_82 : decode cX2_narrowRest 82 = .ok (.iload 7, 2) := by decide +kernel
theorem dX2_narrowRest_84 : decode cX2_narrowRest 84 = .ok (.iload 9, 2) := by decide +kernel
theorem dX2_narrowRest_86 : decode cX2_narrowRest 86 = .ok (.aload_n 0, 1) := by decide +kernel
theorem dX2_narrowRest_87 : decode cX2_narrowRest 87 = .ok (.getfield 15, 3) := by decide +kernel
theorem dX2_narrowRest_90 : decode cX2_narrowRest 90 = .ok (.iload 8, 2) := by decide +kernel
theorem dX2_narrowRest_92 : decode cX2_narrowRest 92 = .ok (.iaload, 1) := by decide +kernel
theorem dX2_narrowRest_93 : decode cX2_narrowRest 93 = .ok (.invokestatic 77, 3) := by decide +kernel
theorem dX2_narrowRest_96 : decode cX2_narrowRest 96 = .ok (.iadd, 1) := by decide +kernel
theorem dX2_narrowRest_97 : decode cX2_narrowRest 97 = .ok (.istore 7, 2) := by decide +kernel
theorem dX2_narrowRest_99 : decode cX2_narrowRest 99 = .ok (.iinc 8 1, 3) := by decide +kernel
theorem dX2_narrowRest_102 : decode cX2_narrowRest 102 = .ok (.goto (-73), 3) := by decide +kernel
theorem dX2_narrowRest_105 : decode cX2_narrowRest 105 = .ok (.iload 7, 2) := by decide +kernel
theorem dX2_narrowRest_107 : decode cX2_narrowRest 107 = .ok (.ireturn, 1) := by decide +kernel
set_option maxRecDepth 20000 in
theorem ggX2_costOf_X3_isChanged : GoodIn wsX2_costOf wsX3_isChanged := goodIn_r _ [3] (by decide +kernel) (by decide +kernel)
set_option maxRecDepth 20000 in
theorem gX2_costOf_X3_isChanged_n80 : GoodIn wsX2_costOf (wsX3_isChanged) := ggX2_costOf_X3_isChanged
set_option maxRecDepth 20000 in
theorem ggX2_costOf_X3_isDown : GoodIn wsX2_costOf wsX3_isDown := goodIn_r _ [5] (by decide +kernel) (by decide +kernel)
set_option maxRecDepth 20000 in
theorem gX2_costOf_X3_isDown_n84 : GoodIn wsX2_costOf (wsX3_isDown) := ggX2_costOf_X3_isDown
theorem dX2_costOf_0 : decode cX2_costOf 0 = .ok (.iload_n 0, 1) := by decide +kernel
theorem dX2_costOf_1 : decode cX2_costOf 1 = .ok (.iload_n 1, 1) := by decide +kernel
theorem dX2_costOf_2 : decode cX2_costOf 2 = .ok (.invokestatic 80, 3) := by decide +kernel
theorem dX2_costOf_5 : decode cX2_costOf 5 = .ok (.ifCond .eq 8, 3) := by decide +kernel
theorem dX2_costOf_8 : decode cX2_costOf 8 = .ok (.bipush 16, 2) := by decide +kernel
theorem dX2_costOf_10 : decode cX2_costOf 10 = .ok (.goto 4, 3) := by decide +kernel
theorem dX2_costOf_13 : decode cX2_costOf 13 = .ok (.iconst 0, 1) := by decide +kernel
theorem dX2_costOf_14 : decode cX2_costOf 14 = .ok (.iload_n 0, 1) := by decide +kernel
theorem dX2_costOf_15 : decode cX2_costOf 15 = .ok (.iload_n 1, 1) := by decide +kernel
theorem dX2_costOf_16 : decode cX2_costOf 16 = .ok (.invokestatic 84, 3) := by decide +kernel
theorem dX2_costOf_19 : decode cX2_costOf 19 = .ok (.ifCond .eq 7, 3) := by decide +kernel
theorem dX2_costOf_22 : decode cX2_costOf 22 = .ok (.iconst 1, 1) := by decide +kernel
theorem dX2_costOf_23 : decode cX2_costOf 23 = .ok (.goto 4, 3) := by decide +kernel
theorem dX2_costOf_26 : decode cX2_costOf 26 = .ok (.iconst 0, 1) := by decide +kernel
theorem dX2_costOf_27 : decode cX2_costOf 27 = .ok (.iadd, 1) := by decide +kernel
theorem dX2_costOf_28 : decode cX2_costOf 28 = .ok (.ireturn, 1) := by decide +kernel
theorem dX2_leastCostOf_0 : decode cX2_leastCostOf 0 = .ok (.iload_n 0, 1) := by decide +kernel
theorem dX2_leastCostOf_1 : decode cX2_leastCostOf 1 = .ok (.ifCond .ne 7, 3) := by decide +kernel
theorem dX2_leastCostOf_4 : decode cX2_leastCostOf 4 = .ok (.sipush 144, 3) := by decide +kernel
theorem dX2_leastCostOf_7 : decode cX2_leastCostOf 7 = .ok (.ireturn, 1) := by decide +kernel
theorem dX2_leastCostOf_8 : decode cX2_leastCostOf 8 = .ok (.iload_n 0, 1) := by decide +kernel
theorem dX2_leastCostOf_9 : decode cX2_leastCostOf 9 = .ok (.iload_n 1, 1) := by decide +kernel
theorem dX2_leastCostOf_10 : decode cX2_leastCostOf 10 = .ok (.ishr, 1) := by decide +kernel
theorem dX2_leastCostOf_11 : decode cX2_leastCostOf 11 = .ok (.iconst 1, 1) := by decide +kernel
theorem dX2_leastCostOf_12 : decode cX2_leastCostOf 12 = .ok (.iand, 1) := by decide +kernel
theorem dX2_leastCostOf_13 : decode cX2_leastCostOf 13 = .ok (.ifCond .eq 5, 3) := by decide +kernel
theorem dX2_leastCostOf_16 : decode cX2_leastCostOf 16 = .ok (.iconst 0, 1) := by decide +kernel
theorem dX2_leastCostOf_17 : decode cX2_leastCostOf 17 = .ok (.ireturn, 1) := by decide +kernel
theorem dX2_leastCostOf_18 : decode cX2_leastCostOf 18 = .ok (.iload_n 0, 1) := by decide +kernel
theorem dX2_leastCostOf_19 : decode cX2_leastCostOf 19 = .ok (.iconst 1, 1) := by decide +kernel
theorem dX2_leastCostOf_20 : decode cX2_leastCostOf 20 = .ok (.iand, 1) := by decide +kernel
theorem dX2_leastCostOf_21 : decode cX2_leastCostOf 21 = .ok (.ifCond .ne 9, 3) := by decide +kernel
theorem dX2_leastCostOf_24 : decode cX2_leastCostOf 24 = .ok (.iload_n 0, 1) := by decide +kernel
theorem dX2_leastCostOf_25 : decode cX2_leastCostOf 25 = .ok (.iload_n 1, 1) := by decide +kernel
theorem dX2_leastCostOf_26 : decode cX2_leastCostOf 26 = .ok (.ishr, 1) := by decide +kernel
theorem dX2_leastCostOf_27 : decode cX2_leastCostOf 27 = .ok (.ifCond .eq 7, 3) := by decide +kernel
theorem dX2_leastCostOf_30 : decode cX2_leastCostOf 30 = .ok (.iconst 1, 1) := by decide +kernel
theorem dX2_leastCostOf_31 : decode cX2_leastCostOf 31 = .ok (.goto 4, 3) := by decide +kernel
theorem dX2_leastCostOf_34 : decode cX2_leastCostOf 34 = .ok (.iconst 0, 1) := by decide +kernel
theorem dX2_leastCostOf_35 : decode cX2_leastCostOf 35 = .ok (.istore_n 2, 1) := by decide +kernel
theorem dX2_leastCostOf_36 : decode cX2_leastCostOf 36 = .ok (.iload_n 2, 1) := by decide +kernel
theorem dX2_leastCostOf_37 : decode cX2_leastCostOf 37 = .ok (.ifCond .eq 8, 3) := by decide +kernel
theorem dX2_leastCostOf_40 : decode cX2_leastCostOf 40 = .ok (.bipush 16, 2) := by decide +kernel
theorem dX2_leastCostOf_42 : decode cX2_leastCostOf 42 = .ok (.goto 5, 3) := by decide +kernel
theorem dX2_leastCostOf_45 : decode cX2_leastCostOf 45 = .ok (.bipush 17, 2) := by decide +kernel
theorem dX2_leastCostOf_47 : decode cX2_leastCostOf 47 = .ok (.ireturn, 1) := by decide +kernel
set_option maxRecDepth 20000 in
theorem ggX3_init_X1_init : GoodIn wsX3_init wsX1_init := goodIn_r _ [25, 26, 2, 3, 16, 27, 28, 29, 30, 31, 32, 52, 53] (by decide +kernel) (by decide +kernel)
set_option maxRecDepth 20000 in
theorem gX3_init_X1_init_n11 : GoodIn wsX3_init (wsX1_init) := ggX3_init_X1_init
set_option maxRecDepth 20000 in
theorem ggX3_init_X2_init : GoodIn wsX3_init wsX2_init := goodIn_r _ [34, 35, 2, 3, 16, 36, 37, 38, 39, 40, 41, 42, 43, 44, 64, 65, 66, 67, 68, 69, 70, 71, 72] (by decide +kernel) (by decide +kernel)
set_option maxRecDepth 20000 in
theorem gX3_init_X2_init_n18 : GoodIn wsX3_init (wsX2_init) := ggX3_init_X2_init
set_option maxRecDepth 20000 in
theorem ggX3_init_X0_init : GoodIn wsX3_init wsX0_init := goodIn_r _ [46, 47, 2, 3, 16, 48, 49, 50, 51, 73, 74, 75, 76] (by decide +kernel) (by decide +kernel)
set_option maxRecDepth 20000 in
theorem gX3_init_X0_init_n27 : GoodIn wsX3_init (wsX0_init) := ggX3_init_X0_init
theorem dX3_init_0 : decode cX3_init 0 = .ok (.aload_n 0, 1) := by decide +kernel
theorem dX3_init_1 : decode cX3_init 1 = .ok (.invokespecial 3, 3) := by decide +kernel
theorem dX3_init_4 : decode cX3_init 4 = .ok (.aload_n 0, 1) := by decide +kernel
theorem dX3_init_5 : decode cX3_init 5 = .ok (.new 9, 3) := by decide +kernel
theorem dX3_init_8 : decode cX3_init 8 = .ok (.dup, 1) := by decide +kernel
theorem dX3_init_9 : decode cX3_init 9 = .ok (.invokespecial 11, 3) := by decide +kernel
theorem dX3_init_12 : decode cX3_init 12 = .ok (.putfield 12, 3) := by decide +kernel
theorem dX3_init_15 : decode cX3_init 15 = .ok (.aload_n 0, 1) := by decide +kernel
theorem dX3_init_16 : decode cX3_init 16 = .ok (.new 16, 3) := by decide +kernel
theorem dX3_init_19 : decode cX3_init 19 = .ok (.dup, 1) := by decide +kernel
theorem dX3_init_20 : decode cX3_init 20 = .ok (.aload_n 0, 1) := by decide +kernel
theorem dX3_init_21 : decode cX3_init 21 = .ok (.getfield 12, 3) := by decide +kernel
theorem dX3_init_24 : decode cX3_init 24 = .ok (.invokespecial 18, 3) := by decide +kernel
theorem dX3_init_27 : decode cX3_init 27 = .ok (.putfield 21, 3) := by decide +kernel
theorem dX3_init_30 : decode cX3_init 30 = .ok (.aload_n 0, 1) := by decide +kernel
theorem dX3_init_31 : decode cX3_init 31 = .ok (.new 25, 3) := by decide +kernel
theorem dX3_init_34 : decode cX3_init 34 = .ok (.dup, 1) := by decide +kernel
theorem dX3_init_35 : decode cX3_init 35 = .ok (.invokespecial 27, 3) := by decide +kernel
theorem dX3_init_38 : decode cX3_init 38 = .ok (.putfield 28, 3) := by decide +kernel
theorem dX3_init_41 : decode cX3_init 41 = .ok (.aload_n 0, 1) := by decide +kernel
theorem dX3_init_42 : decode cX3_init 42 = .ok (.bipush 8, 2) := by decide +kernel
theorem dX3_init_44 : decode cX3_init 44 = .ok (.newarray .int, 2) := by decide +kernel
theorem dX3_init_46 : decode cX3_init 46 = .ok (.putfield 32, 3) := by decide +kernel
theorem dX3_init_49 : decode cX3_init 49 = .ok (.aload_n 0, 1) := by decide +kernel
theorem dX3_init_50 : decode cX3_init 50 = .ok (.bipush 8, 2) := by decide +kernel
theorem dX3_init_52 : decode cX3_init 52 = .ok (.newarray .int, 2) := by decide +kernel
theorem dX3_init_54 : decode cX3_init 54 = .ok (.putfield 36, 3) := by decide +kernel
theorem dX3_init_57 : decode cX3_init 57 = .ok (.aload_n 0, 1) := by decide +kernel
theorem dX3_init_58 : decode cX3_init 58 = .ok (.bipush 8, 2) := by decide +kernel
theorem dX3_init_60 : decode cX3_init 60 = .ok (.newarray .int, 2) := by decide +kernel
theorem dX3_init_62 : decode cX3_init 62 = .ok (.putfield 39, 3) := by decide +kernel
theorem dX3_init_65 : decode cX3_init 65 = .ok (.aload_n 0, 1) := by decide +kernel
theorem dX3_init_66 : decode cX3_init 66 = .ok (.bipush 8, 2) := by decide +kernel
theorem dX3_init_68 : decode cX3_init 68 = .ok (.newarray .int, 2) := by decide +kernel
theorem dX3_init_70 : decode cX3_init 70 = .ok (.putfield 42, 3) := by decide +kernel
theorem dX3_init_73 : decode cX3_init 73 = .ok (.aload_n 0, 1) := by decide +kernel
theorem dX3_init_74 : decode cX3_init 74 = .ok (.bipush 60, 2) := by decide +kernel
theorem dX3_init_76 : decode cX3_init 76 = .ok (.newarray .int, 2) := by decide +kernel
theorem dX3_init_78 : decode cX3_init 78 = .ok (.putfield 45, 3) := by decide +kernel
theorem dX3_init_81 : decode cX3_init 81 = .ok (.aload_n 0, 1) := by decide +kernel
theorem dX3_init_82 : decode cX3_init 82 = .ok (.iconst 0, 1) := by decide +kernel
theorem dX3_init_83 : decode cX3_init 83 = .ok (.putfield 48, 3) := by decide +kernel
theorem dX3_init_86 : decode cX3_init 86 = .ok (.aload_n 0, 1) := by decide +kernel
theorem dX3_init_87 : decode cX3_init 87 = .ok (.iconst 0, 1) := by decide +kernel
theorem dX3_init_88 : decode cX3_init 88 = .ok (.putfield 52, 3) := by decide +kernel
theorem dX3_init_91 : decode cX3_init 91 = .ok (.return_, 1) := by decide +kernel
set_option maxRecDepth 20000 in
theorem ggX3_name_X3_codeOf : GoodIn wsX3_name wsX3_codeOf := goodIn_r _ [8] (by decide +kernel) (by decide +kernel)
set_option maxRecDepth 20000 in
theorem gX3_name_X3_codeOf : GoodIn wsX3_name (va_wsS RX3 55 yX3_codeOf wsX3_codeOf) := goodIn_app (goodIn_of _ (by decide +kernel)) ggX3_name_X3_codeOf
set_option maxRecDepth 20000 in
theorem ggX3_name_X1_open : GoodIn wsX3_name wsX1_open := goodIn_ca (goodIn_r _ [12, 13, 24, 25] (by decide +kernel) (by decide +kernel)) (goodIn_sub (fun _ h => List.mem_cons_of_mem _ (List.mem_append_right _ h)) (by decide +kernel))
set_option maxRecDepth 20000 in
theorem gX3_name_X1_open_n59 : GoodIn wsX3_name (wsX1_open) := ggX3_name_X1_open
theorem dX3_name_0 : decode cX3_name 0 = .ok (.iload_n 1, 1) := by decide +kernel
theorem dX3_name_1 : decode cX3_name 1 = .ok (.iconst 1, 1) := by decide +kernel
theorem dX3_name_2 : decode cX3_name 2 = .ok (.if_icmp .lt 20, 3) := by decide +kernel
theorem dX3_name_5 : decode cX3_name 5 = .ok (.iload_n 1, 1) := by decide +kernel
theorem dX3_name_6 : decode cX3_name 6 = .ok (.bipush 6, 2) := by decide +kernel
theorem dX3_name_8 : decode cX3_name 8 = .ok (.if_icmp .gt 14, 3) := by decide +kernel
theorem dX3_name_11 : decode cX3_name 11 = .ok (.iload_n 2, 1) := by decide +kernel
theorem dX3_name_12 : decode cX3_name 12 = .ok (.iconst (-1), 1) := by decide +kernel
theorem dX3_name_13 : decode cX3_name 13 = .ok (.if_icmp .lt 9, 3) := by decide +kernel
theorem dX3_name_16 : decode cX3_name 16 = .ok (.iload_n 2, 1) := by decide +kernel
theorem dX3_name_17 : decode cX3_name 17 = .ok (.bipush 9, 2) := by decide +kernel
theorem dX3_name_19 : decode cX3_name 19 = .ok (.if_icmp .le 6, 3) := by decide +kernel
theorem dX3_name_22 : decode cX3_name 22 = .ok (.bipush (-2), 2) := by decide +kernel
theorem dX3_name_24 : decode cX3_name 24 = .ok (.ireturn, 1) := by decide +kernel
theorem dX3_name_25 : decode cX3_name 25 = .ok (.aload_n 0, 1) := by decide +kernel
theorem dX3_name_26 : decode cX3_name 26 = .ok (.getfield 48, 3) := by decide +kernel
theorem dX3_name_29 : decode cX3_name 29 = .ok (.bipush 8, 2) := by decide +kernel
theorem dX3_name_31 : decode cX3_name 31 = .ok (.if_icmp .lt 6, 3) := by decide +kernel
theorem dX3_name_34 : decode cX3_name 34 = .ok (.bipush (-4), 2) := by decide +kernel
theorem dX3_name_36 : decode cX3_name 36 = .ok (.ireturn, 1) := by decide +kernel
theorem dX3_name_37 : decode cX3_name 37 = .ok (.aload_n 0, 1) := by decide +kernel
theorem dX3_name_38 : decode cX3_name 38 = .ok (.getfield 48, 3) := by decide +kernel
theorem dX3_name_41 : decode cX3_name 41 = .ok (.istore_n 3, 1) := by decide +kernel
theorem dX3_name_42 : decode cX3_name 42 = .ok (.aload_n 0, 1) := by decide +kernel
theorem dX3_name_43 : decode cX3_name 43 = .ok (.getfield 32, 3) := by decide +kernel
theorem dX3_name_46 : decode cX3_name 46 = .ok (.iload_n 3, 1) := by decide +kernel
theorem dX3_name_47 : decode cX3_name 47 = .ok (.iload_n 1, 1) := by decide +kernel
theorem dX3_name_48 : decode cX3_name 48 = .ok (.iastore, 1) := by decide +kernel
theorem dX3_name_49 : decode cX3_name 49 = .ok (.aload_n 0, 1) := by decide +kernel
theorem dX3_name_50 : decode cX3_name 50 = .ok (.getfield 36, 3) := by decide +kernel
theorem dX3_name_53 : decode cX3_name 53 = .ok (.iload_n 3, 1) := by decide +kernel
theorem dX3_name_54 : decode cX3_name 54 = .ok (.iload_n 2, 1) := by decide +kernel
theorem dX3_name_55 : decode cX3_name 55 = .ok (.invokestatic 55, 3) := by decide +kernel
theorem dX3_name_58 : decode cX3_name 58 = .ok (.iastore, 1) := by decide +kernel
theorem dX3_name_59 : decode cX3_name 59 = .ok (.aload_n 0, 1) := by decide +kernel
theorem dX3_name_60 : decode cX3_name 60 = .ok (.getfield 12, 3) := by decide +kernel
theorem dX3_name_63 : decode cX3_name 63 = .ok (.iload_n 3, 1) := by decide +kernel
theorem dX3_name_64 : decode cX3_name 64 = .ok (.iload_n 1, 1) := by decide +kernel
theorem dX3_name_65 : decode cX3_name 65 = .ok (.invokevirtual 59, 3) := by decide +kernel
theorem dX3_name_68 : decode cX3_name 68 = .ok (.aload_n 0, 1) := by decide +kernel
theorem dX3_name_69 : decode cX3_name 69 = .ok (.dup, 1) := by decide +kernel
theorem dX3_name_70 : decode cX3_name 70 = .ok (.getfield 48, 3) := by decide +kernel
theorem dX3_name_73 : decode cX3_name 73 = .ok (.iconst 1, 1) := by decide +kernel
theorem dX3_name_74 : decode cX3_name 74 = .ok (.iadd, 1) := by decide +kernel
theorem dX3_name_75 : decode cX3_name 75 = .ok (.putfield 48, 3) := by decide +kernel
theorem dX3_name_78 : decode cX3_name 78 = .ok (.iload_n 3, 1) := by decide +kernel
theorem dX3_name_79 : decode cX3_name 79 = .ok (.ireturn, 1) := by decide +kernel
set_option maxRecDepth 20000 in
theorem ggX3_needs_X3_isName : GoodIn wsX3_needs wsX3_isName := goodIn_r _ [8, 9, 34, 35, 36, 37, 38, 39, 40, 41, 42, 43] (by decide +kernel) (by decide +kernel)
set_option maxRecDepth 20000 in
theorem gX3_needs_X3_isName : GoodIn wsX3_needs (wsV RX3 63 RX3 yX3_isName wsX3_isName) := goodIn_app (goodIn_of _ (by decide +kernel)) ggX3_needs_X3_isName
set_option maxRecDepth 20000 in
theorem ggX3_needs_X3_codeOf : GoodIn wsX3_needs wsX3_codeOf := goodIn_r _ [12] (by decide +kernel) (by decide +kernel)
set_option maxRecDepth 20000 in
theorem gX3_needs_X3_codeOf : GoodIn wsX3_needs (va_wsS RX3 55 yX3_codeOf wsX3_codeOf) := goodIn_app (goodIn_of _ (by decide +kernel)) ggX3_needs_X3_codeOf
set_option maxRecDepth 20000 in
theorem ggX3_needs_X3_codesOf : GoodIn wsX3_needs wsX3_codesOf := goodIn_r _ [15] (by decide +kernel) (by decide +kernel)
set_option maxRecDepth 20000 in
theorem gX3_needs_X3_codesOf : GoodIn wsX3_needs (va_wsS RX3 67 yX3_codesOf wsX3_codesOf) := goodIn_app (goodIn_of _ (by decide +kernel)) ggX3_needs_X3_codesOf
set_option maxRecDepth 20000 in
theorem ggX3_needs_X1_tie : GoodIn wsX3_needs wsX1_tie := goodIn_ca (goodIn_r _ [19, 20, 21, 22, 23, 17, 24, 25, 26, 27, 28, 44, 45] (by decide +kernel) (by decide +kernel)) (goodIn_sub (fun _ h => List.mem_cons_of_mem _ (List.mem_append_right _ h)) (by decide +kernel))
set_option maxRecDepth 20000 in
theorem gX3_needs_X1_tie_n71 : GoodIn wsX3_needs (wsX1_tie) := ggX3_needs_X1_tie
set_option maxRecDepth 20000 in
theorem ggX3_needs_X3_addRow : GoodIn wsX3_needs wsX3_addRow := goodIn_ca (goodIn_r _ [32, 2, 33, 34, 35, 36, 37, 38, 39, 40, 41, 42, 43] (by decide +kernel) (by decide +kernel)) (goodIn_sub (fun _ h => List.mem_cons_of_mem _ (List.mem_append_right _ h)) (by decide +kernel))
set_option maxRecDepth 20000 in
theorem gX3_needs_X3_addRow : GoodIn wsX3_needs (wsV RX3 75 RX3 yX3_addRow wsX3_addRow) := goodIn_app (goodIn_of _ (by decide +kernel)) ggX3_needs_X3_addRow
theorem dX3_needs_0 : decode cX3_needs 0 = .ok (.aload_n 0, 1) := by decide +kernel
theorem dX3_needs_1 : decode cX3_needs 1 = .ok (.iload_n 1, 1) := by decide +kernel
theorem dX3_needs_2 : decode cX3_needs 2 = .ok (.invokevirtual 63, 3) := by decide +kernel
theorem dX3_needs_5 : decode cX3_needs 5 = .ok (.ifCond .eq 11, 3) := by decide +kernel
theorem dX3_needs_8 : decode cX3_needs 8 = .ok (.aload_n 0, 1) := by decide +kernel
theorem dX3_needs_9 : decode cX3_needs 9 = .ok (.iload_n 3, 1) := by decide +kernel
theorem dX3_needs_10 : decode cX3_needs 10 = .ok (.invokevirtual 63, 3) := by decide +kernel
theorem dX3_needs_13 : decode cX3_needs 13 = .ok (.ifCond .ne 5, 3) := by decide +kernel
theorem dX3_needs_16 : decode cX3_needs 16 = .ok (.iconst (-1), 1) := by decide +kernel
theorem dX3_needs_17 : decode cX3_needs 17 = .ok (.ireturn, 1) := by decide +kernel
theorem dX3_needs_18 : decode cX3_needs 18 = .ok (.iload_n 2, 1) := by decide +kernel
theorem dX3_needs_19 : decode cX3_needs 19 = .ok (.ifCond .lt 13, 3) := by decide +kernel
theorem dX3_needs_22 : decode cX3_needs 22 = .ok (.iload_n 2, 1) := by decide +kernel
theorem dX3_needs_23 : decode cX3_needs 23 = .ok (.aload_n 0, 1) := by decide +kernel
theorem dX3_needs_24 : decode cX3_needs 24 = .ok (.getfield 32, 3) := by decide +kernel
theorem dX3_needs_27 : decode cX3_needs 27 = .ok (.iload_n 1, 1) := by decide +kernel
theorem dX3_needs_28 : decode cX3_needs 28 = .ok (.iaload, 1) := by decide +kernel
theorem dX3_needs_29 : decode cX3_needs 29 = .ok (.if_icmp .lt 6, 3) := by decide +kernel
theorem dX3_needs_32 : decode cX3_needs 32 = .ok (.bipush (-2), 2) := by decide +kernel
theorem dX3_needs_34 : decode cX3_needs 34 = .ok (.ireturn, 1) := by decide +kernel
theorem dX3_needs_35 : decode cX3_needs 35 = .ok (.aload_n 0, 1) := by decide +kernel
theorem dX3_needs_36 : decode cX3_needs 36 = .ok (.getfield 52, 3) := by decide +kernel
theorem dX3_needs_39 : decode cX3_needs 39 = .ok (.bipush 60, 2) := by decide +kernel
theorem dX3_needs_41 : decode cX3_needs 41 = .ok (.if_icmp .lt 6, 3) := by decide +kernel
theorem dX3_needs_44 : decode cX3_needs 44 = .ok (.bipush (-4), 2) := by decide +kernel
theorem dX3_needs_46 : decode cX3_needs 46 = .ok (.ireturn, 1) := by decide +kernel
theorem dX3_needs_47 : decode cX3_needs 47 = .ok (.aload_n 0, 1) := by decide +kernel
theorem dX3_needs_48 : decode cX3_needs 48 = .ok (.getfield 12, 3) := by decide +kernel
theorem dX3_needs_51 : decode cX3_needs 51 = .ok (.iload_n 1, 1) := by decide +kernel
theorem dX3_needs_52 : decode cX3_needs 52 = .ok (.iload_n 2, 1) := by decide +kernel
theorem dX3_needs_53 : decode cX3_needs 53 = .ok (.invokestatic 55, 3) := by decide +kernel
theorem dX3_needs_56 : decode cX3_needs 56 = .ok (.iload_n 3, 1) := by decide +kernel
theorem dX3_needs_57 : decode cX3_needs 57 = .ok (.lload 4, 2) := by decide +kernel
theorem dX3_needs_59 : decode cX3_needs 59 = .ok (.invokestatic 67, 3) := by decide +kernel
theorem dX3_needs_62 : decode cX3_needs 62 = .ok (.invokevirtual 71, 3) := by decide +kernel
theorem dX3_needs_65 : decode cX3_needs 65 = .ok (.aload_n 0, 1) := by decide +kernel
theorem dX3_needs_66 : decode cX3_needs 66 = .ok (.iconst 0, 1) := by decide +kernel
theorem dX3_needs_67 : decode cX3_needs 67 = .ok (.iload_n 1, 1) := by decide +kernel
theorem dX3_needs_68 : decode cX3_needs 68 = .ok (.iload_n 2, 1) := by decide +kernel
theorem dX3_needs_69 : decode cX3_needs 69 = .ok (.iload_n 3, 1) := by decide +kernel
theorem dX3_needs_70 : decode cX3_needs 70 = .ok (.invokevirtual 75, 3) := by decide +kernel
theorem dX3_needs_73 : decode cX3_needs 73 = .ok (.ireturn, 1) := by decide +kernel
set_option maxRecDepth 20000 in
theorem ggX3_want_X3_codesOf : GoodIn wsX3_want wsX3_codesOf := goodIn_r _ [4] (by decide +kernel) (by decide +kernel)
set_option maxRecDepth 20000 in
theorem gX3_want_X3_codesOf : GoodIn wsX3_want (va_wsS RX3 67 yX3_codesOf wsX3_codesOf) := goodIn_app (goodIn_of _ (by decide +kernel)) ggX3_want_X3_codesOf
set_option maxRecDepth 20000 in
theorem ggX3_want_X3_addSetRow : GoodIn wsX3_want wsX3_addSetRow := goodIn_ca (goodIn_r _ [8, 9, 10, 11, 12, 13, 3, 14, 15, 16, 17, 18, 19, 20, 21, 22, 23, 24, 25, 26, 27, 28, 29, 30, 31, 32, 33, 34, 35, 36, 37] (by decide +kernel) (by decide +kernel)) (goodIn_sub (fun _ h => List.mem_cons_of_mem _ (List.mem_append_right _ h)) (by decide +kernel))
set_option maxRecDepth 20000 in
theorem gX3_want_X3_addSetRow : GoodIn wsX3_want (wsV RX3 79 RX3 yX3_addSetRow wsX3_addSetRow) := goodIn_app (goodIn_of _ (by decide +kernel)) ggX3_want_X3_addSetRow
theorem dX3_want_0 : decode cX3_want 0 = .ok (.aload_n 0, 1) := by decide +kernel
theorem dX3_want_1 : decode cX3_want 1 = .ok (.iconst 1, 1) := by decide +kernel
theorem dX3_want_2 : decode cX3_want 2 = .ok (.iload_n 1, 1) := by decide +kernel
theorem dX3_want_3 : decode cX3_want 3 = .ok (.lload_n 2, 1) := by decide +kernel
theorem dX3_want_4 : decode cX3_want 4 = .ok (.invokestatic 67, 3) := by decide +kernel
theorem dX3_want_7 : decode cX3_want 7 = .ok (.invokevirtual 79, 3) := by decide +kernel
theorem dX3_want_10 : decode cX3_want 10 = .ok (.ireturn, 1) := by decide +kernel
set_option maxRecDepth 20000 in
theorem ggX3_force_X3_codesOf : GoodIn wsX3_force wsX3_codesOf := goodIn_r _ [4] (by decide +kernel) (by decide +kernel)
set_option maxRecDepth 20000 in
theorem gX3_force_X3_codesOf : GoodIn wsX3_force (va_wsS RX3 67 yX3_codesOf wsX3_codesOf) := goodIn_app (goodIn_of _ (by decide +kernel)) ggX3_force_X3_codesOf
set_option maxRecDepth 20000 in
theorem ggX3_force_X3_addSetRow : GoodIn wsX3_force wsX3_addSetRow := goodIn_ca (goodIn_r _ [8, 9, 10, 11, 12, 13, 3, 14, 15, 16, 17, 18, 19, 20, 21, 22, 23, 24, 25, 26, 27, 28, 29, 30, 31, 32, 33, 34, 35, 36, 37] (by decide +kernel) (by decide +kernel)) (goodIn_sub (fun _ h => List.mem_cons_of_mem _ (List.mem_append_right _ h)) (by decide +kernel))
set_option maxRecDepth 20000 in
theorem gX3_force_X3_addSetRow : GoodIn wsX3_force (wsV RX3 79 RX3 yX3_addSetRow wsX3_addSetRow) := goodIn_app (goodIn_of _ (by decide +kernel)) ggX3_force_X3_addSetRow
theorem dX3_force_0 : decode cX3_force 0 = .ok (.aload_n 0, 1) := by decide +kernel
theorem dX3_force_1 : decode cX3_force 1 = .ok (.iconst 2, 1) := by decide +kernel
theorem dX3_force_2 : decode cX3_force 2 = .ok (.iload_n 1, 1) := by decide +kernel
theorem dX3_force_3 : decode cX3_force 3 = .ok (.lload_n 2, 1) := by decide +kernel
theorem dX3_force_4 : decode cX3_force 4 = .ok (.invokestatic 67, 3) := by decide +kernel
theorem dX3_force_7 : decode cX3_force 7 = .ok (.iconst 1, 1) := by decide +kernel
theorem dX3_force_8 : decode cX3_force 8 = .ok (.ior, 1) := by decide +kernel
theorem dX3_force_9 : decode cX3_force 9 = .ok (.invokevirtual 79, 3) := by decide +kernel
theorem dX3_force_12 : decode cX3_force 12 = .ok (.ireturn, 1) := by decide +kernel
set_option maxRecDepth 20000 in
theorem ggX3_group_X3_isName : GoodIn wsX3_group wsX3_isName := goodIn_r _ [7, 8, 27, 28, 29, 30, 31, 32, 33, 34, 35, 36] (by decide +kernel) (by decide +kernel)
set_option maxRecDepth 20000 in
theorem gX3_group_X3_isName : GoodIn wsX3_group (wsV RX3 63 RX3 yX3_isName wsX3_isName) := goodIn_app (goodIn_of _ (by decide +kernel)) ggX3_group_X3_isName
set_option maxRecDepth 20000 in
theorem ggX3_group_X1_tie : GoodIn wsX3_group wsX1_tie := goodIn_ca (goodIn_r _ [12, 13, 14, 15, 16, 10, 17, 18, 19, 20, 21, 37, 38] (by decide +kernel) (by decide +kernel)) (goodIn_sub (fun _ h => List.mem_cons_of_mem _ (List.mem_append_right _ h)) (by decide +kernel))
set_option maxRecDepth 20000 in
theorem gX3_group_X1_tie_n71 : GoodIn wsX3_group (wsX1_tie) := ggX3_group_X1_tie
set_option maxRecDepth 20000 in
theorem ggX3_group_X3_addRow : GoodIn wsX3_group wsX3_addRow := goodIn_ca (goodIn_r _ [25, 1, 26, 27, 28, 29, 30, 31, 32, 33, 34, 35, 36] (by decide +kernel) (by decide +kernel)) (goodIn_sub (fun _ h => List.mem_cons_of_mem _ (List.mem_append_right _ h)) (by decide +kernel))
set_option maxRecDepth 20000 in
theorem gX3_group_X3_addRow : GoodIn wsX3_group (wsV RX3 75 RX3 yX3_addRow wsX3_addRow) := goodIn_app (goodIn_of _ (by decide +kernel)) ggX3_group_X3_addRow
theorem dX3_group_0 : decode cX3_group 0 = .ok (.aload_n 0, 1) := by decide +kernel
theorem dX3_group_1 : decode cX3_group 1 = .ok (.iload_n 1, 1) := by decide +kernel
theorem dX3_group_2 : decode cX3_group 2 = .ok (.invokevirtual 63, 3) := by decide +kernel
theorem dX3_group_5 : decode cX3_group 5 = .ok (.ifCond .eq 11, 3) := by decide +kernel
theorem dX3_group_8 : decode cX3_group 8 = .ok (.aload_n 0, 1) := by decide +kernel
theorem dX3_group_9 : decode cX3_group 9 = .ok (.iload_n 2, 1) := by decide +kernel
theorem dX3_group_10 : decode cX3_group 10 = .ok (.invokevirtual 63, 3) := by decide +kernel
theorem dX3_group_13 : decode cX3_group 13 = .ok (.ifCond .ne 5, 3) := by decide +kernel
theorem dX3_group_16 : decode cX3_group 16 = .ok (.iconst (-1), 1) := by decide +kernel
theorem dX3_group_17 : decode cX3_group 17 = .ok (.ireturn, 1) := by decide +kernel
theorem dX3_group_18 : decode cX3_group 18 = .ok (.iload_n 1, 1) := by decide +kernel
theorem dX3_group_19 : decode cX3_group 19 = .ok (.iload_n 2, 1) := by decide +kernel
theorem dX3_group_20 : decode cX3_group 20 = .ok (.if_icmp .ne 6, 3) := by decide +kernel
theorem dX3_group_23 : decode cX3_group 23 = .ok (.bipush (-2), 2) := by decide +kernel
theorem dX3_group_25 : decode cX3_group 25 = .ok (.ireturn, 1) := by decide +kernel
theorem dX3_group_26 : decode cX3_group 26 = .ok (.aload_n 0, 1) := by decide +kernel
theorem dX3_group_27 : decode cX3_group 27 = .ok (.getfield 52, 3) := by decide +kernel
theorem dX3_group_30 : decode cX3_group 30 = .ok (.bipush 60, 2) := by decide +kernel
theorem dX3_group_32 : decode cX3_group 32 = .ok (.if_icmp .lt 6, 3) := by decide +kernel
theorem dX3_group_35 : decode cX3_group 35 = .ok (.bipush (-4), 2) := by decide +kernel
theorem dX3_group_37 : decode cX3_group 37 = .ok (.ireturn, 1) := by decide +kernel
theorem dX3_group_38 : decode cX3_group 38 = .ok (.iconst 1, 1) := by decide +kernel
theorem dX3_group_39 : decode cX3_group 39 = .ok (.istore_n 3, 1) := by decide +kernel
theorem dX3_group_40 : decode cX3_group 40 = .ok (.iload_n 3, 1) := by decide +kernel
theorem dX3_group_41 : decode cX3_group 41 = .ok (.bipush 7, 2) := by decide +kernel
theorem dX3_group_43 : decode cX3_group 43 = .ok (.if_icmp .ge 24, 3) := by decide +kernel
theorem dX3_group_46 : decode cX3_group 46 = .ok (.aload_n 0, 1) := by decide +kernel
theorem dX3_group_47 : decode cX3_group 47 = .ok (.getfield 12, 3) := by decide +kernel
theorem dX3_group_50 : decode cX3_group 50 = .ok (.iload_n 1, 1) := by decide +kernel
theorem dX3_group_51 : decode cX3_group 51 = .ok (.iload_n 3, 1) := by decide +kernel
theorem dX3_group_52 : decode cX3_group 52 = .ok (.iload_n 2, 1) := by decide +kernel
theorem dX3_group_53 : decode cX3_group 53 = .ok (.iconst 1, 1) := by decide +kernel
theorem dX3_group_54 : decode cX3_group 54 = .ok (.iconst 1, 1) := by decide +kernel
theorem dX3_group_55 : decode cX3_group 55 = .ok (.iload_n 3, 1) := by decide +kernel
theorem dX3_group_56 : decode cX3_group 56 = .ok (.ishl, 1) := by decide +kernel
theorem dX3_group_57 : decode cX3_group 57 = .ok (.ior, 1) := by decide +kernel
theorem dX3_group_58 : decode cX3_group 58 = .ok (.invokevirtual 71, 3) := by decide +kernel
theorem dX3_group_61 : decode cX3_group 61 = .ok (.iinc 3 1, 3) := by decide +kernel
theorem dX3_group_64 : decode cX3_group 64 = .ok (.goto (-24), 3) := by decide +kernel
theorem dX3_group_67 : decode cX3_group 67 = .ok (.aload_n 0, 1) := by decide +kernel
theorem dX3_group_68 : decode cX3_group 68 = .ok (.iconst 3, 1) := by decide +kernel
theorem dX3_group_69 : decode cX3_group 69 = .ok (.iload_n 1, 1) := by decide +kernel
theorem dX3_group_70 : decode cX3_group 70 = .ok (.iconst 0, 1) := by decide +kernel
theorem dX3_group_71 : decode cX3_group 71 = .ok (.iload_n 2, 1) := by decide +kernel
theorem dX3_group_72 : decode cX3_group 72 = .ok (.invokevirtual 75, 3) := by decide +kernel
theorem dX3_group_75 : decode cX3_group 75 = .ok (.ireturn, 1) := by decide +kernel
set_option maxRecDepth 20000 in
theorem ggX3_solve_X2_findBest : GoodIn wsX3_solve wsX2_findBest := goodIn_ca (goodIn_r _ [13, 14, 15, 16, 17, 11, 18, 19, 20, 21, 22, 23, 24, 25, 26, 27, 28, 29, 30, 31, 32, 33, 34, 35, 36, 37, 38, 39, 40, 41, 42, 43, 44, 45, 46, 47, 48, 49, 50, 51, 52, 53, 54, 55, 56, 88, 89, 90, 91, 92, 93, 94, 95, 96, 97, 98] (by decide +kernel) (by decide +kernel)) (goodIn_sub (fun _ h => List.mem_cons_of_mem _ (List.mem_append_right _ h)) (by decide +kernel))
set_option maxRecDepth 20000 in
theorem gX3_solve_X2_findBest_n83 : GoodIn wsX3_solve (wsX2_findBest) := ggX3_solve_X2_findBest
set_option maxRecDepth 20000 in
theorem ggX3_solve_X2_changedCount : GoodIn wsX3_solve wsX2_changedCount := goodIn_r _ [59, 20, 88, 89, 90, 91, 92, 93, 94, 95, 96] (by decide +kernel) (by decide +kernel)
set_option maxRecDepth 20000 in
theorem gX3_solve_X2_changedCount_n87 : GoodIn wsX3_solve (wsX2_changedCount) := ggX3_solve_X2_changedCount
set_option maxRecDepth 20000 in
theorem ggX3_solve_X3_waysToTry : GoodIn wsX3_solve wsX3_waysToTry := goodIn_r _ [63, 2, 78, 79, 80, 81, 82, 83, 84, 85, 86, 87] (by decide +kernel) (by decide +kernel)
set_option maxRecDepth 20000 in
theorem gX3_solve_X3_waysToTry : GoodIn wsX3_solve (wsV RX3 97 RX3 yX3_waysToTry wsX3_waysToTry) := goodIn_app (goodIn_of _ (by decide +kernel)) ggX3_solve_X3_waysToTry
set_option maxRecDepth 20000 in
theorem ggX3_solve_X2_findFirst : GoodIn wsX3_solve wsX2_findFirst := goodIn_ca (goodIn_r _ [66, 14, 15, 16, 17, 11, 18, 19, 20, 21, 22, 23, 24, 25, 26, 27, 28, 29, 30, 31, 32, 33, 34, 35, 36, 37, 38, 39, 40, 41, 42, 43, 44, 45, 46, 47, 48, 49, 50, 51, 52, 53, 54, 55, 56, 88, 89, 90, 91, 92, 93, 94, 95, 96, 97, 98] (by decide +kernel) (by decide +kernel)) (goodIn_sub (fun _ h => List.mem_cons_of_mem _ (List.mem_append_right _ h)) (by decide +kernel))
set_option maxRecDepth 20000 in
theorem gX3_solve_X2_findFirst_n100 : GoodIn wsX3_solve (wsX2_findFirst) := ggX3_solve_X2_findFirst
set_option maxRecDepth 20000 in
theorem ggX3_solve_X0_keep : GoodIn wsX3_solve wsX0_keep := goodIn_ca (goodIn_r _ [70, 71, 72, 73, 74, 75, 11, 76, 77, 33, 42, 43, 44, 45, 46, 99, 100, 101, 102, 88, 89, 90, 91, 92, 93, 94, 95, 96] (by decide +kernel) (by decide +kernel)) (goodIn_sub (fun _ h => List.mem_cons_of_mem _ (List.mem_append_right _ h)) (by decide +kernel))
set_option maxRecDepth 20000 in
theorem gX3_solve_X0_keep_n103 : GoodIn wsX3_solve (wsX0_keep) := ggX3_solve_X0_keep
theorem dX3_solve_0 : decode cX3_solve 0 = .ok (.iload_n 1, 1) := by decide +kernel
theorem dX3_solve_1 : decode cX3_solve 1 = .ok (.ifCond .lt 15, 3) := by decide +kernel
theorem dX3_solve_4 : decode cX3_solve 4 = .ok (.iload_n 1, 1) := by decide +kernel
theorem dX3_solve_5 : decode cX3_solve 5 = .ok (.bipush 8, 2) := by decide +kernel
theorem dX3_solve_7 : decode cX3_solve 7 = .ok (.if_icmp .gt 9, 3) := by decide +kernel
theorem dX3_solve_10 : decode cX3_solve 10 = .ok (.lload_n 2, 1) := by decide +kernel
theorem dX3_solve_11 : decode cX3_solve 11 = .ok (.lconst 1, 1) := by decide +kernel
theorem dX3_solve_12 : decode cX3_solve 12 = .ok (.lcmp, 1) := by decide +kernel
theorem dX3_solve_13 : decode cX3_solve 13 = .ok (.ifCond .ge 6, 3) := by decide +kernel
theorem dX3_solve_16 : decode cX3_solve 16 = .ok (.bipush (-3), 2) := by decide +kernel
theorem dX3_solve_18 : decode cX3_solve 18 = .ok (.ireturn, 1) := by decide +kernel
theorem dX3_solve_19 : decode cX3_solve 19 = .ok (.aload_n 0, 1) := by decide +kernel
theorem dX3_solve_20 : decode cX3_solve 20 = .ok (.getfield 21, 3) := by decide +kernel
theorem dX3_solve_23 : decode cX3_solve 23 = .ok (.aload_n 0, 1) := by decide +kernel
theorem dX3_solve_24 : decode cX3_solve 24 = .ok (.getfield 48, 3) := by decide +kernel
theorem dX3_solve_27 : decode cX3_solve 27 = .ok (.aload_n 0, 1) := by decide +kernel
theorem dX3_solve_28 : decode cX3_solve 28 = .ok (.getfield 36, 3) := by decide +kernel
theorem dX3_solve_31 : decode cX3_solve 31 = .ok (.aload_n 0, 1) := by decide +kernel
theorem dX3_solve_32 : decode cX3_solve 32 = .ok (.getfield 42, 3) := by decide +kernel
theorem dX3_solve_35 : decode cX3_solve 35 = .ok (.invokevirtual 83, 3) := by decide +kernel
theorem dX3_solve_38 : decode cX3_solve 38 = .ok (.istore 4, 2) := by decide +kernel
theorem dX3_solve_40 : decode cX3_solve 40 = .ok (.iload 4, 2) := by decide +kernel
theorem dX3_solve_42 : decode cX3_solve 42 = .ok (.ifCond .eq 18, 3) := by decide +kernel
theorem dX3_solve_45 : decode cX3_solve 45 = .ok (.aload_n 0, 1) := by decide +kernel
theorem dX3_solve_46 : decode cX3_solve 46 = .ok (.getfield 21, 3) := by decide +kernel
theorem dX3_solve_49 : decode cX3_solve 49 = .ok (.invokevirtual 87, 3) := by decide +kernel
theorem dX3_solve_52 : decode cX3_solve 52 = .ok (.iload_n 1, 1) := by decide +kernel
theorem dX3_solve_53 : decode cX3_solve 53 = .ok (.if_icmp .gt 7, 3) := by decide +kernel
theorem dX3_solve_56 : decode cX3_solve 56 = .ok (.iconst 1, 1) := by decide +kernel
theorem dX3_solve_57 : decode cX3_solve 57 = .ok (.goto 4, 3) := by decide +kernel
theorem dX3_solve_60 : decode cX3_solve 60 = .ok (.iconst 0, 1) := by decide +kernel
theorem dX3_solve_61 : decode cX3_solve 61 = .ok (.istore 5, 2) := by decide +kernel
theorem dX3_solve_63 : decode cX3_solve 63 = .ok (.iload 5, 2) := by decide +kernel
theorem dX3_solve_65 : decode cX3_solve 65 = .ok (.ifCond .eq 13, 3) := by decide +kernel
theorem dX3_solve_68 : decode cX3_solve 68 = .ok (.aload_n 0, 1) := by decide +kernel
theorem dX3_solve_69 : decode cX3_solve 69 = .ok (.getfield 21, 3) := by decide +kernel
theorem dX3_solve_72 : decode cX3_solve 72 = .ok (.invokevirtual 87, 3) := by decide +kernel
theorem dX3_solve_75 : decode cX3_solve 75 = .ok (.goto 11, 3) := by decide +kernel
theorem dX3_solve_78 : decode cX3_solve 78 = .ok (.iload_n 1, 1) := by decide +kernel
theorem dX3_solve_79 : decode cX3_solve 79 = .ok (.aload_n 0, 1) := by decide +kernel
theorem dX3_solve_80 : decode cX3_solve 80 = .ok (.getfield 48, 3) := by decide +kernel
theorem dX3_solve_83 : decode cX3_solve 83 = .ok (.invokestatic 91, 3) := by decide +kernel
theorem dX3_solve_86 : decode cX3_solve 86 = .ok (.istore 6, 2) := by decide +kernel
theorem dX3_solve_88 : decode cX3_solve 88 = .ok (.aload_n 0, 1) := by decide +kernel
theorem dX3_solve_89 : decode cX3_solve 89 = .ok (.iload 6, 2) := by decide +kernel
theorem dX3_solve_91 : decode cX3_solve 91 = .ok (.invokevirtual 97, 3) := by decide +kernel
theorem dX3_solve_94 : decode cX3_solve 94 = .ok (.i2l, 1) := by decide +kernel
theorem dX3_solve_95 : decode cX3_solve 95 = .ok (.lload_n 2, 1) := by decide +kernel
theorem dX3_solve_96 : decode cX3_solve 96 = .ok (.lcmp, 1) := by decide +kernel
theorem dX3_solve_97 : decode cX3_solve 97 = .ok (.ifCond .le 6, 3) := by decide +kernel
theorem dX3_solve_100 : decode cX3_solve 100 = .ok (.bipush (-2), 2) := by decide +kernel
theorem dX3_solve_102 : decode cX3_solve 102 = .ok (.ireturn, 1) := by decide +kernel
theorem dX3_solve_103 : decode cX3_solve 103 = .ok (.iload 4, 2) := by decide +kernel
theorem dX3_solve_105 : decode cX3_solve 105 = .ok (.ifCond .ne 5, 3) := by decide +kernel
theorem dX3_solve_108 : decode cX3_solve 108 = .ok (.iconst (-1), 1) := by decide +kernel
theorem dX3_solve_109 : decode cX3_solve 109 = .ok (.ireturn, 1) := by decide +kernel
theorem dX3_solve_110 : decode cX3_solve 110 = .ok (.iload 5, 2) := by decide +kernel
theorem dX3_solve_112 : decode cX3_solve 112 = .ok (.ifCond .ne 23, 3) := by decide +kernel
theorem dX3_solve_115 : decode cX3_solve 115 = .ok (.aload_n 0, 1) := by decide +kernel
theorem dX3_solve_116 : decode cX3_solve 116 = .ok (.getfield 21, 3) := by decide +kernel
theorem dX3_solve_119 : decode cX3_solve 119 = .ok (.aload_n 0, 1) := by decide +kernel
theorem dX3_solve_120 : decode cX3_solve 120 = .ok (.getfield 48, 3) := by decide +kernel
theorem dX3_solve_123 : decode cX3_solve 123 = .ok (.aload_n 0, 1) := by decide +kernel
theorem dX3_solve_124 : decode cX3_solve 124 = .ok (.getfield 36, 3) := by decide +kernel
theorem dX3_solve_127 : decode cX3_solve 127 = .ok (.aload_n 0, 1) := by decide +kernel
theorem dX3_solve_128 : decode cX3_solve 128 = .ok (.getfield 42, 3) := by decide +kernel
theorem dX3_solve_131 : decode cX3_solve 131 = .ok (.invokevirtual 100, 3) := by decide +kernel
theorem dX3_solve_134 : decode cX3_solve 134 = .ok (.pop, 1) := by decide +kernel
theorem dX3_solve_135 : decode cX3_solve 135 = .ok (.aload_n 0, 1) := by decide +kernel
theorem dX3_solve_136 : decode cX3_solve 136 = .ok (.getfield 28, 3) := by decide +kernel
theorem dX3_solve_139 : decode cX3_solve 139 = .ok (.aload_n 0, 1) := by decide +kernel
theorem dX3_solve_140 : decode cX3_solve 140 = .ok (.getfield 21, 3) := by decide +kernel
theorem dX3_solve_143 : decode cX3_solve 143 = .ok (.aload_n 0, 1) := by decide +kernel
theorem dX3_solve_144 : decode cX3_solve 144 = .ok (.getfield 48, 3) := by decide +kernel
theorem dX3_solve_147 : decode cX3_solve 147 = .ok (.aload_n 0, 1) := by decide +kernel
theorem dX3_solve_148 : decode cX3_solve 148 = .ok (.getfield 36, 3) := by decide +kernel
theorem dX3_solve_151 : decode cX3_solve 151 = .ok (.invokevirtual 103, 3) := by decide +kernel
theorem dX3_solve_154 : decode cX3_solve 154 = .ok (.aload_n 0, 1) := by decide +kernel
theorem dX3_solve_155 : decode cX3_solve 155 = .ok (.getfield 21, 3) := by decide +kernel
theorem dX3_solve_158 : decode cX3_solve 158 = .ok (.invokevirtual 87, 3) := by decide +kernel
theorem dX3_solve_161 : decode cX3_solve 161 = .ok (.ireturn, 1) := by decide +kernel
set_option maxRecDepth 20000 in
theorem ggX3_chosen_X3_isName : GoodIn wsX3_chosen wsX3_isName := goodIn_r _ [6, 7, 11, 12, 13, 14, 15, 16, 17, 18, 19, 20] (by decide +kernel) (by decide +kernel)
set_option maxRecDepth 20000 in
theorem gX3_chosen_X3_isName : GoodIn wsX3_chosen (wsV RX3 63 RX3 yX3_isName wsX3_isName) := goodIn_app (goodIn_of _ (by decide +kernel)) ggX3_chosen_X3_isName
set_option maxRecDepth 20000 in
theorem ggX3_chosen_X3_versionOf : GoodIn wsX3_chosen wsX3_versionOf := goodIn_r _ [10] (by decide +kernel) (by decide +kernel)
set_option maxRecDepth 20000 in
theorem gX3_chosen_X3_versionOf : GoodIn wsX3_chosen (va_wsS RX3 110 yX3_versionOf wsX3_versionOf) := goodIn_app (goodIn_of _ (by decide +kernel)) ggX3_chosen_X3_versionOf
theorem dX3_chosen_0 : decode cX3_chosen 0 = .ok (.aload_n 0, 1) := by decide +kernel
theorem dX3_chosen_1 : decode cX3_chosen 1 = .ok (.iload_n 1, 1) := by decide +kernel
theorem dX3_chosen_2 : decode cX3_chosen 2 = .ok (.invokevirtual 63, 3) := by decide +kernel
theorem dX3_chosen_5 : decode cX3_chosen 5 = .ok (.ifCond .eq 18, 3) := by decide +kernel
theorem dX3_chosen_8 : decode cX3_chosen 8 = .ok (.aload_n 0, 1) := by decide +kernel
theorem dX3_chosen_9 : decode cX3_chosen 9 = .ok (.getfield 28, 3) := by decide +kernel
theorem dX3_chosen_12 : decode cX3_chosen 12 = .ok (.getfield 107, 3) := by decide +kernel
theorem dX3_chosen_15 : decode cX3_chosen 15 = .ok (.iload_n 1, 1) := by decide +kernel
theorem dX3_chosen_16 : decode cX3_chosen 16 = .ok (.iaload, 1) := by decide +kernel
theorem dX3_chosen_17 : decode cX3_chosen 17 = .ok (.invokestatic 110, 3) := by decide +kernel
theorem dX3_chosen_20 : decode cX3_chosen 20 = .ok (.goto 4, 3) := by decide +kernel
theorem dX3_chosen_23 : decode cX3_chosen 23 = .ok (.iconst (-1), 1) := by decide +kernel
theorem dX3_chosen_24 : decode cX3_chosen 24 = .ok (.ireturn, 1) := by decide +kernel
set_option maxRecDepth 20000 in
theorem ggX3_down_X3_ithOf : GoodIn wsX3_down wsX3_ithOf := goodIn_r _ [5] (by decide +kernel) (by decide +kernel)
set_option maxRecDepth 20000 in
theorem gX3_down_X3_ithOf : GoodIn wsX3_down (va_wsS RX3 116 yX3_ithOf wsX3_ithOf) := goodIn_app (goodIn_of _ (by decide +kernel)) ggX3_down_X3_ithOf
theorem dX3_down_0 : decode cX3_down 0 = .ok (.aload_n 0, 1) := by decide +kernel
theorem dX3_down_1 : decode cX3_down 1 = .ok (.getfield 28, 3) := by decide +kernel
theorem dX3_down_4 : decode cX3_down 4 = .ok (.getfield 113, 3) := by decide +kernel
theorem dX3_down_7 : decode cX3_down 7 = .ok (.iload_n 1, 1) := by decide +kernel
theorem dX3_down_8 : decode cX3_down 8 = .ok (.invokestatic 116, 3) := by decide +kernel
theorem dX3_down_11 : decode cX3_down 11 = .ok (.ireturn, 1) := by decide +kernel
set_option maxRecDepth 20000 in
theorem ggX3_lock_X3_ithOf : GoodIn wsX3_lock wsX3_ithOf := goodIn_r _ [6] (by decide +kernel) (by decide +kernel)
set_option maxRecDepth 20000 in
theorem gX3_lock_X3_ithOf : GoodIn wsX3_lock (va_wsS RX3 116 yX3_ithOf wsX3_ithOf) := goodIn_app (goodIn_of _ (by decide +kernel)) ggX3_lock_X3_ithOf
set_option maxRecDepth 20000 in
theorem ggX3_lock_X3_isName : GoodIn wsX3_lock wsX3_isName := goodIn_r _ [10, 11, 20, 21, 22, 23, 24, 25, 26, 27, 28, 29] (by decide +kernel) (by decide +kernel)
set_option maxRecDepth 20000 in
theorem gX3_lock_X3_isName : GoodIn wsX3_lock (wsV RX3 63 RX3 yX3_isName wsX3_isName) := goodIn_app (goodIn_of _ (by decide +kernel)) ggX3_lock_X3_isName
set_option maxRecDepth 20000 in
theorem ggX3_lock_X3_versionOf : GoodIn wsX3_lock wsX3_versionOf := goodIn_r _ [14] (by decide +kernel) (by decide +kernel)
set_option maxRecDepth 20000 in
theorem gX3_lock_X3_versionOf : GoodIn wsX3_lock (va_wsS RX3 110 yX3_versionOf wsX3_versionOf) := goodIn_app (goodIn_of _ (by decide +kernel)) ggX3_lock_X3_versionOf
set_option maxRecDepth 20000 in
theorem ggX3_lock_X3_digestOf : GoodIn wsX3_lock wsX3_digestOf := goodIn_r _ [17, 18, 19] (by decide +kernel) (by decide +kernel)
set_option maxRecDepth 20000 in
theorem gX3_lock_X3_digestOf : GoodIn wsX3_lock (va_wsS RX3 122 yX3_digestOf wsX3_digestOf) := goodIn_app (goodIn_of _ (by decide +kernel)) ggX3_lock_X3_digestOf
theorem dX3_lock_0 : decode cX3_lock 0 = .ok (.aload_n 0, 1) := by decide +kernel
theorem dX3_lock_1 : decode cX3_lock 1 = .ok (.getfield 28, 3) := by decide +kernel
theorem dX3_lock_4 : decode cX3_lock 4 = .ok (.getfield 119, 3) := by decide +kernel
theorem dX3_lock_7 : decode cX3_lock 7 = .ok (.iload_n 1, 1) := by decide +kernel
theorem dX3_lock_8 : decode cX3_lock 8 = .ok (.invokestatic 116, 3) := by decide +kernel
theorem dX3_lock_11 : decode cX3_lock 11 = .ok (.istore_n 3, 1) := by decide +kernel
theorem dX3_lock_12 : decode cX3_lock 12 = .ok (.aload_n 0, 1) := by decide +kernel
theorem dX3_lock_13 : decode cX3_lock 13 = .ok (.iload_n 3, 1) := by decide +kernel
theorem dX3_lock_14 : decode cX3_lock 14 = .ok (.invokevirtual 63, 3) := by decide +kernel
theorem dX3_lock_17 : decode cX3_lock 17 = .ok (.ifCond .ne 5, 3) := by decide +kernel
theorem dX3_lock_20 : decode cX3_lock 20 = .ok (.iconst (-1), 1) := by decide +kernel
theorem dX3_lock_21 : decode cX3_lock 21 = .ok (.ireturn, 1) := by decide +kernel
theorem dX3_lock_22 : decode cX3_lock 22 = .ok (.aload_n 0, 1) := by decide +kernel
theorem dX3_lock_23 : decode cX3_lock 23 = .ok (.getfield 28, 3) := by decide +kernel
theorem dX3_lock_26 : decode cX3_lock 26 = .ok (.getfield 107, 3) := by decide +kernel
theorem dX3_lock_29 : decode cX3_lock 29 = .ok (.iload_n 3, 1) := by decide +kernel
end
section
theorem dX3_lock_30 : decode cX3_lock 30 = .ok (.iaload, 1) := by decide +kernel
theorem dX3_lock_31 : decode cX3_lock 31 = .ok (.invokestatic 110, 3) := by decide +kernel
theorem dX3_lock_34 : decode cX3_lock 34 = .ok (.istore 4, 2) := by decide +kernel
theorem dX3_lock_36 : decode cX3_lock 36 = .ok (.iload_n 2, 1) := by decide +kernel
theorem dX3_lock_37 : decode cX3_lock 37 = .ok (.tableswitch 60 0 3 #[31, 33, 36, 48], 31) := by decide +kernel
theorem dX3_lock_68 : decode cX3_lock 68 = .ok (.iload_n 3, 1) := by decide +kernel
theorem dX3_lock_69 : decode cX3_lock 69 = .ok (.ireturn, 1) := by decide +kernel
theorem dX3_lock_70 : decode cX3_lock 70 = .ok (.iload 4, 2) := by decide +kernel
theorem dX3_lock_72 : decode cX3_lock 72 = .ok (.ireturn, 1) := by decide +kernel
theorem dX3_lock_73 : decode cX3_lock 73 = .ok (.iload_n 3, 1) := by decide +kernel
theorem dX3_lock_74 : decode cX3_lock 74 = .ok (.iload 4, 2) := by decide +kernel
theorem dX3_lock_76 : decode cX3_lock 76 = .ok (.invokestatic 122, 3) := by decide +kernel
theorem dX3_lock_79 : decode cX3_lock 79 = .ok (.ldc2_w 126, 3) := by decide +kernel
theorem dX3_lock_82 : decode cX3_lock 82 = .ok (.lrem, 1) := by decide +kernel
theorem dX3_lock_83 : decode cX3_lock 83 = .ok (.l2i, 1) := by decide +kernel
theorem dX3_lock_84 : decode cX3_lock 84 = .ok (.ireturn, 1) := by decide +kernel
theorem dX3_lock_85 : decode cX3_lock 85 = .ok (.aload_n 0, 1) := by decide +kernel
theorem dX3_lock_86 : decode cX3_lock 86 = .ok (.getfield 28, 3) := by decide +kernel
theorem dX3_lock_89 : decode cX3_lock 89 = .ok (.getfield 128, 3) := by decide +kernel
theorem dX3_lock_92 : decode cX3_lock 92 = .ok (.iload_n 3, 1) := by decide +kernel
theorem dX3_lock_93 : decode cX3_lock 93 = .ok (.ishr, 1) := by decide +kernel
theorem dX3_lock_94 : decode cX3_lock 94 = .ok (.iconst 1, 1) := by decide +kernel
theorem dX3_lock_95 : decode cX3_lock 95 = .ok (.iand, 1) := by decide +kernel
theorem dX3_lock_96 : decode cX3_lock 96 = .ok (.ireturn, 1) := by decide +kernel
theorem dX3_lock_97 : decode cX3_lock 97 = .ok (.bipush (-2), 2) := by decide +kernel
theorem dX3_lock_99 : decode cX3_lock 99 = .ok (.ireturn, 1) := by decide +kernel
set_option maxRecDepth 20000 in
theorem ggX3_digest_X3_isName : GoodIn wsX3_digest wsX3_isName := goodIn_r _ [10, 11, 20, 21, 22, 23, 24, 25, 26, 27, 28, 29] (by decide +kernel) (by decide +kernel)
set_option maxRecDepth 20000 in
theorem gX3_digest_X3_isName : GoodIn wsX3_digest (wsV RX3 63 RX3 yX3_isName wsX3_isName) := goodIn_app (goodIn_of _ (by decide +kernel)) ggX3_digest_X3_isName
set_option maxRecDepth 20000 in
theorem ggX3_digest_X3_versionOf : GoodIn wsX3_digest wsX3_versionOf := goodIn_r _ [14] (by decide +kernel) (by decide +kernel)
set_option maxRecDepth 20000 in
theorem gX3_digest_X3_versionOf : GoodIn wsX3_digest (va_wsS RX3 110 yX3_versionOf wsX3_versionOf) := goodIn_app (goodIn_of _ (by decide +kernel)) ggX3_digest_X3_versionOf
set_option maxRecDepth 20000 in
theorem ggX3_digest_X3_digestOf : GoodIn wsX3_digest wsX3_digestOf := goodIn_r _ [17, 18, 19] (by decide +kernel) (by decide +kernel)
set_option maxRecDepth 20000 in
theorem gX3_digest_X3_digestOf : GoodIn wsX3_digest (va_wsS RX3 122 yX3_digestOf wsX3_digestOf) := goodIn_app (goodIn_of _ (by decide +kernel)) ggX3_digest_X3_digestOf
theorem dX3_digest_0 : decode cX3_digest 0 = .ok (.aload_n 0, 1) := by decide +kernel
theorem dX3_digest_1 : decode cX3_digest 1 = .ok (.iload_n 1, 1) := by decide +kernel
theorem dX3_digest_2 : decode cX3_digest 2 = .ok (.invokevirtual 63, 3) := by decide +kernel
theorem dX3_digest_5 : decode cX3_digest 5 = .ok (.ifCond .ne 7, 3) := by decide +kernel
theorem dX3_digest_8 : decode cX3_digest 8 = .ok (.ldc2_w 131, 3) := by decide +kernel
theorem dX3_digest_11 : decode cX3_digest 11 = .ok (.lreturn, 1) := by decide +kernel
theorem dX3_digest_12 : decode cX3_digest 12 = .ok (.aload_n 0, 1) := by decide +kernel
theorem dX3_digest_13 : decode cX3_digest 13 = .ok (.getfield 36, 3) := by decide +kernel
theorem dX3_digest_16 : decode cX3_digest 16 = .ok (.iload_n 1, 1) := by decide +kernel
theorem dX3_digest_17 : decode cX3_digest 17 = .ok (.iaload, 1) := by decide +kernel
theorem dX3_digest_18 : decode cX3_digest 18 = .ok (.istore 4, 2) := by decide +kernel
theorem dX3_digest_20 : decode cX3_digest 20 = .ok (.iload 4, 2) := by decide +kernel
theorem dX3_digest_22 : decode cX3_digest 22 = .ok (.ifCond .eq 14, 3) := by decide +kernel
theorem dX3_digest_25 : decode cX3_digest 25 = .ok (.iload 4, 2) := by decide +kernel
theorem dX3_digest_27 : decode cX3_digest 27 = .ok (.aload_n 0, 1) := by decide +kernel
theorem dX3_digest_28 : decode cX3_digest 28 = .ok (.getfield 32, 3) := by decide +kernel
theorem dX3_digest_31 : decode cX3_digest 31 = .ok (.iload_n 1, 1) := by decide +kernel
theorem dX3_digest_32 : decode cX3_digest 32 = .ok (.iaload, 1) := by decide +kernel
theorem dX3_digest_33 : decode cX3_digest 33 = .ok (.if_icmp .le 7, 3) := by decide +kernel
theorem dX3_digest_36 : decode cX3_digest 36 = .ok (.ldc2_w 133, 3) := by decide +kernel
theorem dX3_digest_39 : decode cX3_digest 39 = .ok (.lreturn, 1) := by decide +kernel
theorem dX3_digest_40 : decode cX3_digest 40 = .ok (.iload_n 1, 1) := by decide +kernel
theorem dX3_digest_41 : decode cX3_digest 41 = .ok (.iload 4, 2) := by decide +kernel
theorem dX3_digest_43 : decode cX3_digest 43 = .ok (.invokestatic 110, 3) := by decide +kernel
theorem dX3_digest_46 : decode cX3_digest 46 = .ok (.invokestatic 122, 3) := by decide +kernel
theorem dX3_digest_49 : decode cX3_digest 49 = .ok (.lstore 5, 2) := by decide +kernel
theorem dX3_digest_51 : decode cX3_digest 51 = .ok (.lload_n 2, 1) := by decide +kernel
theorem dX3_digest_52 : decode cX3_digest 52 = .ok (.lload 5, 2) := by decide +kernel
theorem dX3_digest_54 : decode cX3_digest 54 = .ok (.lcmp, 1) := by decide +kernel
theorem dX3_digest_55 : decode cX3_digest 55 = .ok (.ifCond .ne 21, 3) := by decide +kernel
theorem dX3_digest_58 : decode cX3_digest 58 = .ok (.aload_n 0, 1) := by decide +kernel
theorem dX3_digest_59 : decode cX3_digest 59 = .ok (.getfield 42, 3) := by decide +kernel
theorem dX3_digest_62 : decode cX3_digest 62 = .ok (.iload_n 1, 1) := by decide +kernel
theorem dX3_digest_63 : decode cX3_digest 63 = .ok (.dup2, 1) := by decide +kernel
theorem dX3_digest_64 : decode cX3_digest 64 = .ok (.iaload, 1) := by decide +kernel
theorem dX3_digest_65 : decode cX3_digest 65 = .ok (.iconst 1, 1) := by decide +kernel
theorem dX3_digest_66 : decode cX3_digest 66 = .ok (.iload 4, 2) := by decide +kernel
theorem dX3_digest_68 : decode cX3_digest 68 = .ok (.ishl, 1) := by decide +kernel
theorem dX3_digest_69 : decode cX3_digest 69 = .ok (.iconst (-1), 1) := by decide +kernel
theorem dX3_digest_70 : decode cX3_digest 70 = .ok (.ixor, 1) := by decide +kernel
theorem dX3_digest_71 : decode cX3_digest 71 = .ok (.iand, 1) := by decide +kernel
theorem dX3_digest_72 : decode cX3_digest 72 = .ok (.iastore, 1) := by decide +kernel
theorem dX3_digest_73 : decode cX3_digest 73 = .ok (.goto 16, 3) := by decide +kernel
theorem dX3_digest_76 : decode cX3_digest 76 = .ok (.aload_n 0, 1) := by decide +kernel
theorem dX3_digest_77 : decode cX3_digest 77 = .ok (.getfield 42, 3) := by decide +kernel
theorem dX3_digest_80 : decode cX3_digest 80 = .ok (.iload_n 1, 1) := by decide +kernel
theorem dX3_digest_81 : decode cX3_digest 81 = .ok (.dup2, 1) := by decide +kernel
theorem dX3_digest_82 : decode cX3_digest 82 = .ok (.iaload, 1) := by decide +kernel
theorem dX3_digest_83 : decode cX3_digest 83 = .ok (.iconst 1, 1) := by decide +kernel
theorem dX3_digest_84 : decode cX3_digest 84 = .ok (.iload 4, 2) := by decide +kernel
theorem dX3_digest_86 : decode cX3_digest 86 = .ok (.ishl, 1) := by decide +kernel
theorem dX3_digest_87 : decode cX3_digest 87 = .ok (.ior, 1) := by decide +kernel
theorem dX3_digest_88 : decode cX3_digest 88 = .ok (.iastore, 1) := by decide +kernel
theorem dX3_digest_89 : decode cX3_digest 89 = .ok (.lload 5, 2) := by decide +kernel
theorem dX3_digest_91 : decode cX3_digest 91 = .ok (.lreturn, 1) := by decide +kernel
set_option maxRecDepth 20000 in
theorem ggX3_merge_X2_findBest : GoodIn wsX3_merge wsX2_findBest := goodIn_ca (goodIn_r _ [14, 15, 16, 17, 18, 12, 19, 20, 21, 22, 23, 24, 25, 26, 27, 28, 29, 30, 31, 32, 33, 34, 35, 36, 37, 38, 39, 40, 41, 42, 43, 44, 45, 46, 47, 48, 49, 50, 51, 52, 53, 54, 55, 56, 57, 83, 84, 85, 86, 87, 88, 89, 90, 91, 92, 93] (by decide +kernel) (by decide +kernel)) (goodIn_sub (fun _ h => List.mem_cons_of_mem _ (List.mem_append_right _ h)) (by decide +kernel))
set_option maxRecDepth 20000 in
theorem gX3_merge_X2_findBest_n83 : GoodIn wsX3_merge (wsX2_findBest) := ggX3_merge_X2_findBest
set_option maxRecDepth 20000 in
theorem ggX3_merge_X0_keep : GoodIn wsX3_merge wsX0_keep := goodIn_ca (goodIn_r _ [61, 62, 63, 64, 65, 66, 12, 67, 68, 34, 43, 44, 45, 46, 47, 94, 95, 96, 97, 83, 84, 85, 86, 87, 88, 89, 90, 91] (by decide +kernel) (by decide +kernel)) (goodIn_sub (fun _ h => List.mem_cons_of_mem _ (List.mem_append_right _ h)) (by decide +kernel))
set_option maxRecDepth 20000 in
theorem gX3_merge_X0_keep_n103 : GoodIn wsX3_merge (wsX0_keep) := ggX3_merge_X0_keep
set_option maxRecDepth 20000 in
theorem ggX3_merge_X3_lockToFound : GoodIn wsX3_merge wsX3_lockToFound := goodIn_ca (goodIn_r _ [72, 1, 10, 3, 9, 73, 74, 75, 76, 77, 78, 79, 80, 81, 82, 94, 95, 96, 97] (by decide +kernel) (by decide +kernel)) (goodIn_sub (fun _ h => List.mem_cons_of_mem _ (List.mem_append_right _ h)) (by decide +kernel))
set_option maxRecDepth 20000 in
theorem gX3_merge_X3_lockToFound : GoodIn wsX3_merge (wsV RX3 138 RX3 yX3_lockToFound wsX3_lockToFound) := goodIn_app (goodIn_of _ (by decide +kernel)) ggX3_merge_X3_lockToFound
theorem dX3_merge_0 : decode cX3_merge 0 = .ok (.iload_n 1, 1) := by decide +kernel
theorem dX3_merge_1 : decode cX3_merge 1 = .ok (.ifCond .lt 14, 3) := by decide +kernel
theorem dX3_merge_4 : decode cX3_merge 4 = .ok (.iload_n 1, 1) := by decide +kernel
theorem dX3_merge_5 : decode cX3_merge 5 = .ok (.iconst 3, 1) := by decide +kernel
theorem dX3_merge_6 : decode cX3_merge 6 = .ok (.aload_n 0, 1) := by decide +kernel
theorem dX3_merge_7 : decode cX3_merge 7 = .ok (.getfield 48, 3) := by decide +kernel
theorem dX3_merge_10 : decode cX3_merge 10 = .ok (.imul, 1) := by decide +kernel
theorem dX3_merge_11 : decode cX3_merge 11 = .ok (.ishr, 1) := by decide +kernel
theorem dX3_merge_12 : decode cX3_merge 12 = .ok (.ifCond .eq 6, 3) := by decide +kernel
theorem dX3_merge_15 : decode cX3_merge 15 = .ok (.bipush (-2), 2) := by decide +kernel
theorem dX3_merge_17 : decode cX3_merge 17 = .ok (.ireturn, 1) := by decide +kernel
theorem dX3_merge_18 : decode cX3_merge 18 = .ok (.iconst 0, 1) := by decide +kernel
theorem dX3_merge_19 : decode cX3_merge 19 = .ok (.istore_n 2, 1) := by decide +kernel
theorem dX3_merge_20 : decode cX3_merge 20 = .ok (.iload_n 2, 1) := by decide +kernel
theorem dX3_merge_21 : decode cX3_merge 21 = .ok (.aload_n 0, 1) := by decide +kernel
theorem dX3_merge_22 : decode cX3_merge 22 = .ok (.getfield 48, 3) := by decide +kernel
theorem dX3_merge_25 : decode cX3_merge 25 = .ok (.if_icmp .ge 32, 3) := by decide +kernel
theorem dX3_merge_28 : decode cX3_merge 28 = .ok (.aload_n 0, 1) := by decide +kernel
theorem dX3_merge_29 : decode cX3_merge 29 = .ok (.getfield 39, 3) := by decide +kernel
theorem dX3_merge_32 : decode cX3_merge 32 = .ok (.iload_n 2, 1) := by decide +kernel
theorem dX3_merge_33 : decode cX3_merge 33 = .ok (.aload_n 0, 1) := by decide +kernel
theorem dX3_merge_34 : decode cX3_merge 34 = .ok (.getfield 36, 3) := by decide +kernel
theorem dX3_merge_37 : decode cX3_merge 37 = .ok (.iload_n 2, 1) := by decide +kernel
theorem dX3_merge_38 : decode cX3_merge 38 = .ok (.iaload, 1) := by decide +kernel
theorem dX3_merge_39 : decode cX3_merge 39 = .ok (.iload_n 1, 1) := by decide +kernel
theorem dX3_merge_40 : decode cX3_merge 40 = .ok (.iconst 3, 1) := by decide +kernel
theorem dX3_merge_41 : decode cX3_merge 41 = .ok (.iload_n 2, 1) := by decide +kernel
theorem dX3_merge_42 : decode cX3_merge 42 = .ok (.imul, 1) := by decide +kernel
theorem dX3_merge_43 : decode cX3_merge 43 = .ok (.ishr, 1) := by decide +kernel
theorem dX3_merge_44 : decode cX3_merge 44 = .ok (.bipush 7, 2) := by decide +kernel
theorem dX3_merge_46 : decode cX3_merge 46 = .ok (.iand, 1) := by decide +kernel
theorem dX3_merge_47 : decode cX3_merge 47 = .ok (.invokestatic 135, 3) := by decide +kernel
theorem dX3_merge_50 : decode cX3_merge 50 = .ok (.iastore, 1) := by decide +kernel
theorem dX3_merge_51 : decode cX3_merge 51 = .ok (.iinc 2 1, 3) := by decide +kernel
theorem dX3_merge_54 : decode cX3_merge 54 = .ok (.goto (-34), 3) := by decide +kernel
theorem dX3_merge_57 : decode cX3_merge 57 = .ok (.aload_n 0, 1) := by decide +kernel
theorem dX3_merge_58 : decode cX3_merge 58 = .ok (.getfield 21, 3) := by decide +kernel
theorem dX3_merge_61 : decode cX3_merge 61 = .ok (.aload_n 0, 1) := by decide +kernel
theorem dX3_merge_62 : decode cX3_merge 62 = .ok (.getfield 48, 3) := by decide +kernel
theorem dX3_merge_65 : decode cX3_merge 65 = .ok (.aload_n 0, 1) := by decide +kernel
theorem dX3_merge_66 : decode cX3_merge 66 = .ok (.getfield 39, 3) := by decide +kernel
theorem dX3_merge_69 : decode cX3_merge 69 = .ok (.aload_n 0, 1) := by decide +kernel
theorem dX3_merge_70 : decode cX3_merge 70 = .ok (.getfield 42, 3) := by decide +kernel
theorem dX3_merge_73 : decode cX3_merge 73 = .ok (.invokevirtual 83, 3) := by decide +kernel
theorem dX3_merge_76 : decode cX3_merge 76 = .ok (.ifCond .ne 5, 3) := by decide +kernel
theorem dX3_merge_79 : decode cX3_merge 79 = .ok (.iconst 0, 1) := by decide +kernel
theorem dX3_merge_80 : decode cX3_merge 80 = .ok (.ireturn, 1) := by decide +kernel
theorem dX3_merge_81 : decode cX3_merge 81 = .ok (.aload_n 0, 1) := by decide +kernel
theorem dX3_merge_82 : decode cX3_merge 82 = .ok (.getfield 28, 3) := by decide +kernel
theorem dX3_merge_85 : decode cX3_merge 85 = .ok (.aload_n 0, 1) := by decide +kernel
theorem dX3_merge_86 : decode cX3_merge 86 = .ok (.getfield 21, 3) := by decide +kernel
theorem dX3_merge_89 : decode cX3_merge 89 = .ok (.aload_n 0, 1) := by decide +kernel
theorem dX3_merge_90 : decode cX3_merge 90 = .ok (.getfield 48, 3) := by decide +kernel
theorem dX3_merge_93 : decode cX3_merge 93 = .ok (.aload_n 0, 1) := by decide +kernel
theorem dX3_merge_94 : decode cX3_merge 94 = .ok (.getfield 39, 3) := by decide +kernel
theorem dX3_merge_97 : decode cX3_merge 97 = .ok (.invokevirtual 103, 3) := by decide +kernel
theorem dX3_merge_100 : decode cX3_merge 100 = .ok (.aload_n 0, 1) := by decide +kernel
theorem dX3_merge_101 : decode cX3_merge 101 = .ok (.invokevirtual 138, 3) := by decide +kernel
theorem dX3_merge_104 : decode cX3_merge 104 = .ok (.iconst 1, 1) := by decide +kernel
theorem dX3_merge_105 : decode cX3_merge 105 = .ok (.ireturn, 1) := by decide +kernel
theorem dX3_row_0 : decode cX3_row 0 = .ok (.iload_n 1, 1) := by decide +kernel
theorem dX3_row_1 : decode cX3_row 1 = .ok (.ifCond .lt 11, 3) := by decide +kernel
theorem dX3_row_4 : decode cX3_row 4 = .ok (.iload_n 1, 1) := by decide +kernel
theorem dX3_row_5 : decode cX3_row 5 = .ok (.aload_n 0, 1) := by decide +kernel
theorem dX3_row_6 : decode cX3_row 6 = .ok (.getfield 52, 3) := by decide +kernel
theorem dX3_row_9 : decode cX3_row 9 = .ok (.if_icmp .lt 13, 3) := by decide +kernel
theorem dX3_row_12 : decode cX3_row 12 = .ok (.new 141, 3) := by decide +kernel
theorem dX3_row_15 : decode cX3_row 15 = .ok (.dup, 1) := by decide +kernel
theorem dX3_row_16 : decode cX3_row 16 = .ok (.ldc 143, 2) := by decide +kernel
theorem dX3_row_18 : decode cX3_row 18 = .ok (.invokespecial 145, 3) := by decide +kernel
theorem dX3_row_21 : decode cX3_row 21 = .ok (.athrow, 1) := by decide +kernel
theorem dX3_row_22 : decode cX3_row 22 = .ok (.aload_n 0, 1) := by decide +kernel
theorem dX3_row_23 : decode cX3_row 23 = .ok (.getfield 45, 3) := by decide +kernel
theorem dX3_row_26 : decode cX3_row 26 = .ok (.iload_n 1, 1) := by decide +kernel
theorem dX3_row_27 : decode cX3_row 27 = .ok (.iaload, 1) := by decide +kernel
theorem dX3_row_28 : decode cX3_row 28 = .ok (.ireturn, 1) := by decide +kernel
theorem dX3_isName_0 : decode cX3_isName 0 = .ok (.iload_n 1, 1) := by decide +kernel
theorem dX3_isName_1 : decode cX3_isName 1 = .ok (.ifCond .lt 15, 3) := by decide +kernel
theorem dX3_isName_4 : decode cX3_isName 4 = .ok (.iload_n 1, 1) := by decide +kernel
theorem dX3_isName_5 : decode cX3_isName 5 = .ok (.aload_n 0, 1) := by decide +kernel
theorem dX3_isName_6 : decode cX3_isName 6 = .ok (.getfield 48, 3) := by decide +kernel
theorem dX3_isName_9 : decode cX3_isName 9 = .ok (.if_icmp .ge 7, 3) := by decide +kernel
theorem dX3_isName_12 : decode cX3_isName 12 = .ok (.iconst 1, 1) := by decide +kernel
theorem dX3_isName_13 : decode cX3_isName 13 = .ok (.goto 4, 3) := by decide +kernel
theorem dX3_isName_16 : decode cX3_isName 16 = .ok (.iconst 0, 1) := by decide +kernel
theorem dX3_isName_17 : decode cX3_isName 17 = .ok (.ireturn, 1) := by decide +kernel
set_option maxRecDepth 20000 in
theorem ggX3_addSetRow_X3_isName : GoodIn wsX3_addSetRow wsX3_isName := goodIn_r _ [7, 8, 19, 20, 21, 22, 23, 24, 25, 26, 27, 28] (by decide +kernel) (by decide +kernel)
set_option maxRecDepth 20000 in
theorem gX3_addSetRow_X3_isName : GoodIn wsX3_addSetRow (wsV RX3 63 RX3 yX3_isName wsX3_isName) := goodIn_app (goodIn_of _ (by decide +kernel)) ggX3_addSetRow_X3_isName
set_option maxRecDepth 20000 in
theorem ggX3_addSetRow_X1_narrow : GoodIn wsX3_addSetRow wsX1_narrow := goodIn_ca (goodIn_r _ [12, 13, 29, 30] (by decide +kernel) (by decide +kernel)) (goodIn_sub (fun _ h => List.mem_cons_of_mem _ (List.mem_append_right _ h)) (by decide +kernel))
set_option maxRecDepth 20000 in
theorem gX3_addSetRow_X1_narrow_n148 : GoodIn wsX3_addSetRow (wsX1_narrow) := ggX3_addSetRow_X1_narrow
set_option maxRecDepth 20000 in
theorem ggX3_addSetRow_X3_addRow : GoodIn wsX3_addSetRow wsX3_addRow := goodIn_ca (goodIn_r _ [17, 1, 18, 19, 20, 21, 22, 23, 24, 25, 26, 27, 28] (by decide +kernel) (by decide +kernel)) (goodIn_sub (fun _ h => List.mem_cons_of_mem _ (List.mem_append_right _ h)) (by decide +kernel))
set_option maxRecDepth 20000 in
theorem gX3_addSetRow_X3_addRow : GoodIn wsX3_addSetRow (wsV RX3 75 RX3 yX3_addRow wsX3_addRow) := goodIn_app (goodIn_of _ (by decide +kernel)) ggX3_addSetRow_X3_addRow
theorem dX3_addSetRow_0 : decode cX3_addSetRow 0 = .ok (.aload_n 0, 1) := by decide +kernel
theorem dX3_addSetRow_1 : decode cX3_addSetRow 1 = .ok (.iload_n 2, 1) := by decide +kernel
theorem dX3_addSetRow_2 : decode cX3_addSetRow 2 = .ok (.invokevirtual 63, 3) := by decide +kernel
theorem dX3_addSetRow_5 : decode cX3_addSetRow 5 = .ok (.ifCond .ne 5, 3) := by decide +kernel
theorem dX3_addSetRow_8 : decode cX3_addSetRow 8 = .ok (.iconst (-1), 1) := by decide +kernel
theorem dX3_addSetRow_9 : decode cX3_addSetRow 9 = .ok (.ireturn, 1) := by decide +kernel
theorem dX3_addSetRow_10 : decode cX3_addSetRow 10 = .ok (.aload_n 0, 1) := by decide +kernel
theorem dX3_addSetRow_11 : decode cX3_addSetRow 11 = .ok (.getfield 52, 3) := by decide +kernel
theorem dX3_addSetRow_14 : decode cX3_addSetRow 14 = .ok (.bipush 60, 2) := by decide +kernel
theorem dX3_addSetRow_16 : decode cX3_addSetRow 16 = .ok (.if_icmp .lt 6, 3) := by decide +kernel
theorem dX3_addSetRow_19 : decode cX3_addSetRow 19 = .ok (.bipush (-4), 2) := by decide +kernel
theorem dX3_addSetRow_21 : decode cX3_addSetRow 21 = .ok (.ireturn, 1) := by decide +kernel
theorem dX3_addSetRow_22 : decode cX3_addSetRow 22 = .ok (.aload_n 0, 1) := by decide +kernel
theorem dX3_addSetRow_23 : decode cX3_addSetRow 23 = .ok (.getfield 12, 3) := by decide +kernel
theorem dX3_addSetRow_26 : decode cX3_addSetRow 26 = .ok (.iload_n 2, 1) := by decide +kernel
theorem dX3_addSetRow_27 : decode cX3_addSetRow 27 = .ok (.iload_n 3, 1) := by decide +kernel
theorem dX3_addSetRow_28 : decode cX3_addSetRow 28 = .ok (.invokevirtual 148, 3) := by decide +kernel
theorem dX3_addSetRow_31 : decode cX3_addSetRow 31 = .ok (.aload_n 0, 1) := by decide +kernel
theorem dX3_addSetRow_32 : decode cX3_addSetRow 32 = .ok (.iload_n 1, 1) := by decide +kernel
theorem dX3_addSetRow_33 : decode cX3_addSetRow 33 = .ok (.iload_n 2, 1) := by decide +kernel
theorem dX3_addSetRow_34 : decode cX3_addSetRow 34 = .ok (.iconst 0, 1) := by decide +kernel
theorem dX3_addSetRow_35 : decode cX3_addSetRow 35 = .ok (.iconst 0, 1) := by decide +kernel
theorem dX3_addSetRow_36 : decode cX3_addSetRow 36 = .ok (.invokevirtual 75, 3) := by decide +kernel
theorem dX3_addSetRow_39 : decode cX3_addSetRow 39 = .ok (.ireturn, 1) := by decide +kernel
theorem dX3_addRow_0 : decode cX3_addRow 0 = .ok (.aload_n 0, 1) := by decide +kernel
theorem dX3_addRow_1 : decode cX3_addRow 1 = .ok (.getfield 52, 3) := by decide +kernel
theorem dX3_addRow_4 : decode cX3_addRow 4 = .ok (.istore 5, 2) := by decide +kernel
theorem dX3_addRow_6 : decode cX3_addRow 6 = .ok (.aload_n 0, 1) := by decide +kernel
theorem dX3_addRow_7 : decode cX3_addRow 7 = .ok (.getfield 45, 3) := by decide +kernel
theorem dX3_addRow_10 : decode cX3_addRow 10 = .ok (.iload 5, 2) := by decide +kernel
theorem dX3_addRow_12 : decode cX3_addRow 12 = .ok (.iload_n 1, 1) := by decide +kernel
theorem dX3_addRow_13 : decode cX3_addRow 13 = .ok (.bipush 8, 2) := by decide +kernel
theorem dX3_addRow_15 : decode cX3_addRow 15 = .ok (.imul, 1) := by decide +kernel
theorem dX3_addRow_16 : decode cX3_addRow 16 = .ok (.iload_n 2, 1) := by decide +kernel
theorem dX3_addRow_17 : decode cX3_addRow 17 = .ok (.iadd, 1) := by decide +kernel
theorem dX3_addRow_18 : decode cX3_addRow 18 = .ok (.bipush 8, 2) := by decide +kernel
theorem dX3_addRow_20 : decode cX3_addRow 20 = .ok (.imul, 1) := by decide +kernel
theorem dX3_addRow_21 : decode cX3_addRow 21 = .ok (.iload_n 3, 1) := by decide +kernel
theorem dX3_addRow_22 : decode cX3_addRow 22 = .ok (.iadd, 1) := by decide +kernel
theorem dX3_addRow_23 : decode cX3_addRow 23 = .ok (.bipush 8, 2) := by decide +kernel
theorem dX3_addRow_25 : decode cX3_addRow 25 = .ok (.imul, 1) := by decide +kernel
theorem dX3_addRow_26 : decode cX3_addRow 26 = .ok (.iload 4, 2) := by decide +kernel
theorem dX3_addRow_28 : decode cX3_addRow 28 = .ok (.iadd, 1) := by decide +kernel
theorem dX3_addRow_29 : decode cX3_addRow 29 = .ok (.iastore, 1) := by decide +kernel
theorem dX3_addRow_30 : decode cX3_addRow 30 = .ok (.aload_n 0, 1) := by decide +kernel
theorem dX3_addRow_31 : decode cX3_addRow 31 = .ok (.dup, 1) := by decide +kernel
theorem dX3_addRow_32 : decode cX3_addRow 32 = .ok (.getfield 52, 3) := by decide +kernel
theorem dX3_addRow_35 : decode cX3_addRow 35 = .ok (.iconst 1, 1) := by decide +kernel
theorem dX3_addRow_36 : decode cX3_addRow 36 = .ok (.iadd, 1) := by decide +kernel
theorem dX3_addRow_37 : decode cX3_addRow 37 = .ok (.putfield 52, 3) := by decide +kernel
theorem dX3_addRow_40 : decode cX3_addRow 40 = .ok (.iload 5, 2) := by decide +kernel
theorem dX3_addRow_42 : decode cX3_addRow 42 = .ok (.ireturn, 1) := by decide +kernel
theorem dX3_lockToFound_0 : decode cX3_lockToFound 0 = .ok (.iconst 0, 1) := by decide +kernel
theorem dX3_lockToFound_1 : decode cX3_lockToFound 1 = .ok (.istore_n 1, 1) := by decide +kernel
theorem dX3_lockToFound_2 : decode cX3_lockToFound 2 = .ok (.iload_n 1, 1) := by decide +kernel
theorem dX3_lockToFound_3 : decode cX3_lockToFound 3 = .ok (.aload_n 0, 1) := by decide +kernel
theorem dX3_lockToFound_4 : decode cX3_lockToFound 4 = .ok (.getfield 48, 3) := by decide +kernel
theorem dX3_lockToFound_7 : decode cX3_lockToFound 7 = .ok (.if_icmp .ge 49, 3) := by decide +kernel
theorem dX3_lockToFound_10 : decode cX3_lockToFound 10 = .ok (.aload_n 0, 1) := by decide +kernel
theorem dX3_lockToFound_11 : decode cX3_lockToFound 11 = .ok (.getfield 28, 3) := by decide +kernel
theorem dX3_lockToFound_14 : decode cX3_lockToFound 14 = .ok (.getfield 107, 3) := by decide +kernel
theorem dX3_lockToFound_17 : decode cX3_lockToFound 17 = .ok (.iload_n 1, 1) := by decide +kernel
theorem dX3_lockToFound_18 : decode cX3_lockToFound 18 = .ok (.iaload, 1) := by decide +kernel
theorem dX3_lockToFound_19 : decode cX3_lockToFound 19 = .ok (.aload_n 0, 1) := by decide +kernel
theorem dX3_lockToFound_20 : decode cX3_lockToFound 20 = .ok (.getfield 36, 3) := by decide +kernel
theorem dX3_lockToFound_23 : decode cX3_lockToFound 23 = .ok (.iload_n 1, 1) := by decide +kernel
theorem dX3_lockToFound_24 : decode cX3_lockToFound 24 = .ok (.iaload, 1) := by decide +kernel
theorem dX3_lockToFound_25 : decode cX3_lockToFound 25 = .ok (.if_icmp .eq 25, 3) := by decide +kernel
theorem dX3_lockToFound_28 : decode cX3_lockToFound 28 = .ok (.aload_n 0, 1) := by decide +kernel
theorem dX3_lockToFound_29 : decode cX3_lockToFound 29 = .ok (.getfield 36, 3) := by decide +kernel
theorem dX3_lockToFound_32 : decode cX3_lockToFound 32 = .ok (.iload_n 1, 1) := by decide +kernel
theorem dX3_lockToFound_33 : decode cX3_lockToFound 33 = .ok (.aload_n 0, 1) := by decide +kernel
theorem dX3_lockToFound_34 : decode cX3_lockToFound 34 = .ok (.getfield 28, 3) := by decide +kernel
theorem dX3_lockToFound_37 : decode cX3_lockToFound 37 = .ok (.getfield 107, 3) := by decide +kernel
theorem dX3_lockToFound_40 : decode cX3_lockToFound 40 = .ok (.iload_n 1, 1) := by decide +kernel
theorem dX3_lockToFound_41 : decode cX3_lockToFound 41 = .ok (.iaload, 1) := by decide +kernel
theorem dX3_lockToFound_42 : decode cX3_lockToFound 42 = .ok (.iastore, 1) := by decide +kernel
theorem dX3_lockToFound_43 : decode cX3_lockToFound 43 = .ok (.aload_n 0, 1) := by decide +kernel
theorem dX3_lockToFound_44 : decode cX3_lockToFound 44 = .ok (.getfield 42, 3) := by decide +kernel
theorem dX3_lockToFound_47 : decode cX3_lockToFound 47 = .ok (.iload_n 1, 1) := by decide +kernel
theorem dX3_lockToFound_48 : decode cX3_lockToFound 48 = .ok (.iconst 0, 1) := by decide +kernel
theorem dX3_lockToFound_49 : decode cX3_lockToFound 49 = .ok (.iastore, 1) := by decide +kernel
theorem dX3_lockToFound_50 : decode cX3_lockToFound 50 = .ok (.iinc 1 1, 3) := by decide +kernel
theorem dX3_lockToFound_53 : decode cX3_lockToFound 53 = .ok (.goto (-51), 3) := by decide +kernel
theorem dX3_lockToFound_56 : decode cX3_lockToFound 56 = .ok (.return_, 1) := by decide +kernel
theorem dX3_waysToTry_0 : decode cX3_waysToTry 0 = .ok (.iconst 1, 1) := by decide +kernel
theorem dX3_waysToTry_1 : decode cX3_waysToTry 1 = .ok (.istore_n 2, 1) := by decide +kernel
theorem dX3_waysToTry_2 : decode cX3_waysToTry 2 = .ok (.iconst 1, 1) := by decide +kernel
theorem dX3_waysToTry_3 : decode cX3_waysToTry 3 = .ok (.istore_n 3, 1) := by decide +kernel
theorem dX3_waysToTry_4 : decode cX3_waysToTry 4 = .ok (.iconst 1, 1) := by decide +kernel
theorem dX3_waysToTry_5 : decode cX3_waysToTry 5 = .ok (.istore 4, 2) := by decide +kernel
theorem dX3_waysToTry_7 : decode cX3_waysToTry 7 = .ok (.iload 4, 2) := by decide +kernel
theorem dX3_waysToTry_9 : decode cX3_waysToTry 9 = .ok (.iload_n 1, 1) := by decide +kernel
theorem dX3_waysToTry_10 : decode cX3_waysToTry 10 = .ok (.if_icmp .gt 28, 3) := by decide +kernel
theorem dX3_waysToTry_13 : decode cX3_waysToTry 13 = .ok (.iload_n 3, 1) := by decide +kernel
theorem dX3_waysToTry_14 : decode cX3_waysToTry 14 = .ok (.aload_n 0, 1) := by decide +kernel
theorem dX3_waysToTry_15 : decode cX3_waysToTry 15 = .ok (.getfield 48, 3) := by decide +kernel
theorem dX3_waysToTry_18 : decode cX3_waysToTry 18 = .ok (.iload 4, 2) := by decide +kernel
theorem dX3_waysToTry_20 : decode cX3_waysToTry 20 = .ok (.isub, 1) := by decide +kernel
theorem dX3_waysToTry_21 : decode cX3_waysToTry 21 = .ok (.iconst 1, 1) := by decide +kernel
theorem dX3_waysToTry_22 : decode cX3_waysToTry 22 = .ok (.iadd, 1) := by decide +kernel
theorem dX3_waysToTry_23 : decode cX3_waysToTry 23 = .ok (.imul, 1) := by decide +kernel
theorem dX3_waysToTry_24 : decode cX3_waysToTry 24 = .ok (.iload 4, 2) := by decide +kernel
theorem dX3_waysToTry_26 : decode cX3_waysToTry 26 = .ok (.idiv, 1) := by decide +kernel
theorem dX3_waysToTry_27 : decode cX3_waysToTry 27 = .ok (.istore_n 3, 1) := by decide +kernel
theorem dX3_waysToTry_28 : decode cX3_waysToTry 28 = .ok (.iload_n 2, 1) := by decide +kernel
theorem dX3_waysToTry_29 : decode cX3_waysToTry 29 = .ok (.iload_n 3, 1) := by decide +kernel
theorem dX3_waysToTry_30 : decode cX3_waysToTry 30 = .ok (.iadd, 1) := by decide +kernel
theorem dX3_waysToTry_31 : decode cX3_waysToTry 31 = .ok (.istore_n 2, 1) := by decide +kernel
theorem dX3_waysToTry_32 : decode cX3_waysToTry 32 = .ok (.iinc 4 1, 3) := by decide +kernel
theorem dX3_waysToTry_35 : decode cX3_waysToTry 35 = .ok (.goto (-28), 3) := by decide +kernel
theorem dX3_waysToTry_38 : decode cX3_waysToTry 38 = .ok (.iload_n 2, 1) := by decide +kernel
theorem dX3_waysToTry_39 : decode cX3_waysToTry 39 = .ok (.ireturn, 1) := by decide +kernel
theorem dX3_codeOf_0 : decode cX3_codeOf 0 = .ok (.iload_n 0, 1) := by decide +kernel
theorem dX3_codeOf_1 : decode cX3_codeOf 1 = .ok (.iconst 1, 1) := by decide +kernel
theorem dX3_codeOf_2 : decode cX3_codeOf 2 = .ok (.iadd, 1) := by decide +kernel
theorem dX3_codeOf_3 : decode cX3_codeOf 3 = .ok (.ireturn, 1) := by decide +kernel
theorem dX3_versionOf_0 : decode cX3_versionOf 0 = .ok (.iload_n 0, 1) := by decide +kernel
theorem dX3_versionOf_1 : decode cX3_versionOf 1 = .ok (.iconst 1, 1) := by decide +kernel
theorem dX3_versionOf_2 : decode cX3_versionOf 2 = .ok (.isub, 1) := by decide +kernel
theorem dX3_versionOf_3 : decode cX3_versionOf 3 = .ok (.ireturn, 1) := by decide +kernel
theorem dX3_codesOf_0 : decode cX3_codesOf 0 = .ok (.lload_n 0, 1) := by decide +kernel
theorem dX3_codesOf_1 : decode cX3_codesOf 1 = .ok (.iconst 1, 1) := by decide +kernel
theorem dX3_codesOf_2 : decode cX3_codesOf 2 = .ok (.lshl, 1) := by decide +kernel
theorem dX3_codesOf_3 : decode cX3_codesOf 3 = .ok (.l2i, 1) := by decide +kernel
theorem dX3_codesOf_4 : decode cX3_codesOf 4 = .ok (.bipush 127, 2) := by decide +kernel
theorem dX3_codesOf_6 : decode cX3_codesOf 6 = .ok (.iand, 1) := by decide +kernel
theorem dX3_codesOf_7 : decode cX3_codesOf 7 = .ok (.bipush (-2), 2) := by decide +kernel
theorem dX3_codesOf_9 : decode cX3_codesOf 9 = .ok (.iand, 1) := by decide +kernel
theorem dX3_codesOf_10 : decode cX3_codesOf 10 = .ok (.ireturn, 1) := by decide +kernel
theorem dX3_digestOf_0 : decode cX3_digestOf 0 = .ok (.iload_n 0, 1) := by decide +kernel
theorem dX3_digestOf_1 : decode cX3_digestOf 1 = .ok (.iconst 1, 1) := by decide +kernel
theorem dX3_digestOf_2 : decode cX3_digestOf 2 = .ok (.iadd, 1) := by decide +kernel
theorem dX3_digestOf_3 : decode cX3_digestOf 3 = .ok (.i2l, 1) := by decide +kernel
theorem dX3_digestOf_4 : decode cX3_digestOf 4 = .ok (.ldc2_w 151, 3) := by decide +kernel
theorem dX3_digestOf_7 : decode cX3_digestOf 7 = .ok (.lmul, 1) := by decide +kernel
theorem dX3_digestOf_8 : decode cX3_digestOf 8 = .ok (.iload_n 1, 1) := by decide +kernel
theorem dX3_digestOf_9 : decode cX3_digestOf 9 = .ok (.i2l, 1) := by decide +kernel
theorem dX3_digestOf_10 : decode cX3_digestOf 10 = .ok (.ladd, 1) := by decide +kernel
theorem dX3_digestOf_11 : decode cX3_digestOf 11 = .ok (.lconst 1, 1) := by decide +kernel
theorem dX3_digestOf_12 : decode cX3_digestOf 12 = .ok (.ladd, 1) := by decide +kernel
theorem dX3_digestOf_13 : decode cX3_digestOf 13 = .ok (.ldc2_w 153, 3) := by decide +kernel
theorem dX3_digestOf_16 : decode cX3_digestOf 16 = .ok (.lmul, 1) := by decide +kernel
theorem dX3_digestOf_17 : decode cX3_digestOf 17 = .ok (.lreturn, 1) := by decide +kernel
theorem dX3_ithOf_0 : decode cX3_ithOf 0 = .ok (.iconst 0, 1) := by decide +kernel
theorem dX3_ithOf_1 : decode cX3_ithOf 1 = .ok (.istore_n 2, 1) := by decide +kernel
theorem dX3_ithOf_2 : decode cX3_ithOf 2 = .ok (.iconst 0, 1) := by decide +kernel
theorem dX3_ithOf_3 : decode cX3_ithOf 3 = .ok (.istore_n 3, 1) := by decide +kernel
theorem dX3_ithOf_4 : decode cX3_ithOf 4 = .ok (.iload_n 3, 1) := by decide +kernel
theorem dX3_ithOf_5 : decode cX3_ithOf 5 = .ok (.bipush 8, 2) := by decide +kernel
theorem dX3_ithOf_7 : decode cX3_ithOf 7 = .ok (.if_icmp .ge 27, 3) := by decide +kernel
theorem dX3_ithOf_10 : decode cX3_ithOf 10 = .ok (.iload_n 0, 1) := by decide +kernel
theorem dX3_ithOf_11 : decode cX3_ithOf 11 = .ok (.iload_n 3, 1) := by decide +kernel
theorem dX3_ithOf_12 : decode cX3_ithOf 12 = .ok (.ishr, 1) := by decide +kernel
theorem dX3_ithOf_13 : decode cX3_ithOf 13 = .ok (.iconst 1, 1) := by decide +kernel
theorem dX3_ithOf_14 : decode cX3_ithOf 14 = .ok (.iand, 1) := by decide +kernel
theorem dX3_ithOf_15 : decode cX3_ithOf 15 = .ok (.ifCond .eq 13, 3) := by decide +kernel
theorem dX3_ithOf_18 : decode cX3_ithOf 18 = .ok (.iload_n 2, 1) := by decide +kernel
theorem dX3_ithOf_19 : decode cX3_ithOf 19 = .ok (.iload_n 1, 1) := by decide +kernel
theorem dX3_ithOf_20 : decode cX3_ithOf 20 = .ok (.if_icmp .ne 5, 3) := by decide +kernel
theorem dX3_ithOf_23 : decode cX3_ithOf 23 = .ok (.iload_n 3, 1) := by decide +kernel
theorem dX3_ithOf_24 : decode cX3_ithOf 24 = .ok (.ireturn, 1) := by decide +kernel
theorem dX3_ithOf_25 : decode cX3_ithOf 25 = .ok (.iinc 2 1, 3) := by decide +kernel
theorem dX3_ithOf_28 : decode cX3_ithOf 28 = .ok (.iinc 3 1, 3) := by decide +kernel
theorem dX3_ithOf_31 : decode cX3_ithOf 31 = .ok (.goto (-27), 3) := by decide +kernel
theorem dX3_ithOf_34 : decode cX3_ithOf 34 = .ok (.iconst (-1), 1) := by decide +kernel
theorem dX3_ithOf_35 : decode cX3_ithOf 35 = .ok (.ireturn, 1) := by decide +kernel
theorem dX3_isChanged_0 : decode cX3_isChanged 0 = .ok (.iload_n 0, 1) := by decide +kernel
theorem dX3_isChanged_1 : decode cX3_isChanged 1 = .ok (.iload_n 1, 1) := by decide +kernel
theorem dX3_isChanged_2 : decode cX3_isChanged 2 = .ok (.if_icmp .eq 7, 3) := by decide +kernel
theorem dX3_isChanged_5 : decode cX3_isChanged 5 = .ok (.iconst 1, 1) := by decide +kernel
theorem dX3_isChanged_6 : decode cX3_isChanged 6 = .ok (.goto 4, 3) := by decide +kernel
theorem dX3_isChanged_9 : decode cX3_isChanged 9 = .ok (.iconst 0, 1) := by decide +kernel
theorem dX3_isChanged_10 : decode cX3_isChanged 10 = .ok (.ireturn, 1) := by decide +kernel
theorem dX3_isDown_0 : decode cX3_isDown 0 = .ok (.iload_n 0, 1) := by decide +kernel
theorem dX3_isDown_1 : decode cX3_isDown 1 = .ok (.ifCond .eq 12, 3) := by decide +kernel
theorem dX3_isDown_4 : decode cX3_isDown 4 = .ok (.iload_n 0, 1) := by decide +kernel
theorem dX3_isDown_5 : decode cX3_isDown 5 = .ok (.iload_n 1, 1) := by decide +kernel
theorem dX3_isDown_6 : decode cX3_isDown 6 = .ok (.if_icmp .ge 7, 3) := by decide +kernel
theorem dX3_isDown_9 : decode cX3_isDown 9 = .ok (.iconst 1, 1) := by decide +kernel
theorem dX3_isDown_10 : decode cX3_isDown 10 = .ok (.goto 4, 3) := by decide +kernel
theorem dX3_isDown_13 : decode cX3_isDown 13 = .ok (.iconst 0, 1) := by decide +kernel
theorem dX3_isDown_14 : decode cX3_isDown 14 = .ok (.ireturn, 1) := by decide +kernel
theorem dX4_init_0 : decode cX4_init 0 = .ok (.aload_n 0, 1) := by decide +kernel
theorem dX4_init_1 : decode cX4_init 1 = .ok (.invokespecial 1, 3) := by decide +kernel
theorem dX4_init_4 : decode cX4_init 4 = .ok (.aload_n 0, 1) := by decide +kernel
theorem dX4_init_5 : decode cX4_init 5 = .ok (.bipush 8, 2) := by decide +kernel
theorem dX4_init_7 : decode cX4_init 7 = .ok (.newarray .int, 2) := by decide +kernel
theorem dX4_init_9 : decode cX4_init 9 = .ok (.putfield 7, 3) := by decide +kernel
theorem dX4_init_12 : decode cX4_init 12 = .ok (.aload_n 0, 1) := by decide +kernel
theorem dX4_init_13 : decode cX4_init 13 = .ok (.bipush 8, 2) := by decide +kernel
theorem dX4_init_15 : decode cX4_init 15 = .ok (.newarray .int, 2) := by decide +kernel
theorem dX4_init_17 : decode cX4_init 17 = .ok (.putfield 13, 3) := by decide +kernel
theorem dX4_init_20 : decode cX4_init 20 = .ok (.aload_n 0, 1) := by decide +kernel
theorem dX4_init_21 : decode cX4_init 21 = .ok (.bipush 8, 2) := by decide +kernel
theorem dX4_init_23 : decode cX4_init 23 = .ok (.newarray .int, 2) := by decide +kernel
theorem dX4_init_25 : decode cX4_init 25 = .ok (.putfield 16, 3) := by decide +kernel
theorem dX4_init_28 : decode cX4_init 28 = .ok (.aload_n 0, 1) := by decide +kernel
theorem dX4_init_29 : decode cX4_init 29 = .ok (.bipush 60, 2) := by decide +kernel
theorem dX4_init_31 : decode cX4_init 31 = .ok (.newarray .int, 2) := by decide +kernel
theorem dX4_init_33 : decode cX4_init 33 = .ok (.putfield 19, 3) := by decide +kernel
theorem dX4_init_36 : decode cX4_init 36 = .ok (.aload_n 0, 1) := by decide +kernel
theorem dX4_init_37 : decode cX4_init 37 = .ok (.bipush 60, 2) := by decide +kernel
theorem dX4_init_39 : decode cX4_init 39 = .ok (.newarray .int, 2) := by decide +kernel
theorem dX4_init_41 : decode cX4_init 41 = .ok (.putfield 22, 3) := by decide +kernel
theorem dX4_init_44 : decode cX4_init 44 = .ok (.aload_n 0, 1) := by decide +kernel
theorem dX4_init_45 : decode cX4_init 45 = .ok (.bipush 60, 2) := by decide +kernel
theorem dX4_init_47 : decode cX4_init 47 = .ok (.newarray .int, 2) := by decide +kernel
theorem dX4_init_49 : decode cX4_init 49 = .ok (.putfield 25, 3) := by decide +kernel
theorem dX4_init_52 : decode cX4_init 52 = .ok (.aload_n 0, 1) := by decide +kernel
theorem dX4_init_53 : decode cX4_init 53 = .ok (.bipush 60, 2) := by decide +kernel
theorem dX4_init_55 : decode cX4_init 55 = .ok (.newarray .int, 2) := by decide +kernel
theorem dX4_init_57 : decode cX4_init 57 = .ok (.putfield 28, 3) := by decide +kernel
theorem dX4_init_60 : decode cX4_init 60 = .ok (.aload_n 0, 1) := by decide +kernel
theorem dX4_init_61 : decode cX4_init 61 = .ok (.bipush 60, 2) := by decide +kernel
theorem dX4_init_63 : decode cX4_init 63 = .ok (.newarray .int, 2) := by decide +kernel
theorem dX4_init_65 : decode cX4_init 65 = .ok (.putfield 31, 3) := by decide +kernel
theorem dX4_init_68 : decode cX4_init 68 = .ok (.aload_n 0, 1) := by decide +kernel
theorem dX4_init_69 : decode cX4_init 69 = .ok (.bipush 8, 2) := by decide +kernel
theorem dX4_init_71 : decode cX4_init 71 = .ok (.newarray .int, 2) := by decide +kernel
theorem dX4_init_73 : decode cX4_init 73 = .ok (.putfield 34, 3) := by decide +kernel
theorem dX4_init_76 : decode cX4_init 76 = .ok (.aload_n 0, 1) := by decide +kernel
theorem dX4_init_77 : decode cX4_init 77 = .ok (.bipush 72, 2) := by decide +kernel
theorem dX4_init_79 : decode cX4_init 79 = .ok (.newarray .int, 2) := by decide +kernel
theorem dX4_init_81 : decode cX4_init 81 = .ok (.putfield 37, 3) := by decide +kernel
theorem dX4_init_84 : decode cX4_init 84 = .ok (.aload_n 0, 1) := by decide +kernel
theorem dX4_init_85 : decode cX4_init 85 = .ok (.bipush 8, 2) := by decide +kernel
theorem dX4_init_87 : decode cX4_init 87 = .ok (.newarray .int, 2) := by decide +kernel
theorem dX4_init_89 : decode cX4_init 89 = .ok (.putfield 40, 3) := by decide +kernel
theorem dX4_init_92 : decode cX4_init 92 = .ok (.aload_n 0, 1) := by decide +kernel
theorem dX4_init_93 : decode cX4_init 93 = .ok (.bipush 8, 2) := by decide +kernel
theorem dX4_init_95 : decode cX4_init 95 = .ok (.newarray .int, 2) := by decide +kernel
theorem dX4_init_97 : decode cX4_init 97 = .ok (.putfield 43, 3) := by decide +kernel
theorem dX4_init_100 : decode cX4_init 100 = .ok (.aload_n 0, 1) := by decide +kernel
theorem dX4_init_101 : decode cX4_init 101 = .ok (.bipush 8, 2) := by decide +kernel
theorem dX4_init_103 : decode cX4_init 103 = .ok (.newarray .int, 2) := by decide +kernel
theorem dX4_init_105 : decode cX4_init 105 = .ok (.putfield 46, 3) := by decide +kernel
theorem dX4_init_108 : decode cX4_init 108 = .ok (.aload_n 0, 1) := by decide +kernel
theorem dX4_init_109 : decode cX4_init 109 = .ok (.bipush 8, 2) := by decide +kernel
theorem dX4_init_111 : decode cX4_init 111 = .ok (.newarray .int, 2) := by decide +kernel
theorem dX4_init_113 : decode cX4_init 113 = .ok (.putfield 49, 3) := by decide +kernel
theorem dX4_init_116 : decode cX4_init 116 = .ok (.aload_n 0, 1) := by decide +kernel
theorem dX4_init_117 : decode cX4_init 117 = .ok (.bipush 9, 2) := by decide +kernel
theorem dX4_init_119 : decode cX4_init 119 = .ok (.newarray .int, 2) := by decide +kernel
theorem dX4_init_121 : decode cX4_init 121 = .ok (.putfield 52, 3) := by decide +kernel
theorem dX4_init_124 : decode cX4_init 124 = .ok (.aload_n 0, 1) := by decide +kernel
theorem dX4_init_125 : decode cX4_init 125 = .ok (.bipush 9, 2) := by decide +kernel
theorem dX4_init_127 : decode cX4_init 127 = .ok (.newarray .int, 2) := by decide +kernel
theorem dX4_init_129 : decode cX4_init 129 = .ok (.putfield 55, 3) := by decide +kernel
theorem dX4_init_132 : decode cX4_init 132 = .ok (.aload_n 0, 1) := by decide +kernel
theorem dX4_init_133 : decode cX4_init 133 = .ok (.bipush 9, 2) := by decide +kernel
theorem dX4_init_135 : decode cX4_init 135 = .ok (.newarray .int, 2) := by decide +kernel
theorem dX4_init_137 : decode cX4_init 137 = .ok (.putfield 58, 3) := by decide +kernel
theorem dX4_init_140 : decode cX4_init 140 = .ok (.return_, 1) := by decide +kernel
theorem dX4_thrown_0 : decode cX4_thrown 0 = .ok (.aload_n 0, 1) := by decide +kernel
theorem dX4_thrown_1 : decode cX4_thrown 1 = .ok (.getfield 61, 3) := by decide +kernel
theorem dX4_thrown_4 : decode cX4_thrown 4 = .ok (.ireturn, 1) := by decide +kernel
theorem dX4_isName_0 : decode cX4_isName 0 = .ok (.iload_n 1, 1) := by decide +kernel
theorem dX4_isName_1 : decode cX4_isName 1 = .ok (.ifCond .lt 15, 3) := by decide +kernel
theorem dX4_isName_4 : decode cX4_isName 4 = .ok (.iload_n 1, 1) := by decide +kernel
theorem dX4_isName_5 : decode cX4_isName 5 = .ok (.aload_n 0, 1) := by decide +kernel
theorem dX4_isName_6 : decode cX4_isName 6 = .ok (.getfield 65, 3) := by decide +kernel
theorem dX4_isName_9 : decode cX4_isName 9 = .ok (.if_icmp .ge 7, 3) := by decide +kernel
theorem dX4_isName_12 : decode cX4_isName 12 = .ok (.iconst 1, 1) := by decide +kernel
theorem dX4_isName_13 : decode cX4_isName 13 = .ok (.goto 4, 3) := by decide +kernel
theorem dX4_isName_16 : decode cX4_isName 16 = .ok (.iconst 0, 1) := by decide +kernel
theorem dX4_isName_17 : decode cX4_isName 17 = .ok (.ireturn, 1) := by decide +kernel
theorem dX4_name_0 : decode cX4_name 0 = .ok (.aload_n 0, 1) := by decide +kernel
theorem dX4_name_1 : decode cX4_name 1 = .ok (.iconst 0, 1) := by decide +kernel
theorem dX4_name_2 : decode cX4_name 2 = .ok (.putfield 61, 3) := by decide +kernel
theorem dX4_name_5 : decode cX4_name 5 = .ok (.iload_n 1, 1) := by decide +kernel
theorem dX4_name_6 : decode cX4_name 6 = .ok (.iconst 1, 1) := by decide +kernel
theorem dX4_name_7 : decode cX4_name 7 = .ok (.if_icmp .lt 20, 3) := by decide +kernel
theorem dX4_name_10 : decode cX4_name 10 = .ok (.iload_n 1, 1) := by decide +kernel
theorem dX4_name_11 : decode cX4_name 11 = .ok (.bipush 6, 2) := by decide +kernel
theorem dX4_name_13 : decode cX4_name 13 = .ok (.if_icmp .gt 14, 3) := by decide +kernel
theorem dX4_name_16 : decode cX4_name 16 = .ok (.iload_n 2, 1) := by decide +kernel
theorem dX4_name_17 : decode cX4_name 17 = .ok (.iconst (-1), 1) := by decide +kernel
theorem dX4_name_18 : decode cX4_name 18 = .ok (.if_icmp .lt 9, 3) := by decide +kernel
theorem dX4_name_21 : decode cX4_name 21 = .ok (.iload_n 2, 1) := by decide +kernel
theorem dX4_name_22 : decode cX4_name 22 = .ok (.bipush 9, 2) := by decide +kernel
theorem dX4_name_24 : decode cX4_name 24 = .ok (.if_icmp .le 6, 3) := by decide +kernel
theorem dX4_name_27 : decode cX4_name 27 = .ok (.bipush (-2), 2) := by decide +kernel
theorem dX4_name_29 : decode cX4_name 29 = .ok (.ireturn, 1) := by decide +kernel
theorem dX4_name_30 : decode cX4_name 30 = .ok (.aload_n 0, 1) := by decide +kernel
theorem dX4_name_31 : decode cX4_name 31 = .ok (.getfield 65, 3) := by decide +kernel
theorem dX4_name_34 : decode cX4_name 34 = .ok (.bipush 8, 2) := by decide +kernel
theorem dX4_name_36 : decode cX4_name 36 = .ok (.if_icmp .ne 6, 3) := by decide +kernel
theorem dX4_name_39 : decode cX4_name 39 = .ok (.bipush (-4), 2) := by decide +kernel
theorem dX4_name_41 : decode cX4_name 41 = .ok (.ireturn, 1) := by decide +kernel
theorem dX4_name_42 : decode cX4_name 42 = .ok (.aload_n 0, 1) := by decide +kernel
theorem dX4_name_43 : decode cX4_name 43 = .ok (.getfield 7, 3) := by decide +kernel
theorem dX4_name_46 : decode cX4_name 46 = .ok (.aload_n 0, 1) := by decide +kernel
theorem dX4_name_47 : decode cX4_name 47 = .ok (.getfield 65, 3) := by decide +kernel
theorem dX4_name_50 : decode cX4_name 50 = .ok (.iload_n 1, 1) := by decide +kernel
theorem dX4_name_51 : decode cX4_name 51 = .ok (.iastore, 1) := by decide +kernel
theorem dX4_name_52 : decode cX4_name 52 = .ok (.aload_n 0, 1) := by decide +kernel
theorem dX4_name_53 : decode cX4_name 53 = .ok (.getfield 13, 3) := by decide +kernel
theorem dX4_name_56 : decode cX4_name 56 = .ok (.aload_n 0, 1) := by decide +kernel
theorem dX4_name_57 : decode cX4_name 57 = .ok (.getfield 65, 3) := by decide +kernel
theorem dX4_name_60 : decode cX4_name 60 = .ok (.iload_n 2, 1) := by decide +kernel
theorem dX4_name_61 : decode cX4_name 61 = .ok (.iastore, 1) := by decide +kernel
theorem dX4_name_62 : decode cX4_name 62 = .ok (.aload_n 0, 1) := by decide +kernel
theorem dX4_name_63 : decode cX4_name 63 = .ok (.dup, 1) := by decide +kernel
theorem dX4_name_64 : decode cX4_name 64 = .ok (.getfield 65, 3) := by decide +kernel
theorem dX4_name_67 : decode cX4_name 67 = .ok (.iconst 1, 1) := by decide +kernel
theorem dX4_name_68 : decode cX4_name 68 = .ok (.iadd, 1) := by decide +kernel
theorem dX4_name_69 : decode cX4_name 69 = .ok (.putfield 65, 3) := by decide +kernel
theorem dX4_name_72 : decode cX4_name 72 = .ok (.aload_n 0, 1) := by decide +kernel
theorem dX4_name_73 : decode cX4_name 73 = .ok (.getfield 65, 3) := by decide +kernel
theorem dX4_name_76 : decode cX4_name 76 = .ok (.iconst 1, 1) := by decide +kernel
theorem dX4_name_77 : decode cX4_name 77 = .ok (.isub, 1) := by decide +kernel
theorem dX4_name_78 : decode cX4_name 78 = .ok (.ireturn, 1) := by decide +kernel
theorem dX4_add_0 : decode cX4_add 0 = .ok (.aload_n 0, 1) := by decide +kernel
theorem dX4_add_1 : decode cX4_add 1 = .ok (.getfield 68, 3) := by decide +kernel
theorem dX4_add_4 : decode cX4_add 4 = .ok (.bipush 60, 2) := by decide +kernel
theorem dX4_add_6 : decode cX4_add 6 = .ok (.if_icmp .ne 6, 3) := by decide +kernel
theorem dX4_add_9 : decode cX4_add 9 = .ok (.bipush (-4), 2) := by decide +kernel
theorem dX4_add_11 : decode cX4_add 11 = .ok (.ireturn, 1) := by decide +kernel
theorem dX4_add_12 : decode cX4_add 12 = .ok (.aload_n 0, 1) := by decide +kernel
theorem dX4_add_13 : decode cX4_add 13 = .ok (.getfield 19, 3) := by decide +kernel
theorem dX4_add_16 : decode cX4_add 16 = .ok (.aload_n 0, 1) := by decide +kernel
theorem dX4_add_17 : decode cX4_add 17 = .ok (.getfield 68, 3) := by decide +kernel
theorem dX4_add_20 : decode cX4_add 20 = .ok (.iload_n 1, 1) := by decide +kernel
theorem dX4_add_21 : decode cX4_add 21 = .ok (.iastore, 1) := by decide +kernel
theorem dX4_add_22 : decode cX4_add 22 = .ok (.aload_n 0, 1) := by decide +kernel
theorem dX4_add_23 : decode cX4_add 23 = .ok (.getfield 22, 3) := by decide +kernel
theorem dX4_add_26 : decode cX4_add 26 = .ok (.aload_n 0, 1) := by decide +kernel
theorem dX4_add_27 : decode cX4_add 27 = .ok (.getfield 68, 3) := by decide +kernel
theorem dX4_add_30 : decode cX4_add 30 = .ok (.iload_n 2, 1) := by decide +kernel
theorem dX4_add_31 : decode cX4_add 31 = .ok (.iastore, 1) := by decide +kernel
theorem dX4_add_32 : decode cX4_add 32 = .ok (.aload_n 0, 1) := by decide +kernel
theorem dX4_add_33 : decode cX4_add 33 = .ok (.getfield 25, 3) := by decide +kernel
theorem dX4_add_36 : decode cX4_add 36 = .ok (.aload_n 0, 1) := by decide +kernel
theorem dX4_add_37 : decode cX4_add 37 = .ok (.getfield 68, 3) := by decide +kernel
theorem dX4_add_40 : decode cX4_add 40 = .ok (.iload_n 3, 1) := by decide +kernel
theorem dX4_add_41 : decode cX4_add 41 = .ok (.iastore, 1) := by decide +kernel
theorem dX4_add_42 : decode cX4_add 42 = .ok (.aload_n 0, 1) := by decide +kernel
theorem dX4_add_43 : decode cX4_add 43 = .ok (.getfield 28, 3) := by decide +kernel
theorem dX4_add_46 : decode cX4_add 46 = .ok (.aload_n 0, 1) := by decide +kernel
theorem dX4_add_47 : decode cX4_add 47 = .ok (.getfield 68, 3) := by decide +kernel
theorem dX4_add_50 : decode cX4_add 50 = .ok (.iload 4, 2) := by decide +kernel
theorem dX4_add_52 : decode cX4_add 52 = .ok (.iastore, 1) := by decide +kernel
theorem dX4_add_53 : decode cX4_add 53 = .ok (.aload_n 0, 1) := by decide +kernel
theorem dX4_add_54 : decode cX4_add 54 = .ok (.getfield 31, 3) := by decide +kernel
theorem dX4_add_57 : decode cX4_add 57 = .ok (.aload_n 0, 1) := by decide +kernel
theorem dX4_add_58 : decode cX4_add 58 = .ok (.getfield 68, 3) := by decide +kernel
theorem dX4_add_61 : decode cX4_add 61 = .ok (.lload 5, 2) := by decide +kernel
theorem dX4_add_63 : decode cX4_add 63 = .ok (.ldc2_w 71, 3) := by decide +kernel
theorem dX4_add_66 : decode cX4_add 66 = .ok (.land, 1) := by decide +kernel
theorem dX4_add_67 : decode cX4_add 67 = .ok (.l2i, 1) := by decide +kernel
theorem dX4_add_68 : decode cX4_add 68 = .ok (.iastore, 1) := by decide +kernel
theorem dX4_add_69 : decode cX4_add 69 = .ok (.aload_n 0, 1) := by decide +kernel
theorem dX4_add_70 : decode cX4_add 70 = .ok (.dup, 1) := by decide +kernel
theorem dX4_add_71 : decode cX4_add 71 = .ok (.getfield 68, 3) := by decide +kernel
theorem dX4_add_74 : decode cX4_add 74 = .ok (.iconst 1, 1) := by decide +kernel
theorem dX4_add_75 : decode cX4_add 75 = .ok (.iadd, 1) := by decide +kernel
theorem dX4_add_76 : decode cX4_add 76 = .ok (.putfield 68, 3) := by decide +kernel
theorem dX4_add_79 : decode cX4_add 79 = .ok (.aload_n 0, 1) := by decide +kernel
theorem dX4_add_80 : decode cX4_add 80 = .ok (.getfield 68, 3) := by decide +kernel
theorem dX4_add_83 : decode cX4_add 83 = .ok (.iconst 1, 1) := by decide +kernel
theorem dX4_add_84 : decode cX4_add 84 = .ok (.isub, 1) := by decide +kernel
theorem dX4_add_85 : decode cX4_add 85 = .ok (.ireturn, 1) := by decide +kernel
set_option maxRecDepth 20000 in
theorem ggX4_needs_X4_isName : GoodIn wsX4_needs wsX4_isName := goodIn_r _ [7, 8, 20, 21, 22, 23, 24, 25, 26, 27, 28, 29, 30, 31, 32, 33, 34, 35, 36, 37, 38, 39, 40, 41, 42, 43, 44] (by decide +kernel) (by decide +kernel)
set_option maxRecDepth 20000 in
theorem gX4_needs_X4_isName : GoodIn wsX4_needs (wsV RX4 73 RX4 yX4_isName wsX4_isName) := goodIn_app (goodIn_of _ (by decide +kernel)) ggX4_needs_X4_isName
set_option maxRecDepth 20000 in
theorem ggX4_needs_X4_add : GoodIn wsX4_needs wsX4_add := goodIn_ca (goodIn_r _ [12, 13, 14, 15, 16, 17, 18, 19, 20, 21, 22, 23, 24, 25, 26, 27, 28, 29, 30, 31, 32, 33, 34, 35, 36, 37, 38, 39, 40, 41, 42, 43, 44] (by decide +kernel) (by decide +kernel)) (goodIn_sub (fun _ h => List.mem_cons_of_mem _ (List.mem_append_right _ h)) (by decide +kernel))
set_option maxRecDepth 20000 in
theorem gX4_needs_X4_add : GoodIn wsX4_needs (wsV RX4 77 RX4 yX4_add wsX4_add) := goodIn_app (goodIn_of _ (by decide +kernel)) ggX4_needs_X4_add
theorem dX4_needs_0 : decode cX4_needs 0 = .ok (.aload_n 0, 1) := by decide +kernel
theorem dX4_needs_1 : decode cX4_needs 1 = .ok (.iconst 0, 1) := by decide +kernel
theorem dX4_needs_2 : decode cX4_needs 2 = .ok (.putfield 61, 3) := by decide +kernel
theorem dX4_needs_5 : decode cX4_needs 5 = .ok (.aload_n 0, 1) := by decide +kernel
theorem dX4_needs_6 : decode cX4_needs 6 = .ok (.iload_n 1, 1) := by decide +kernel
theorem dX4_needs_7 : decode cX4_needs 7 = .ok (.invokevirtual 73, 3) := by decide +kernel
theorem dX4_needs_10 : decode cX4_needs 10 = .ok (.ifCond .eq 11, 3) := by decide +kernel
theorem dX4_needs_13 : decode cX4_needs 13 = .ok (.aload_n 0, 1) := by decide +kernel
theorem dX4_needs_14 : decode cX4_needs 14 = .ok (.iload_n 3, 1) := by decide +kernel
theorem dX4_needs_15 : decode cX4_needs 15 = .ok (.invokevirtual 73, 3) := by decide +kernel
theorem dX4_needs_18 : decode cX4_needs 18 = .ok (.ifCond .ne 5, 3) := by decide +kernel
theorem dX4_needs_21 : decode cX4_needs 21 = .ok (.iconst (-1), 1) := by decide +kernel
theorem dX4_needs_22 : decode cX4_needs 22 = .ok (.ireturn, 1) := by decide +kernel
theorem dX4_needs_23 : decode cX4_needs 23 = .ok (.iload_n 2, 1) := by decide +kernel
theorem dX4_needs_24 : decode cX4_needs 24 = .ok (.ifCond .lt 13, 3) := by decide +kernel
theorem dX4_needs_27 : decode cX4_needs 27 = .ok (.iload_n 2, 1) := by decide +kernel
theorem dX4_needs_28 : decode cX4_needs 28 = .ok (.aload_n 0, 1) := by decide +kernel
theorem dX4_needs_29 : decode cX4_needs 29 = .ok (.getfield 7, 3) := by decide +kernel
theorem dX4_needs_32 : decode cX4_needs 32 = .ok (.iload_n 1, 1) := by decide +kernel
theorem dX4_needs_33 : decode cX4_needs 33 = .ok (.iaload, 1) := by decide +kernel
theorem dX4_needs_34 : decode cX4_needs 34 = .ok (.if_icmp .lt 8, 3) := by decide +kernel
theorem dX4_needs_37 : decode cX4_needs 37 = .ok (.bipush (-2), 2) := by decide +kernel
theorem dX4_needs_39 : decode cX4_needs 39 = .ok (.goto 13, 3) := by decide +kernel
theorem dX4_needs_42 : decode cX4_needs 42 = .ok (.aload_n 0, 1) := by decide +kernel
theorem dX4_needs_43 : decode cX4_needs 43 = .ok (.iconst 0, 1) := by decide +kernel
theorem dX4_needs_44 : decode cX4_needs 44 = .ok (.iload_n 1, 1) := by decide +kernel
theorem dX4_needs_45 : decode cX4_needs 45 = .ok (.iload_n 2, 1) := by decide +kernel
theorem dX4_needs_46 : decode cX4_needs 46 = .ok (.iload_n 3, 1) := by decide +kernel
theorem dX4_needs_47 : decode cX4_needs 47 = .ok (.lload 4, 2) := by decide +kernel
theorem dX4_needs_49 : decode cX4_needs 49 = .ok (.invokevirtual 77, 3) := by decide +kernel
theorem dX4_needs_52 : decode cX4_needs 52 = .ok (.ireturn, 1) := by decide +kernel
set_option maxRecDepth 20000 in
theorem ggX4_want_X4_isName : GoodIn wsX4_want wsX4_isName := goodIn_r _ [6, 7, 19, 20, 21, 22, 23, 24, 25, 26, 27, 28, 29, 30, 31, 32, 33, 34, 35, 36, 37, 38, 39, 40, 41, 42, 43] (by decide +kernel) (by decide +kernel)
set_option maxRecDepth 20000 in
theorem gX4_want_X4_isName : GoodIn wsX4_want (wsV RX4 73 RX4 yX4_isName wsX4_isName) := goodIn_app (goodIn_of _ (by decide +kernel)) ggX4_want_X4_isName
set_option maxRecDepth 20000 in
theorem ggX4_want_X4_add : GoodIn wsX4_want wsX4_add := goodIn_ca (goodIn_r _ [11, 12, 13, 14, 15, 16, 17, 18, 19, 20, 21, 22, 23, 24, 25, 26, 27, 28, 29, 30, 31, 32, 33, 34, 35, 36, 37, 38, 39, 40, 41, 42, 43] (by decide +kernel) (by decide +kernel)) (goodIn_sub (fun _ h => List.mem_cons_of_mem _ (List.mem_append_right _ h)) (by decide +kernel))
set_option maxRecDepth 20000 in
theorem gX4_want_X4_add : GoodIn wsX4_want (wsV RX4 77 RX4 yX4_add wsX4_add) := goodIn_app (goodIn_of _ (by decide +kernel)) ggX4_want_X4_add
theorem dX4_want_0 : decode cX4_want 0 = .ok (.aload_n 0, 1) := by decide +kernel
theorem dX4_want_1 : decode cX4_want 1 = .ok (.iconst 0, 1) := by decide +kernel
theorem dX4_want_2 : decode cX4_want 2 = .ok (.putfield 61, 3) := by decide +kernel
theorem dX4_want_5 : decode cX4_want 5 = .ok (.aload_n 0, 1) := by decide +kernel
theorem dX4_want_6 : decode cX4_want 6 = .ok (.iload_n 1, 1) := by decide +kernel
theorem dX4_want_7 : decode cX4_want 7 = .ok (.invokevirtual 73, 3) := by decide +kernel
theorem dX4_want_10 : decode cX4_want 10 = .ok (.ifCond .eq 15, 3) := by decide +kernel
theorem dX4_want_13 : decode cX4_want 13 = .ok (.aload_n 0, 1) := by decide +kernel
theorem dX4_want_14 : decode cX4_want 14 = .ok (.iconst 1, 1) := by decide +kernel
theorem dX4_want_15 : decode cX4_want 15 = .ok (.iload_n 1, 1) := by decide +kernel
theorem dX4_want_16 : decode cX4_want 16 = .ok (.iconst 0, 1) := by decide +kernel
theorem dX4_want_17 : decode cX4_want 17 = .ok (.iconst 0, 1) := by decide +kernel
theorem dX4_want_18 : decode cX4_want 18 = .ok (.lload_n 2, 1) := by decide +kernel
theorem dX4_want_19 : decode cX4_want 19 = .ok (.invokevirtual 77, 3) := by decide +kernel
theorem dX4_want_22 : decode cX4_want 22 = .ok (.goto 4, 3) := by decide +kernel
theorem dX4_want_25 : decode cX4_want 25 = .ok (.iconst (-1), 1) := by decide +kernel
theorem dX4_want_26 : decode cX4_want 26 = .ok (.ireturn, 1) := by decide +kernel
set_option maxRecDepth 20000 in
theorem ggX4_force_X4_isName : GoodIn wsX4_force wsX4_isName := goodIn_r _ [6, 7, 19, 20, 21, 22, 23, 24, 25, 26, 27, 28, 29, 30, 31, 32, 33, 34, 35, 36, 37, 38, 39, 40, 41, 42, 43] (by decide +kernel) (by decide +kernel)
set_option maxRecDepth 20000 in
theorem gX4_force_X4_isName : GoodIn wsX4_force (wsV RX4 73 RX4 yX4_isName wsX4_isName) := goodIn_app (goodIn_of _ (by decide +kernel)) ggX4_force_X4_isName
set_option maxRecDepth 20000 in
theorem ggX4_force_X4_add : GoodIn wsX4_force wsX4_add := goodIn_ca (goodIn_r _ [11, 12, 13, 14, 15, 16, 17, 18, 19, 20, 21, 22, 23, 24, 25, 26, 27, 28, 29, 30, 31, 32, 33, 34, 35, 36, 37, 38, 39, 40, 41, 42, 43] (by decide +kernel) (by decide +kernel)) (goodIn_sub (fun _ h => List.mem_cons_of_mem _ (List.mem_append_right _ h)) (by decide +kernel))
set_option maxRecDepth 20000 in
theorem gX4_force_X4_add : GoodIn wsX4_force (wsV RX4 77 RX4 yX4_add wsX4_add) := goodIn_app (goodIn_of _ (by decide +kernel)) ggX4_force_X4_add
theorem dX4_force_0 : decode cX4_force 0 = .ok (.aload_n 0, 1) := by decide +kernel
theorem dX4_force_1 : decode cX4_force 1 = .ok (.iconst 0, 1) := by decide +kernel
theorem dX4_force_2 : decode cX4_force 2 = .ok (.putfield 61, 3) := by decide +kernel
theorem dX4_force_5 : decode cX4_force 5 = .ok (.aload_n 0, 1) := by decide +kernel
theorem dX4_force_6 : decode cX4_force 6 = .ok (.iload_n 1, 1) := by decide +kernel
theorem dX4_force_7 : decode cX4_force 7 = .ok (.invokevirtual 73, 3) := by decide +kernel
theorem dX4_force_10 : decode cX4_force 10 = .ok (.ifCond .eq 15, 3) := by decide +kernel
theorem dX4_force_13 : decode cX4_force 13 = .ok (.aload_n 0, 1) := by decide +kernel
theorem dX4_force_14 : decode cX4_force 14 = .ok (.iconst 2, 1) := by decide +kernel
theorem dX4_force_15 : decode cX4_force 15 = .ok (.iload_n 1, 1) := by decide +kernel
theorem dX4_force_16 : decode cX4_force 16 = .ok (.iconst 0, 1) := by decide +kernel
theorem dX4_force_17 : decode cX4_force 17 = .ok (.iconst 0, 1) := by decide +kernel
theorem dX4_force_18 : decode cX4_force 18 = .ok (.lload_n 2, 1) := by decide +kernel
theorem dX4_force_19 : decode cX4_force 19 = .ok (.invokevirtual 77, 3) := by decide +kernel
theorem dX4_force_22 : decode cX4_force 22 = .ok (.goto 4, 3) := by decide +kernel
theorem dX4_force_25 : decode cX4_force 25 = .ok (.iconst (-1), 1) := by decide +kernel
theorem dX4_force_26 : decode cX4_force 26 = .ok (.ireturn, 1) := by decide +kernel
set_option maxRecDepth 20000 in
theorem ggX4_group_X4_isName : GoodIn wsX4_group wsX4_isName := goodIn_r _ [6, 7, 19, 20, 21, 22, 23, 24, 25, 26, 27, 28, 29, 30, 31, 32, 33, 34, 35, 36, 37, 38, 39, 40, 41, 42, 43] (by decide +kernel) (by decide +kernel)
set_option maxRecDepth 20000 in
theorem gX4_group_X4_isName : GoodIn wsX4_group (wsV RX4 73 RX4 yX4_isName wsX4_isName) := goodIn_app (goodIn_of _ (by decide +kernel)) ggX4_group_X4_isName
set_option maxRecDepth 20000 in
theorem ggX4_group_X4_add : GoodIn wsX4_group wsX4_add := goodIn_ca (goodIn_r _ [11, 12, 13, 14, 15, 16, 17, 18, 19, 20, 21, 22, 23, 24, 25, 26, 27, 28, 29, 30, 31, 32, 33, 34, 35, 36, 37, 38, 39, 40, 41, 42, 43] (by decide +kernel) (by decide +kernel)) (goodIn_sub (fun _ h => List.mem_cons_of_mem _ (List.mem_append_right _ h)) (by decide +kernel))
set_option maxRecDepth 20000 in
theorem gX4_group_X4_add : GoodIn wsX4_group (wsV RX4 77 RX4 yX4_add wsX4_add) := goodIn_app (goodIn_of _ (by decide +kernel)) ggX4_group_X4_add
theorem dX4_group_0 : decode cX4_group 0 = .ok (.aload_n 0, 1) := by decide +kernel
theorem dX4_group_1 : decode cX4_group 1 = .ok (.iconst 0, 1) := by decide +kernel
theorem dX4_group_2 : decode cX4_group 2 = .ok (.putfield 61, 3) := by decide +kernel
theorem dX4_group_5 : decode cX4_group 5 = .ok (.aload_n 0, 1) := by decide +kernel
theorem dX4_group_6 : decode cX4_group 6 = .ok (.iload_n 1, 1) := by decide +kernel
theorem dX4_group_7 : decode cX4_group 7 = .ok (.invokevirtual 73, 3) := by decide +kernel
theorem dX4_group_10 : decode cX4_group 10 = .ok (.ifCond .eq 11, 3) := by decide +kernel
theorem dX4_group_13 : decode cX4_group 13 = .ok (.aload_n 0, 1) := by decide +kernel
theorem dX4_group_14 : decode cX4_group 14 = .ok (.iload_n 2, 1) := by decide +kernel
theorem dX4_group_15 : decode cX4_group 15 = .ok (.invokevirtual 73, 3) := by decide +kernel
theorem dX4_group_18 : decode cX4_group 18 = .ok (.ifCond .ne 5, 3) := by decide +kernel
theorem dX4_group_21 : decode cX4_group 21 = .ok (.iconst (-1), 1) := by decide +kernel
theorem dX4_group_22 : decode cX4_group 22 = .ok (.ireturn, 1) := by decide +kernel
theorem dX4_group_23 : decode cX4_group 23 = .ok (.iload_n 1, 1) := by decide +kernel
theorem dX4_group_24 : decode cX4_group 24 = .ok (.iload_n 2, 1) := by decide +kernel
theorem dX4_group_25 : decode cX4_group 25 = .ok (.if_icmp .ne 8, 3) := by decide +kernel
theorem dX4_group_28 : decode cX4_group 28 = .ok (.bipush (-2), 2) := by decide +kernel
theorem dX4_group_30 : decode cX4_group 30 = .ok (.goto 12, 3) := by decide +kernel
theorem dX4_group_33 : decode cX4_group 33 = .ok (.aload_n 0, 1) := by decide +kernel
theorem dX4_group_34 : decode cX4_group 34 = .ok (.iconst 3, 1) := by decide +kernel
theorem dX4_group_35 : decode cX4_group 35 = .ok (.iload_n 1, 1) := by decide +kernel
theorem dX4_group_36 : decode cX4_group 36 = .ok (.iconst 0, 1) := by decide +kernel
theorem dX4_group_37 : decode cX4_group 37 = .ok (.iload_n 2, 1) := by decide +kernel
theorem dX4_group_38 : decode cX4_group 38 = .ok (.lconst 0, 1) := by decide +kernel
theorem dX4_group_39 : decode cX4_group 39 = .ok (.invokevirtual 77, 3) := by decide +kernel
theorem dX4_group_42 : decode cX4_group 42 = .ok (.ireturn, 1) := by decide +kernel
theorem dX4_row_0 : decode cX4_row 0 = .ok (.aload_n 0, 1) := by decide +kernel
theorem dX4_row_1 : decode cX4_row 1 = .ok (.iload_n 1, 1) := by decide +kernel
theorem dX4_row_2 : decode cX4_row 2 = .ok (.ifCond .lt 15, 3) := by decide +kernel
theorem dX4_row_5 : decode cX4_row 5 = .ok (.iload_n 1, 1) := by decide +kernel
theorem dX4_row_6 : decode cX4_row 6 = .ok (.aload_n 0, 1) := by decide +kernel
theorem dX4_row_7 : decode cX4_row 7 = .ok (.getfield 68, 3) := by decide +kernel
theorem dX4_row_10 : decode cX4_row 10 = .ok (.if_icmp .ge 7, 3) := by decide +kernel
theorem dX4_row_13 : decode cX4_row 13 = .ok (.iconst 0, 1) := by decide +kernel
theorem dX4_row_14 : decode cX4_row 14 = .ok (.goto 4, 3) := by decide +kernel
theorem dX4_row_17 : decode cX4_row 17 = .ok (.iconst 1, 1) := by decide +kernel
theorem dX4_row_18 : decode cX4_row 18 = .ok (.putfield 61, 3) := by decide +kernel
theorem dX4_row_21 : decode cX4_row 21 = .ok (.aload_n 0, 1) := by decide +kernel
theorem dX4_row_22 : decode cX4_row 22 = .ok (.getfield 61, 3) := by decide +kernel
theorem dX4_row_25 : decode cX4_row 25 = .ok (.ifCond .le 7, 3) := by decide +kernel
theorem dX4_row_28 : decode cX4_row 28 = .ok (.iconst 0, 1) := by decide +kernel
theorem dX4_row_29 : decode cX4_row 29 = .ok (.goto 39, 3) := by decide +kernel
theorem dX4_row_32 : decode cX4_row 32 = .ok (.aload_n 0, 1) := by decide +kernel
theorem dX4_row_33 : decode cX4_row 33 = .ok (.getfield 19, 3) := by decide +kernel
theorem dX4_row_36 : decode cX4_row 36 = .ok (.iload_n 1, 1) := by decide +kernel
theorem dX4_row_37 : decode cX4_row 37 = .ok (.iaload, 1) := by decide +kernel
theorem dX4_row_38 : decode cX4_row 38 = .ok (.bipush 8, 2) := by decide +kernel
theorem dX4_row_40 : decode cX4_row 40 = .ok (.imul, 1) := by decide +kernel
theorem dX4_row_41 : decode cX4_row 41 = .ok (.aload_n 0, 1) := by decide +kernel
theorem dX4_row_42 : decode cX4_row 42 = .ok (.getfield 22, 3) := by decide +kernel
theorem dX4_row_45 : decode cX4_row 45 = .ok (.iload_n 1, 1) := by decide +kernel
theorem dX4_row_46 : decode cX4_row 46 = .ok (.iaload, 1) := by decide +kernel
theorem dX4_row_47 : decode cX4_row 47 = .ok (.iadd, 1) := by decide +kernel
theorem dX4_row_48 : decode cX4_row 48 = .ok (.bipush 8, 2) := by decide +kernel
theorem dX4_row_50 : decode cX4_row 50 = .ok (.imul, 1) := by decide +kernel
theorem dX4_row_51 : decode cX4_row 51 = .ok (.aload_n 0, 1) := by decide +kernel
theorem dX4_row_52 : decode cX4_row 52 = .ok (.getfield 25, 3) := by decide +kernel
theorem dX4_row_55 : decode cX4_row 55 = .ok (.iload_n 1, 1) := by decide +kernel
theorem dX4_row_56 : decode cX4_row 56 = .ok (.iaload, 1) := by decide +kernel
theorem dX4_row_57 : decode cX4_row 57 = .ok (.iadd, 1) := by decide +kernel
theorem dX4_row_58 : decode cX4_row 58 = .ok (.bipush 8, 2) := by decide +kernel
theorem dX4_row_60 : decode cX4_row 60 = .ok (.imul, 1) := by decide +kernel
theorem dX4_row_61 : decode cX4_row 61 = .ok (.aload_n 0, 1) := by decide +kernel
theorem dX4_row_62 : decode cX4_row 62 = .ok (.getfield 28, 3) := by decide +kernel
theorem dX4_row_65 : decode cX4_row 65 = .ok (.iload_n 1, 1) := by decide +kernel
theorem dX4_row_66 : decode cX4_row 66 = .ok (.iaload, 1) := by decide +kernel
theorem dX4_row_67 : decode cX4_row 67 = .ok (.iadd, 1) := by decide +kernel
theorem dX4_row_68 : decode cX4_row 68 = .ok (.ireturn, 1) := by decide +kernel
theorem dX4_begin_0 : decode cX4_begin 0 = .ok (.iconst 0, 1) := by decide +kernel
theorem dX4_begin_1 : decode cX4_begin 1 = .ok (.istore_n 1, 1) := by decide +kernel
theorem dX4_begin_2 : decode cX4_begin 2 = .ok (.iload_n 1, 1) := by decide +kernel
theorem dX4_begin_3 : decode cX4_begin 3 = .ok (.aload_n 0, 1) := by decide +kernel
theorem dX4_begin_4 : decode cX4_begin 4 = .ok (.getfield 65, 3) := by decide +kernel
theorem dX4_begin_7 : decode cX4_begin 7 = .ok (.if_icmp .ge 37, 3) := by decide +kernel
theorem dX4_begin_10 : decode cX4_begin 10 = .ok (.aload_n 0, 1) := by decide +kernel
theorem dX4_begin_11 : decode cX4_begin 11 = .ok (.getfield 37, 3) := by decide +kernel
theorem dX4_begin_14 : decode cX4_begin 14 = .ok (.iload_n 1, 1) := by decide +kernel
theorem dX4_begin_15 : decode cX4_begin 15 = .ok (.iconst 1, 1) := by decide +kernel
theorem dX4_begin_16 : decode cX4_begin 16 = .ok (.aload_n 0, 1) := by decide +kernel
theorem dX4_begin_17 : decode cX4_begin 17 = .ok (.getfield 7, 3) := by decide +kernel
theorem dX4_begin_20 : decode cX4_begin 20 = .ok (.iload_n 1, 1) := by decide +kernel
theorem dX4_begin_21 : decode cX4_begin 21 = .ok (.iaload, 1) := by decide +kernel
theorem dX4_begin_22 : decode cX4_begin 22 = .ok (.ishl, 1) := by decide +kernel
theorem dX4_begin_23 : decode cX4_begin 23 = .ok (.iconst 1, 1) := by decide +kernel
theorem dX4_begin_24 : decode cX4_begin 24 = .ok (.isub, 1) := by decide +kernel
theorem dX4_begin_25 : decode cX4_begin 25 = .ok (.aload_n 0, 1) := by decide +kernel
theorem dX4_begin_26 : decode cX4_begin 26 = .ok (.getfield 16, 3) := by decide +kernel
theorem dX4_begin_29 : decode cX4_begin 29 = .ok (.iload_n 1, 1) := by decide +kernel
theorem dX4_begin_30 : decode cX4_begin 30 = .ok (.iaload, 1) := by decide +kernel
theorem dX4_begin_31 : decode cX4_begin 31 = .ok (.iconst (-1), 1) := by decide +kernel
theorem dX4_begin_32 : decode cX4_begin 32 = .ok (.ixor, 1) := by decide +kernel
theorem dX4_begin_33 : decode cX4_begin 33 = .ok (.iand, 1) := by decide +kernel
theorem dX4_begin_34 : decode cX4_begin 34 = .ok (.bipush 64, 2) := by decide +kernel
theorem dX4_begin_36 : decode cX4_begin 36 = .ok (.ior, 1) := by decide +kernel
theorem dX4_begin_37 : decode cX4_begin 37 = .ok (.iastore, 1) := by decide +kernel
theorem dX4_begin_38 : decode cX4_begin 38 = .ok (.iinc 1 1, 3) := by decide +kernel
theorem dX4_begin_41 : decode cX4_begin 41 = .ok (.goto (-39), 3) := by decide +kernel
theorem dX4_begin_44 : decode cX4_begin 44 = .ok (.iconst 0, 1) := by decide +kernel
theorem dX4_begin_45 : decode cX4_begin 45 = .ok (.istore_n 1, 1) := by decide +kernel
theorem dX4_begin_46 : decode cX4_begin 46 = .ok (.iload_n 1, 1) := by decide +kernel
theorem dX4_begin_47 : decode cX4_begin 47 = .ok (.aload_n 0, 1) := by decide +kernel
theorem dX4_begin_48 : decode cX4_begin 48 = .ok (.getfield 68, 3) := by decide +kernel
theorem dX4_begin_51 : decode cX4_begin 51 = .ok (.if_icmp .ge 125, 3) := by decide +kernel
theorem dX4_begin_54 : decode cX4_begin 54 = .ok (.aload_n 0, 1) := by decide +kernel
theorem dX4_begin_55 : decode cX4_begin 55 = .ok (.getfield 22, 3) := by decide +kernel
theorem dX4_begin_58 : decode cX4_begin 58 = .ok (.iload_n 1, 1) := by decide +kernel
theorem dX4_begin_59 : decode cX4_begin 59 = .ok (.iaload, 1) := by decide +kernel
theorem dX4_begin_60 : decode cX4_begin 60 = .ok (.istore_n 2, 1) := by decide +kernel
theorem dX4_begin_61 : decode cX4_begin 61 = .ok (.aload_n 0, 1) := by decide +kernel
theorem dX4_begin_62 : decode cX4_begin 62 = .ok (.getfield 19, 3) := by decide +kernel
theorem dX4_begin_65 : decode cX4_begin 65 = .ok (.iload_n 1, 1) := by decide +kernel
theorem dX4_begin_66 : decode cX4_begin 66 = .ok (.iaload, 1) := by decide +kernel
theorem dX4_begin_67 : decode cX4_begin 67 = .ok (.iconst 1, 1) := by decide +kernel
theorem dX4_begin_68 : decode cX4_begin 68 = .ok (.if_icmp .ne 18, 3) := by decide +kernel
theorem dX4_begin_71 : decode cX4_begin 71 = .ok (.aload_n 0, 1) := by decide +kernel
theorem dX4_begin_72 : decode cX4_begin 72 = .ok (.getfield 37, 3) := by decide +kernel
theorem dX4_begin_75 : decode cX4_begin 75 = .ok (.iload_n 2, 1) := by decide +kernel
theorem dX4_begin_76 : decode cX4_begin 76 = .ok (.dup2, 1) := by decide +kernel
theorem dX4_begin_77 : decode cX4_begin 77 = .ok (.iaload, 1) := by decide +kernel
theorem dX4_begin_78 : decode cX4_begin 78 = .ok (.aload_n 0, 1) := by decide +kernel
theorem dX4_begin_79 : decode cX4_begin 79 = .ok (.getfield 31, 3) := by decide +kernel
theorem dX4_begin_82 : decode cX4_begin 82 = .ok (.iload_n 1, 1) := by decide +kernel
theorem dX4_begin_83 : decode cX4_begin 83 = .ok (.iaload, 1) := by decide +kernel
theorem dX4_begin_84 : decode cX4_begin 84 = .ok (.iand, 1) := by decide +kernel
theorem dX4_begin_85 : decode cX4_begin 85 = .ok (.iastore, 1) := by decide +kernel
theorem dX4_begin_86 : decode cX4_begin 86 = .ok (.aload_n 0, 1) := by decide +kernel
theorem dX4_begin_87 : decode cX4_begin 87 = .ok (.getfield 19, 3) := by decide +kernel
theorem dX4_begin_90 : decode cX4_begin 90 = .ok (.iload_n 1, 1) := by decide +kernel
theorem dX4_begin_91 : decode cX4_begin 91 = .ok (.iaload, 1) := by decide +kernel
theorem dX4_begin_92 : decode cX4_begin 92 = .ok (.iconst 2, 1) := by decide +kernel
theorem dX4_begin_93 : decode cX4_begin 93 = .ok (.if_icmp .ne 21, 3) := by decide +kernel
theorem dX4_begin_96 : decode cX4_begin 96 = .ok (.aload_n 0, 1) := by decide +kernel
theorem dX4_begin_97 : decode cX4_begin 97 = .ok (.getfield 37, 3) := by decide +kernel
theorem dX4_begin_100 : decode cX4_begin 100 = .ok (.iload_n 2, 1) := by decide +kernel
theorem dX4_begin_101 : decode cX4_begin 101 = .ok (.dup2, 1) := by decide +kernel
theorem dX4_begin_102 : decode cX4_begin 102 = .ok (.iaload, 1) := by decide +kernel
theorem dX4_begin_103 : decode cX4_begin 103 = .ok (.aload_n 0, 1) := by decide +kernel
theorem dX4_begin_104 : decode cX4_begin 104 = .ok (.getfield 31, 3) := by decide +kernel
theorem dX4_begin_107 : decode cX4_begin 107 = .ok (.iload_n 1, 1) := by decide +kernel
theorem dX4_begin_108 : decode cX4_begin 108 = .ok (.iaload, 1) := by decide +kernel
theorem dX4_begin_109 : decode cX4_begin 109 = .ok (.bipush 64, 2) := by decide +kernel
theorem dX4_begin_111 : decode cX4_begin 111 = .ok (.ior, 1) := by decide +kernel
theorem dX4_begin_112 : decode cX4_begin 112 = .ok (.iand, 1) := by decide +kernel
theorem dX4_begin_113 : decode cX4_begin 113 = .ok (.iastore, 1) := by decide +kernel
theorem dX4_begin_114 : decode cX4_begin 114 = .ok (.aload_n 0, 1) := by decide +kernel
theorem dX4_begin_115 : decode cX4_begin 115 = .ok (.getfield 19, 3) := by decide +kernel
theorem dX4_begin_118 : decode cX4_begin 118 = .ok (.iload_n 1, 1) := by decide +kernel
theorem dX4_begin_119 : decode cX4_begin 119 = .ok (.iaload, 1) := by decide +kernel
theorem dX4_begin_120 : decode cX4_begin 120 = .ok (.ifCond .ne 50, 3) := by decide +kernel
theorem dX4_begin_123 : decode cX4_begin 123 = .ok (.aload_n 0, 1) := by decide +kernel
theorem dX4_begin_124 : decode cX4_begin 124 = .ok (.getfield 28, 3) := by decide +kernel
theorem dX4_begin_127 : decode cX4_begin 127 = .ok (.iload_n 1, 1) := by decide +kernel
theorem dX4_begin_128 : decode cX4_begin 128 = .ok (.iaload, 1) := by decide +kernel
theorem dX4_begin_129 : decode cX4_begin 129 = .ok (.iload_n 2, 1) := by decide +kernel
theorem dX4_begin_130 : decode cX4_begin 130 = .ok (.if_icmp .ne 40, 3) := by decide +kernel
theorem dX4_begin_133 : decode cX4_begin 133 = .ok (.aload_n 0, 1) := by decide +kernel
theorem dX4_begin_134 : decode cX4_begin 134 = .ok (.getfield 31, 3) := by decide +kernel
theorem dX4_begin_137 : decode cX4_begin 137 = .ok (.iload_n 1, 1) := by decide +kernel
theorem dX4_begin_138 : decode cX4_begin 138 = .ok (.iaload, 1) := by decide +kernel
theorem dX4_begin_139 : decode cX4_begin 139 = .ok (.aload_n 0, 1) := by decide +kernel
theorem dX4_begin_140 : decode cX4_begin 140 = .ok (.getfield 25, 3) := by decide +kernel
theorem dX4_begin_143 : decode cX4_begin 143 = .ok (.iload_n 1, 1) := by decide +kernel
theorem dX4_begin_144 : decode cX4_begin 144 = .ok (.iaload, 1) := by decide +kernel
theorem dX4_begin_145 : decode cX4_begin 145 = .ok (.ishr, 1) := by decide +kernel
theorem dX4_begin_146 : decode cX4_begin 146 = .ok (.iconst 1, 1) := by decide +kernel
theorem dX4_begin_147 : decode cX4_begin 147 = .ok (.iand, 1) := by decide +kernel
theorem dX4_begin_148 : decode cX4_begin 148 = .ok (.ifCond .ne 22, 3) := by decide +kernel
theorem dX4_begin_151 : decode cX4_begin 151 = .ok (.aload_n 0, 1) := by decide +kernel
theorem dX4_begin_152 : decode cX4_begin 152 = .ok (.getfield 37, 3) := by decide +kernel
theorem dX4_begin_155 : decode cX4_begin 155 = .ok (.iload_n 2, 1) := by decide +kernel
theorem dX4_begin_156 : decode cX4_begin 156 = .ok (.dup2, 1) := by decide +kernel
theorem dX4_begin_157 : decode cX4_begin 157 = .ok (.iaload, 1) := by decide +kernel
theorem dX4_begin_158 : decode cX4_begin 158 = .ok (.iconst 1, 1) := by decide +kernel
theorem dX4_begin_159 : decode cX4_begin 159 = .ok (.aload_n 0, 1) := by decide +kernel
theorem dX4_begin_160 : decode cX4_begin 160 = .ok (.getfield 25, 3) := by decide +kernel
theorem dX4_begin_163 : decode cX4_begin 163 = .ok (.iload_n 1, 1) := by decide +kernel
theorem dX4_begin_164 : decode cX4_begin 164 = .ok (.iaload, 1) := by decide +kernel
theorem dX4_begin_165 : decode cX4_begin 165 = .ok (.ishl, 1) := by decide +kernel
theorem dX4_begin_166 : decode cX4_begin 166 = .ok (.iconst (-1), 1) := by decide +kernel
theorem dX4_begin_167 : decode cX4_begin 167 = .ok (.ixor, 1) := by decide +kernel
theorem dX4_begin_168 : decode cX4_begin 168 = .ok (.iand, 1) := by decide +kernel
theorem dX4_begin_169 : decode cX4_begin 169 = .ok (.iastore, 1) := by decide +kernel
theorem dX4_begin_170 : decode cX4_begin 170 = .ok (.iinc 1 1, 3) := by decide +kernel
theorem dX4_begin_173 : decode cX4_begin 173 = .ok (.goto (-127), 3) := by decide +kernel
theorem dX4_begin_176 : decode cX4_begin 176 = .ok (.return_, 1) := by decide +kernel
theorem dX4_leaves_0 : decode cX4_leaves 0 = .ok (.bipush 8, 2) := by decide +kernel
theorem dX4_leaves_2 : decode cX4_leaves 2 = .ok (.iload_n 1, 1) := by decide +kernel
theorem dX4_leaves_3 : decode cX4_leaves 3 = .ok (.iconst 1, 1) := by decide +kernel
theorem dX4_leaves_4 : decode cX4_leaves 4 = .ok (.iadd, 1) := by decide +kernel
theorem dX4_leaves_5 : decode cX4_leaves 5 = .ok (.imul, 1) := by decide +kernel
theorem dX4_leaves_6 : decode cX4_leaves 6 = .ok (.istore_n 3, 1) := by decide +kernel
theorem dX4_leaves_7 : decode cX4_leaves 7 = .ok (.iconst 0, 1) := by decide +kernel
theorem dX4_leaves_8 : decode cX4_leaves 8 = .ok (.istore 4, 2) := by decide +kernel
theorem dX4_leaves_10 : decode cX4_leaves 10 = .ok (.iload 4, 2) := by decide +kernel
theorem dX4_leaves_12 : decode cX4_leaves 12 = .ok (.aload_n 0, 1) := by decide +kernel
theorem dX4_leaves_13 : decode cX4_leaves 13 = .ok (.getfield 65, 3) := by decide +kernel
theorem dX4_leaves_16 : decode cX4_leaves 16 = .ok (.if_icmp .ge 30, 3) := by decide +kernel
theorem dX4_leaves_19 : decode cX4_leaves 19 = .ok (.aload_n 0, 1) := by decide +kernel
theorem dX4_leaves_20 : decode cX4_leaves 20 = .ok (.getfield 37, 3) := by decide +kernel
theorem dX4_leaves_23 : decode cX4_leaves 23 = .ok (.iload_n 3, 1) := by decide +kernel
theorem dX4_leaves_24 : decode cX4_leaves 24 = .ok (.iload 4, 2) := by decide +kernel
theorem dX4_leaves_26 : decode cX4_leaves 26 = .ok (.iadd, 1) := by decide +kernel
theorem dX4_leaves_27 : decode cX4_leaves 27 = .ok (.aload_n 0, 1) := by decide +kernel
theorem dX4_leaves_28 : decode cX4_leaves 28 = .ok (.getfield 37, 3) := by decide +kernel
theorem dX4_leaves_31 : decode cX4_leaves 31 = .ok (.iload_n 3, 1) := by decide +kernel
theorem dX4_leaves_32 : decode cX4_leaves 32 = .ok (.bipush 8, 2) := by decide +kernel
theorem dX4_leaves_34 : decode cX4_leaves 34 = .ok (.isub, 1) := by decide +kernel
theorem dX4_leaves_35 : decode cX4_leaves 35 = .ok (.iload 4, 2) := by decide +kernel
theorem dX4_leaves_37 : decode cX4_leaves 37 = .ok (.iadd, 1) := by decide +kernel
theorem dX4_leaves_38 : decode cX4_leaves 38 = .ok (.iaload, 1) := by decide +kernel
theorem dX4_leaves_39 : decode cX4_leaves 39 = .ok (.iastore, 1) := by decide +kernel
theorem dX4_leaves_40 : decode cX4_leaves 40 = .ok (.iinc 4 1, 3) := by decide +kernel
theorem dX4_leaves_43 : decode cX4_leaves 43 = .ok (.goto (-33), 3) := by decide +kernel
theorem dX4_leaves_46 : decode cX4_leaves 46 = .ok (.iconst 0, 1) := by decide +kernel
theorem dX4_leaves_47 : decode cX4_leaves 47 = .ok (.istore 4, 2) := by decide +kernel
theorem dX4_leaves_49 : decode cX4_leaves 49 = .ok (.iload 4, 2) := by decide +kernel
theorem dX4_leaves_51 : decode cX4_leaves 51 = .ok (.aload_n 0, 1) := by decide +kernel
theorem dX4_leaves_52 : decode cX4_leaves 52 = .ok (.getfield 68, 3) := by decide +kernel
theorem dX4_leaves_55 : decode cX4_leaves 55 = .ok (.if_icmp .ge 226, 3) := by decide +kernel
theorem dX4_leaves_58 : decode cX4_leaves 58 = .ok (.aload_n 0, 1) := by decide +kernel
theorem dX4_leaves_59 : decode cX4_leaves 59 = .ok (.getfield 22, 3) := by decide +kernel
theorem dX4_leaves_62 : decode cX4_leaves 62 = .ok (.iload 4, 2) := by decide +kernel
theorem dX4_leaves_64 : decode cX4_leaves 64 = .ok (.iaload, 1) := by decide +kernel
theorem dX4_leaves_65 : decode cX4_leaves 65 = .ok (.istore 5, 2) := by decide +kernel
theorem dX4_leaves_67 : decode cX4_leaves 67 = .ok (.aload_n 0, 1) := by decide +kernel
theorem dX4_leaves_68 : decode cX4_leaves 68 = .ok (.getfield 28, 3) := by decide +kernel
theorem dX4_leaves_71 : decode cX4_leaves 71 = .ok (.iload 4, 2) := by decide +kernel
theorem dX4_leaves_73 : decode cX4_leaves 73 = .ok (.iaload, 1) := by decide +kernel
theorem dX4_leaves_74 : decode cX4_leaves 74 = .ok (.istore 6, 2) := by decide +kernel
theorem dX4_leaves_76 : decode cX4_leaves 76 = .ok (.aload_n 0, 1) := by decide +kernel
theorem dX4_leaves_77 : decode cX4_leaves 77 = .ok (.getfield 19, 3) := by decide +kernel
theorem dX4_leaves_80 : decode cX4_leaves 80 = .ok (.iload 4, 2) := by decide +kernel
theorem dX4_leaves_82 : decode cX4_leaves 82 = .ok (.iaload, 1) := by decide +kernel
theorem dX4_leaves_83 : decode cX4_leaves 83 = .ok (.ifCond .ne 45, 3) := by decide +kernel
theorem dX4_leaves_86 : decode cX4_leaves 86 = .ok (.iload 5, 2) := by decide +kernel
theorem dX4_leaves_88 : decode cX4_leaves 88 = .ok (.iload_n 1, 1) := by decide +kernel
theorem dX4_leaves_89 : decode cX4_leaves 89 = .ok (.if_icmp .ne 39, 3) := by decide +kernel
theorem dX4_leaves_92 : decode cX4_leaves 92 = .ok (.aload_n 0, 1) := by decide +kernel
theorem dX4_leaves_93 : decode cX4_leaves 93 = .ok (.getfield 25, 3) := by decide +kernel
theorem dX4_leaves_96 : decode cX4_leaves 96 = .ok (.iload 4, 2) := by decide +kernel
theorem dX4_leaves_98 : decode cX4_leaves 98 = .ok (.iaload, 1) := by decide +kernel
theorem dX4_leaves_99 : decode cX4_leaves 99 = .ok (.iload_n 2, 1) := by decide +kernel
theorem dX4_leaves_100 : decode cX4_leaves 100 = .ok (.if_icmp .ne 28, 3) := by decide +kernel
theorem dX4_leaves_103 : decode cX4_leaves 103 = .ok (.iload 6, 2) := by decide +kernel
theorem dX4_leaves_105 : decode cX4_leaves 105 = .ok (.iload_n 1, 1) := by decide +kernel
theorem dX4_leaves_106 : decode cX4_leaves 106 = .ok (.if_icmp .le 22, 3) := by decide +kernel
theorem dX4_leaves_109 : decode cX4_leaves 109 = .ok (.aload_n 0, 1) := by decide +kernel
theorem dX4_leaves_110 : decode cX4_leaves 110 = .ok (.getfield 37, 3) := by decide +kernel
theorem dX4_leaves_113 : decode cX4_leaves 113 = .ok (.iload_n 3, 1) := by decide +kernel
theorem dX4_leaves_114 : decode cX4_leaves 114 = .ok (.iload 6, 2) := by decide +kernel
theorem dX4_leaves_116 : decode cX4_leaves 116 = .ok (.iadd, 1) := by decide +kernel
theorem dX4_leaves_117 : decode cX4_leaves 117 = .ok (.dup2, 1) := by decide +kernel
theorem dX4_leaves_118 : decode cX4_leaves 118 = .ok (.iaload, 1) := by decide +kernel
theorem dX4_leaves_119 : decode cX4_leaves 119 = .ok (.aload_n 0, 1) := by decide +kernel
theorem dX4_leaves_120 : decode cX4_leaves 120 = .ok (.getfield 31, 3) := by decide +kernel
theorem dX4_leaves_123 : decode cX4_leaves 123 = .ok (.iload 4, 2) := by decide +kernel
theorem dX4_leaves_125 : decode cX4_leaves 125 = .ok (.iaload, 1) := by decide +kernel
theorem dX4_leaves_126 : decode cX4_leaves 126 = .ok (.iand, 1) := by decide +kernel
theorem dX4_leaves_127 : decode cX4_leaves 127 = .ok (.iastore, 1) := by decide +kernel
theorem dX4_leaves_128 : decode cX4_leaves 128 = .ok (.aload_n 0, 1) := by decide +kernel
theorem dX4_leaves_129 : decode cX4_leaves 129 = .ok (.getfield 19, 3) := by decide +kernel
theorem dX4_leaves_132 : decode cX4_leaves 132 = .ok (.iload 4, 2) := by decide +kernel
theorem dX4_leaves_134 : decode cX4_leaves 134 = .ok (.iaload, 1) := by decide +kernel
theorem dX4_leaves_135 : decode cX4_leaves 135 = .ok (.ifCond .ne 58, 3) := by decide +kernel
theorem dX4_leaves_138 : decode cX4_leaves 138 = .ok (.iload 6, 2) := by decide +kernel
theorem dX4_leaves_140 : decode cX4_leaves 140 = .ok (.iload_n 1, 1) := by decide +kernel
theorem dX4_leaves_141 : decode cX4_leaves 141 = .ok (.if_icmp .ne 52, 3) := by decide +kernel
theorem dX4_leaves_144 : decode cX4_leaves 144 = .ok (.iload 5, 2) := by decide +kernel
theorem dX4_leaves_146 : decode cX4_leaves 146 = .ok (.iload_n 1, 1) := by decide +kernel
theorem dX4_leaves_147 : decode cX4_leaves 147 = .ok (.if_icmp .le 46, 3) := by decide +kernel
theorem dX4_leaves_150 : decode cX4_leaves 150 = .ok (.iload_n 2, 1) := by decide +kernel
theorem dX4_leaves_151 : decode cX4_leaves 151 = .ok (.bipush 6, 2) := by decide +kernel
theorem dX4_leaves_153 : decode cX4_leaves 153 = .ok (.if_icmp .eq 17, 3) := by decide +kernel
theorem dX4_leaves_156 : decode cX4_leaves 156 = .ok (.aload_n 0, 1) := by decide +kernel
theorem dX4_leaves_157 : decode cX4_leaves 157 = .ok (.getfield 31, 3) := by decide +kernel
theorem dX4_leaves_160 : decode cX4_leaves 160 = .ok (.iload 4, 2) := by decide +kernel
theorem dX4_leaves_162 : decode cX4_leaves 162 = .ok (.iaload, 1) := by decide +kernel
theorem dX4_leaves_163 : decode cX4_leaves 163 = .ok (.iload_n 2, 1) := by decide +kernel
theorem dX4_leaves_164 : decode cX4_leaves 164 = .ok (.ishr, 1) := by decide +kernel
theorem dX4_leaves_165 : decode cX4_leaves 165 = .ok (.iconst 1, 1) := by decide +kernel
theorem dX4_leaves_166 : decode cX4_leaves 166 = .ok (.iand, 1) := by decide +kernel
theorem dX4_leaves_167 : decode cX4_leaves 167 = .ok (.ifCond .ne 26, 3) := by decide +kernel
theorem dX4_leaves_170 : decode cX4_leaves 170 = .ok (.aload_n 0, 1) := by decide +kernel
theorem dX4_leaves_171 : decode cX4_leaves 171 = .ok (.getfield 37, 3) := by decide +kernel
theorem dX4_leaves_174 : decode cX4_leaves 174 = .ok (.iload_n 3, 1) := by decide +kernel
theorem dX4_leaves_175 : decode cX4_leaves 175 = .ok (.iload 5, 2) := by decide +kernel
theorem dX4_leaves_177 : decode cX4_leaves 177 = .ok (.iadd, 1) := by decide +kernel
theorem dX4_leaves_178 : decode cX4_leaves 178 = .ok (.dup2, 1) := by decide +kernel
theorem dX4_leaves_179 : decode cX4_leaves 179 = .ok (.iaload, 1) := by decide +kernel
theorem dX4_leaves_180 : decode cX4_leaves 180 = .ok (.iconst 1, 1) := by decide +kernel
theorem dX4_leaves_181 : decode cX4_leaves 181 = .ok (.aload_n 0, 1) := by decide +kernel
theorem dX4_leaves_182 : decode cX4_leaves 182 = .ok (.getfield 25, 3) := by decide +kernel
theorem dX4_leaves_185 : decode cX4_leaves 185 = .ok (.iload 4, 2) := by decide +kernel
theorem dX4_leaves_187 : decode cX4_leaves 187 = .ok (.iaload, 1) := by decide +kernel
theorem dX4_leaves_188 : decode cX4_leaves 188 = .ok (.ishl, 1) := by decide +kernel
theorem dX4_leaves_189 : decode cX4_leaves 189 = .ok (.iconst (-1), 1) := by decide +kernel
theorem dX4_leaves_190 : decode cX4_leaves 190 = .ok (.ixor, 1) := by decide +kernel
theorem dX4_leaves_191 : decode cX4_leaves 191 = .ok (.iand, 1) := by decide +kernel
theorem dX4_leaves_192 : decode cX4_leaves 192 = .ok (.iastore, 1) := by decide +kernel
theorem dX4_leaves_193 : decode cX4_leaves 193 = .ok (.aload_n 0, 1) := by decide +kernel
theorem dX4_leaves_194 : decode cX4_leaves 194 = .ok (.getfield 19, 3) := by decide +kernel
theorem dX4_leaves_197 : decode cX4_leaves 197 = .ok (.iload 4, 2) := by decide +kernel
theorem dX4_leaves_199 : decode cX4_leaves 199 = .ok (.iaload, 1) := by decide +kernel
theorem dX4_leaves_200 : decode cX4_leaves 200 = .ok (.iconst 3, 1) := by decide +kernel
theorem dX4_leaves_201 : decode cX4_leaves 201 = .ok (.if_icmp .ne 33, 3) := by decide +kernel
theorem dX4_leaves_204 : decode cX4_leaves 204 = .ok (.iload_n 2, 1) := by decide +kernel
theorem dX4_leaves_205 : decode cX4_leaves 205 = .ok (.bipush 6, 2) := by decide +kernel
theorem dX4_leaves_207 : decode cX4_leaves 207 = .ok (.if_icmp .eq 27, 3) := by decide +kernel
theorem dX4_leaves_210 : decode cX4_leaves 210 = .ok (.iload 5, 2) := by decide +kernel
theorem dX4_leaves_212 : decode cX4_leaves 212 = .ok (.iload_n 1, 1) := by decide +kernel
theorem dX4_leaves_213 : decode cX4_leaves 213 = .ok (.if_icmp .ne 21, 3) := by decide +kernel
theorem dX4_leaves_216 : decode cX4_leaves 216 = .ok (.aload_n 0, 1) := by decide +kernel
theorem dX4_leaves_217 : decode cX4_leaves 217 = .ok (.getfield 37, 3) := by decide +kernel
theorem dX4_leaves_220 : decode cX4_leaves 220 = .ok (.iload_n 3, 1) := by decide +kernel
theorem dX4_leaves_221 : decode cX4_leaves 221 = .ok (.iload 6, 2) := by decide +kernel
theorem dX4_leaves_223 : decode cX4_leaves 223 = .ok (.iadd, 1) := by decide +kernel
theorem dX4_leaves_224 : decode cX4_leaves 224 = .ok (.dup2, 1) := by decide +kernel
theorem dX4_leaves_225 : decode cX4_leaves 225 = .ok (.iaload, 1) := by decide +kernel
theorem dX4_leaves_226 : decode cX4_leaves 226 = .ok (.iconst 1, 1) := by decide +kernel
theorem dX4_leaves_227 : decode cX4_leaves 227 = .ok (.iload_n 2, 1) := by decide +kernel
theorem dX4_leaves_228 : decode cX4_leaves 228 = .ok (.ishl, 1) := by decide +kernel
theorem dX4_leaves_229 : decode cX4_leaves 229 = .ok (.bipush 64, 2) := by decide +kernel
theorem dX4_leaves_231 : decode cX4_leaves 231 = .ok (.ior, 1) := by decide +kernel
theorem dX4_leaves_232 : decode cX4_leaves 232 = .ok (.iand, 1) := by decide +kernel
theorem dX4_leaves_233 : decode cX4_leaves 233 = .ok (.iastore, 1) := by decide +kernel
theorem dX4_leaves_234 : decode cX4_leaves 234 = .ok (.aload_n 0, 1) := by decide +kernel
theorem dX4_leaves_235 : decode cX4_leaves 235 = .ok (.getfield 19, 3) := by decide +kernel
theorem dX4_leaves_238 : decode cX4_leaves 238 = .ok (.iload 4, 2) := by decide +kernel
theorem dX4_leaves_240 : decode cX4_leaves 240 = .ok (.iaload, 1) := by decide +kernel
theorem dX4_leaves_241 : decode cX4_leaves 241 = .ok (.iconst 3, 1) := by decide +kernel
theorem dX4_leaves_242 : decode cX4_leaves 242 = .ok (.if_icmp .ne 33, 3) := by decide +kernel
theorem dX4_leaves_245 : decode cX4_leaves 245 = .ok (.iload_n 2, 1) := by decide +kernel
theorem dX4_leaves_246 : decode cX4_leaves 246 = .ok (.bipush 6, 2) := by decide +kernel
theorem dX4_leaves_248 : decode cX4_leaves 248 = .ok (.if_icmp .eq 27, 3) := by decide +kernel
theorem dX4_leaves_251 : decode cX4_leaves 251 = .ok (.iload 6, 2) := by decide +kernel
theorem dX4_leaves_253 : decode cX4_leaves 253 = .ok (.iload_n 1, 1) := by decide +kernel
theorem dX4_leaves_254 : decode cX4_leaves 254 = .ok (.if_icmp .ne 21, 3) := by decide +kernel
theorem dX4_leaves_257 : decode cX4_leaves 257 = .ok (.aload_n 0, 1) := by decide +kernel
theorem dX4_leaves_258 : decode cX4_leaves 258 = .ok (.getfield 37, 3) := by decide +kernel
theorem dX4_leaves_261 : decode cX4_leaves 261 = .ok (.iload_n 3, 1) := by decide +kernel
theorem dX4_leaves_262 : decode cX4_leaves 262 = .ok (.iload 5, 2) := by decide +kernel
theorem dX4_leaves_264 : decode cX4_leaves 264 = .ok (.iadd, 1) := by decide +kernel
theorem dX4_leaves_265 : decode cX4_leaves 265 = .ok (.dup2, 1) := by decide +kernel
theorem dX4_leaves_266 : decode cX4_leaves 266 = .ok (.iaload, 1) := by decide +kernel
theorem dX4_leaves_267 : decode cX4_leaves 267 = .ok (.iconst 1, 1) := by decide +kernel
theorem dX4_leaves_268 : decode cX4_leaves 268 = .ok (.iload_n 2, 1) := by decide +kernel
theorem dX4_leaves_269 : decode cX4_leaves 269 = .ok (.ishl, 1) := by decide +kernel
theorem dX4_leaves_270 : decode cX4_leaves 270 = .ok (.bipush 64, 2) := by decide +kernel
theorem dX4_leaves_272 : decode cX4_leaves 272 = .ok (.ior, 1) := by decide +kernel
theorem dX4_leaves_273 : decode cX4_leaves 273 = .ok (.iand, 1) := by decide +kernel
theorem dX4_leaves_274 : decode cX4_leaves 274 = .ok (.iastore, 1) := by decide +kernel
theorem dX4_leaves_275 : decode cX4_leaves 275 = .ok (.iinc 4 1, 3) := by decide +kernel
theorem dX4_leaves_278 : decode cX4_leaves 278 = .ok (.goto (-229), 3) := by decide +kernel
theorem dX4_leaves_281 : decode cX4_leaves 281 = .ok (.iconst 1, 1) := by decide +kernel
theorem dX4_leaves_282 : decode cX4_leaves 282 = .ok (.istore 4, 2) := by decide +kernel
theorem dX4_leaves_284 : decode cX4_leaves 284 = .ok (.iload_n 1, 1) := by decide +kernel
theorem dX4_leaves_285 : decode cX4_leaves 285 = .ok (.iconst 1, 1) := by decide +kernel
theorem dX4_leaves_286 : decode cX4_leaves 286 = .ok (.iadd, 1) := by decide +kernel
theorem dX4_leaves_287 : decode cX4_leaves 287 = .ok (.istore 5, 2) := by decide +kernel
theorem dX4_leaves_289 : decode cX4_leaves 289 = .ok (.iload 5, 2) := by decide +kernel
theorem dX4_leaves_291 : decode cX4_leaves 291 = .ok (.aload_n 0, 1) := by decide +kernel
theorem dX4_leaves_292 : decode cX4_leaves 292 = .ok (.getfield 65, 3) := by decide +kernel
theorem dX4_leaves_295 : decode cX4_leaves 295 = .ok (.if_icmp .ge 33, 3) := by decide +kernel
theorem dX4_leaves_298 : decode cX4_leaves 298 = .ok (.iload 4, 2) := by decide +kernel
theorem dX4_leaves_300 : decode cX4_leaves 300 = .ok (.ifCond .eq 19, 3) := by decide +kernel
theorem dX4_leaves_303 : decode cX4_leaves 303 = .ok (.aload_n 0, 1) := by decide +kernel
theorem dX4_leaves_304 : decode cX4_leaves 304 = .ok (.getfield 37, 3) := by decide +kernel
theorem dX4_leaves_307 : decode cX4_leaves 307 = .ok (.iload_n 3, 1) := by decide +kernel
theorem dX4_leaves_308 : decode cX4_leaves 308 = .ok (.iload 5, 2) := by decide +kernel
theorem dX4_leaves_310 : decode cX4_leaves 310 = .ok (.iadd, 1) := by decide +kernel
theorem dX4_leaves_311 : decode cX4_leaves 311 = .ok (.iaload, 1) := by decide +kernel
theorem dX4_leaves_312 : decode cX4_leaves 312 = .ok (.ifCond .eq 7, 3) := by decide +kernel
theorem dX4_leaves_315 : decode cX4_leaves 315 = .ok (.iconst 1, 1) := by decide +kernel
theorem dX4_leaves_316 : decode cX4_leaves 316 = .ok (.goto 4, 3) := by decide +kernel
theorem dX4_leaves_319 : decode cX4_leaves 319 = .ok (.iconst 0, 1) := by decide +kernel
theorem dX4_leaves_320 : decode cX4_leaves 320 = .ok (.istore 4, 2) := by decide +kernel
theorem dX4_leaves_322 : decode cX4_leaves 322 = .ok (.iinc 5 1, 3) := by decide +kernel
theorem dX4_leaves_325 : decode cX4_leaves 325 = .ok (.goto (-36), 3) := by decide +kernel
theorem dX4_leaves_328 : decode cX4_leaves 328 = .ok (.iload 4, 2) := by decide +kernel
theorem dX4_leaves_330 : decode cX4_leaves 330 = .ok (.ireturn, 1) := by decide +kernel
theorem dX4_option_0 : decode cX4_option 0 = .ok (.aload_n 0, 1) := by decide +kernel
theorem dX4_option_1 : decode cX4_option 1 = .ok (.getfield 34, 3) := by decide +kernel
theorem dX4_option_4 : decode cX4_option 4 = .ok (.iload_n 1, 1) := by decide +kernel
theorem dX4_option_5 : decode cX4_option 5 = .ok (.iaload, 1) := by decide +kernel
theorem dX4_option_6 : decode cX4_option 6 = .ok (.iconst (-1), 1) := by decide +kernel
theorem dX4_option_7 : decode cX4_option 7 = .ok (.if_icmp .ne 8, 3) := by decide +kernel
theorem dX4_option_10 : decode cX4_option 10 = .ok (.bipush 6, 2) := by decide +kernel
theorem dX4_option_12 : decode cX4_option 12 = .ok (.goto 28, 3) := by decide +kernel
theorem dX4_option_15 : decode cX4_option 15 = .ok (.aload_n 0, 1) := by decide +kernel
theorem dX4_option_16 : decode cX4_option 16 = .ok (.getfield 34, 3) := by decide +kernel
theorem dX4_option_19 : decode cX4_option 19 = .ok (.iload_n 1, 1) := by decide +kernel
theorem dX4_option_20 : decode cX4_option 20 = .ok (.iaload, 1) := by decide +kernel
theorem dX4_option_21 : decode cX4_option 21 = .ok (.aload_n 0, 1) := by decide +kernel
theorem dX4_option_22 : decode cX4_option 22 = .ok (.getfield 7, 3) := by decide +kernel
theorem dX4_option_25 : decode cX4_option 25 = .ok (.iload_n 1, 1) := by decide +kernel
theorem dX4_option_26 : decode cX4_option 26 = .ok (.iaload, 1) := by decide +kernel
theorem dX4_option_27 : decode cX4_option 27 = .ok (.if_icmp .ge 12, 3) := by decide +kernel
theorem dX4_option_30 : decode cX4_option 30 = .ok (.aload_n 0, 1) := by decide +kernel
theorem dX4_option_31 : decode cX4_option 31 = .ok (.getfield 34, 3) := by decide +kernel
theorem dX4_option_34 : decode cX4_option 34 = .ok (.iload_n 1, 1) := by decide +kernel
theorem dX4_option_35 : decode cX4_option 35 = .ok (.iaload, 1) := by decide +kernel
theorem dX4_option_36 : decode cX4_option 36 = .ok (.goto 4, 3) := by decide +kernel
theorem dX4_option_39 : decode cX4_option 39 = .ok (.iconst (-1), 1) := by decide +kernel
theorem dX4_option_40 : decode cX4_option 40 = .ok (.istore_n 3, 1) := by decide +kernel
theorem dX4_option_41 : decode cX4_option 41 = .ok (.iload_n 2, 1) := by decide +kernel
theorem dX4_option_42 : decode cX4_option 42 = .ok (.ifCond .ne 5, 3) := by decide +kernel
theorem dX4_option_45 : decode cX4_option 45 = .ok (.iload_n 3, 1) := by decide +kernel
theorem dX4_option_46 : decode cX4_option 46 = .ok (.ireturn, 1) := by decide +kernel
theorem dX4_option_47 : decode cX4_option 47 = .ok (.iload_n 2, 1) := by decide +kernel
theorem dX4_option_48 : decode cX4_option 48 = .ok (.aload_n 0, 1) := by decide +kernel
theorem dX4_option_49 : decode cX4_option 49 = .ok (.getfield 7, 3) := by decide +kernel
theorem dX4_option_52 : decode cX4_option 52 = .ok (.iload_n 1, 1) := by decide +kernel
theorem dX4_option_53 : decode cX4_option 53 = .ok (.iaload, 1) := by decide +kernel
theorem dX4_option_54 : decode cX4_option 54 = .ok (.if_icmp .gt 14, 3) := by decide +kernel
theorem dX4_option_57 : decode cX4_option 57 = .ok (.aload_n 0, 1) := by decide +kernel
theorem dX4_option_58 : decode cX4_option 58 = .ok (.getfield 7, 3) := by decide +kernel
theorem dX4_option_61 : decode cX4_option 61 = .ok (.iload_n 1, 1) := by decide +kernel
theorem dX4_option_62 : decode cX4_option 62 = .ok (.iaload, 1) := by decide +kernel
theorem dX4_option_63 : decode cX4_option 63 = .ok (.iload_n 2, 1) := by decide +kernel
theorem dX4_option_64 : decode cX4_option 64 = .ok (.isub, 1) := by decide +kernel
theorem dX4_option_65 : decode cX4_option 65 = .ok (.goto 5, 3) := by decide +kernel
theorem dX4_option_68 : decode cX4_option 68 = .ok (.bipush 6, 2) := by decide +kernel
theorem dX4_option_70 : decode cX4_option 70 = .ok (.istore 4, 2) := by decide +kernel
theorem dX4_option_72 : decode cX4_option 72 = .ok (.iload 4, 2) := by decide +kernel
theorem dX4_option_74 : decode cX4_option 74 = .ok (.iload_n 3, 1) := by decide +kernel
theorem dX4_option_75 : decode cX4_option 75 = .ok (.if_icmp .ne 7, 3) := by decide +kernel
theorem dX4_option_78 : decode cX4_option 78 = .ok (.iconst (-1), 1) := by decide +kernel
theorem dX4_option_79 : decode cX4_option 79 = .ok (.goto 5, 3) := by decide +kernel
theorem dX4_option_82 : decode cX4_option 82 = .ok (.iload 4, 2) := by decide +kernel
theorem dX4_option_84 : decode cX4_option 84 = .ok (.ireturn, 1) := by decide +kernel
set_option maxRecDepth 20000 in
theorem ggX4_seek_X4_option : GoodIn wsX4_seek wsX4_option := goodIn_ca (goodIn_r _ [18, 8, 5, 29, 30, 31, 32, 33, 34, 35, 36, 37, 38, 39, 40, 41, 42, 43, 44, 45, 46, 47, 48, 49, 50, 51, 52, 53] (by decide +kernel) (by decide +kernel)) (goodIn_sub (fun _ h => List.mem_cons_of_mem _ (List.mem_append_right _ h)) (by decide +kernel))
set_option maxRecDepth 20000 in
theorem gX4_seek_X4_option : GoodIn wsX4_seek (wsV RX4 81 RX4 yX4_option wsX4_option) := goodIn_app (goodIn_of _ (by decide +kernel)) ggX4_seek_X4_option
set_option maxRecDepth 20000 in
theorem ggX4_seek_X4_leaves : GoodIn wsX4_seek wsX4_leaves := goodIn_ca (goodIn_r _ [22, 4, 6, 23, 24, 25, 26, 27, 28, 29, 30, 31, 32, 33, 34, 35, 36, 37, 38, 39, 40, 41, 42, 43, 44, 45, 46, 47, 48, 49, 50, 51, 52, 53] (by decide +kernel) (by decide +kernel)) (goodIn_sub (fun _ h => List.mem_cons_of_mem _ (List.mem_append_right _ h)) (by decide +kernel))
set_option maxRecDepth 20000 in
theorem gX4_seek_X4_leaves : GoodIn wsX4_seek (wsV RX4 85 RX4 yX4_leaves wsX4_leaves) := goodIn_app (goodIn_of _ (by decide +kernel)) ggX4_seek_X4_leaves
theorem dX4_seek_0 : decode cX4_seek 0 = .ok (.iconst 0, 1) := by decide +kernel
theorem dX4_seek_1 : decode cX4_seek 1 = .ok (.istore_n 1, 1) := by decide +kernel
theorem dX4_seek_2 : decode cX4_seek 2 = .ok (.aload_n 0, 1) := by decide +kernel
theorem dX4_seek_3 : decode cX4_seek 3 = .ok (.getfield 52, 3) := by decide +kernel
theorem dX4_seek_6 : decode cX4_seek 6 = .ok (.iconst 0, 1) := by decide +kernel
theorem dX4_seek_7 : decode cX4_seek 7 = .ok (.iconst 0, 1) := by decide +kernel
theorem dX4_seek_8 : decode cX4_seek 8 = .ok (.iastore, 1) := by decide +kernel
theorem dX4_seek_9 : decode cX4_seek 9 = .ok (.aload_n 0, 1) := by decide +kernel
theorem dX4_seek_10 : decode cX4_seek 10 = .ok (.getfield 55, 3) := by decide +kernel
theorem dX4_seek_13 : decode cX4_seek 13 = .ok (.iconst 0, 1) := by decide +kernel
theorem dX4_seek_14 : decode cX4_seek 14 = .ok (.iconst 0, 1) := by decide +kernel
theorem dX4_seek_15 : decode cX4_seek 15 = .ok (.iastore, 1) := by decide +kernel
theorem dX4_seek_16 : decode cX4_seek 16 = .ok (.aload_n 0, 1) := by decide +kernel
theorem dX4_seek_17 : decode cX4_seek 17 = .ok (.getfield 58, 3) := by decide +kernel
theorem dX4_seek_20 : decode cX4_seek 20 = .ok (.iconst 0, 1) := by decide +kernel
theorem dX4_seek_21 : decode cX4_seek 21 = .ok (.iconst 0, 1) := by decide +kernel
theorem dX4_seek_22 : decode cX4_seek 22 = .ok (.iastore, 1) := by decide +kernel
theorem dX4_seek_23 : decode cX4_seek 23 = .ok (.iload_n 1, 1) := by decide +kernel
theorem dX4_seek_24 : decode cX4_seek 24 = .ok (.ifCond .lt 235, 3) := by decide +kernel
theorem dX4_seek_27 : decode cX4_seek 27 = .ok (.iload_n 1, 1) := by decide +kernel
theorem dX4_seek_28 : decode cX4_seek 28 = .ok (.aload_n 0, 1) := by decide +kernel
theorem dX4_seek_29 : decode cX4_seek 29 = .ok (.getfield 65, 3) := by decide +kernel
theorem dX4_seek_32 : decode cX4_seek 32 = .ok (.if_icmp .ge 227, 3) := by decide +kernel
theorem dX4_seek_35 : decode cX4_seek 35 = .ok (.aload_n 0, 1) := by decide +kernel
theorem dX4_seek_36 : decode cX4_seek 36 = .ok (.getfield 52, 3) := by decide +kernel
theorem dX4_seek_39 : decode cX4_seek 39 = .ok (.iload_n 1, 1) := by decide +kernel
theorem dX4_seek_40 : decode cX4_seek 40 = .ok (.iaload, 1) := by decide +kernel
theorem dX4_seek_41 : decode cX4_seek 41 = .ok (.istore_n 2, 1) := by decide +kernel
theorem dX4_seek_42 : decode cX4_seek 42 = .ok (.aload_n 0, 1) := by decide +kernel
theorem dX4_seek_43 : decode cX4_seek 43 = .ok (.getfield 52, 3) := by decide +kernel
theorem dX4_seek_46 : decode cX4_seek 46 = .ok (.iload_n 1, 1) := by decide +kernel
theorem dX4_seek_47 : decode cX4_seek 47 = .ok (.dup2, 1) := by decide +kernel
theorem dX4_seek_48 : decode cX4_seek 48 = .ok (.iaload, 1) := by decide +kernel
theorem dX4_seek_49 : decode cX4_seek 49 = .ok (.iconst 1, 1) := by decide +kernel
theorem dX4_seek_50 : decode cX4_seek 50 = .ok (.iadd, 1) := by decide +kernel
theorem dX4_seek_51 : decode cX4_seek 51 = .ok (.iastore, 1) := by decide +kernel
theorem dX4_seek_52 : decode cX4_seek 52 = .ok (.iload_n 2, 1) := by decide +kernel
theorem dX4_seek_53 : decode cX4_seek 53 = .ok (.aload_n 0, 1) := by decide +kernel
theorem dX4_seek_54 : decode cX4_seek 54 = .ok (.getfield 7, 3) := by decide +kernel
theorem dX4_seek_57 : decode cX4_seek 57 = .ok (.iload_n 1, 1) := by decide +kernel
theorem dX4_seek_58 : decode cX4_seek 58 = .ok (.iaload, 1) := by decide +kernel
theorem dX4_seek_59 : decode cX4_seek 59 = .ok (.iconst 1, 1) := by decide +kernel
theorem dX4_seek_60 : decode cX4_seek 60 = .ok (.iadd, 1) := by decide +kernel
theorem dX4_seek_61 : decode cX4_seek 61 = .ok (.if_icmp .le 9, 3) := by decide +kernel
theorem dX4_seek_64 : decode cX4_seek 64 = .ok (.iinc 1 (-1), 3) := by decide +kernel
theorem dX4_seek_67 : decode cX4_seek 67 = .ok (.goto (-44), 3) := by decide +kernel
theorem dX4_seek_70 : decode cX4_seek 70 = .ok (.aload_n 0, 1) := by decide +kernel
theorem dX4_seek_71 : decode cX4_seek 71 = .ok (.iload_n 1, 1) := by decide +kernel
theorem dX4_seek_72 : decode cX4_seek 72 = .ok (.iload_n 2, 1) := by decide +kernel
theorem dX4_seek_73 : decode cX4_seek 73 = .ok (.invokevirtual 81, 3) := by decide +kernel
theorem dX4_seek_76 : decode cX4_seek 76 = .ok (.istore_n 3, 1) := by decide +kernel
theorem dX4_seek_77 : decode cX4_seek 77 = .ok (.iload_n 3, 1) := by decide +kernel
theorem dX4_seek_78 : decode cX4_seek 78 = .ok (.iconst (-1), 1) := by decide +kernel
theorem dX4_seek_79 : decode cX4_seek 79 = .ok (.if_icmp .eq (-56), 3) := by decide +kernel
theorem dX4_seek_82 : decode cX4_seek 82 = .ok (.aload_n 0, 1) := by decide +kernel
theorem dX4_seek_83 : decode cX4_seek 83 = .ok (.getfield 37, 3) := by decide +kernel
theorem dX4_seek_86 : decode cX4_seek 86 = .ok (.bipush 8, 2) := by decide +kernel
theorem dX4_seek_88 : decode cX4_seek 88 = .ok (.iload_n 1, 1) := by decide +kernel
theorem dX4_seek_89 : decode cX4_seek 89 = .ok (.imul, 1) := by decide +kernel
theorem dX4_seek_90 : decode cX4_seek 90 = .ok (.iload_n 1, 1) := by decide +kernel
theorem dX4_seek_91 : decode cX4_seek 91 = .ok (.iadd, 1) := by decide +kernel
theorem dX4_seek_92 : decode cX4_seek 92 = .ok (.iaload, 1) := by decide +kernel
theorem dX4_seek_93 : decode cX4_seek 93 = .ok (.iload_n 3, 1) := by decide +kernel
theorem dX4_seek_94 : decode cX4_seek 94 = .ok (.ishr, 1) := by decide +kernel
theorem dX4_seek_95 : decode cX4_seek 95 = .ok (.iconst 1, 1) := by decide +kernel
theorem dX4_seek_96 : decode cX4_seek 96 = .ok (.iand, 1) := by decide +kernel
theorem dX4_seek_97 : decode cX4_seek 97 = .ok (.ifCond .eq (-74), 3) := by decide +kernel
theorem dX4_seek_100 : decode cX4_seek 100 = .ok (.aload_n 0, 1) := by decide +kernel
theorem dX4_seek_101 : decode cX4_seek 101 = .ok (.iload_n 1, 1) := by decide +kernel
theorem dX4_seek_102 : decode cX4_seek 102 = .ok (.iload_n 3, 1) := by decide +kernel
theorem dX4_seek_103 : decode cX4_seek 103 = .ok (.invokevirtual 85, 3) := by decide +kernel
theorem dX4_seek_106 : decode cX4_seek 106 = .ok (.ifCond .ne 6, 3) := by decide +kernel
theorem dX4_seek_109 : decode cX4_seek 109 = .ok (.goto (-86), 3) := by decide +kernel
theorem dX4_seek_112 : decode cX4_seek 112 = .ok (.aload_n 0, 1) := by decide +kernel
theorem dX4_seek_113 : decode cX4_seek 113 = .ok (.getfield 40, 3) := by decide +kernel
theorem dX4_seek_116 : decode cX4_seek 116 = .ok (.iload_n 1, 1) := by decide +kernel
theorem dX4_seek_117 : decode cX4_seek 117 = .ok (.iload_n 3, 1) := by decide +kernel
theorem dX4_seek_118 : decode cX4_seek 118 = .ok (.iastore, 1) := by decide +kernel
theorem dX4_seek_119 : decode cX4_seek 119 = .ok (.iload_n 3, 1) := by decide +kernel
theorem dX4_seek_120 : decode cX4_seek 120 = .ok (.bipush 6, 2) := by decide +kernel
theorem dX4_seek_122 : decode cX4_seek 122 = .ok (.if_icmp .ne 21, 3) := by decide +kernel
theorem dX4_seek_125 : decode cX4_seek 125 = .ok (.aload_n 0, 1) := by decide +kernel
theorem dX4_seek_126 : decode cX4_seek 126 = .ok (.getfield 34, 3) := by decide +kernel
theorem dX4_seek_129 : decode cX4_seek 129 = .ok (.iload_n 1, 1) := by decide +kernel
theorem dX4_seek_130 : decode cX4_seek 130 = .ok (.iaload, 1) := by decide +kernel
theorem dX4_seek_131 : decode cX4_seek 131 = .ok (.iconst (-1), 1) := by decide +kernel
theorem dX4_seek_132 : decode cX4_seek 132 = .ok (.if_icmp .ne 7, 3) := by decide +kernel
theorem dX4_seek_135 : decode cX4_seek 135 = .ok (.iconst 1, 1) := by decide +kernel
theorem dX4_seek_136 : decode cX4_seek 136 = .ok (.goto 22, 3) := by decide +kernel
theorem dX4_seek_139 : decode cX4_seek 139 = .ok (.iconst 0, 1) := by decide +kernel
theorem dX4_seek_140 : decode cX4_seek 140 = .ok (.goto 18, 3) := by decide +kernel
theorem dX4_seek_143 : decode cX4_seek 143 = .ok (.iload_n 3, 1) := by decide +kernel
theorem dX4_seek_144 : decode cX4_seek 144 = .ok (.aload_n 0, 1) := by decide +kernel
theorem dX4_seek_145 : decode cX4_seek 145 = .ok (.getfield 34, 3) := by decide +kernel
theorem dX4_seek_148 : decode cX4_seek 148 = .ok (.iload_n 1, 1) := by decide +kernel
theorem dX4_seek_149 : decode cX4_seek 149 = .ok (.iaload, 1) := by decide +kernel
theorem dX4_seek_150 : decode cX4_seek 150 = .ok (.if_icmp .ne 7, 3) := by decide +kernel
theorem dX4_seek_153 : decode cX4_seek 153 = .ok (.iconst 1, 1) := by decide +kernel
theorem dX4_seek_154 : decode cX4_seek 154 = .ok (.goto 4, 3) := by decide +kernel
theorem dX4_seek_157 : decode cX4_seek 157 = .ok (.iconst 0, 1) := by decide +kernel
theorem dX4_seek_158 : decode cX4_seek 158 = .ok (.istore 4, 2) := by decide +kernel
theorem dX4_seek_160 : decode cX4_seek 160 = .ok (.aload_n 0, 1) := by decide +kernel
theorem dX4_seek_161 : decode cX4_seek 161 = .ok (.getfield 55, 3) := by decide +kernel
theorem dX4_seek_164 : decode cX4_seek 164 = .ok (.iload_n 1, 1) := by decide +kernel
theorem dX4_seek_165 : decode cX4_seek 165 = .ok (.iaload, 1) := by decide +kernel
theorem dX4_seek_166 : decode cX4_seek 166 = .ok (.iload 4, 2) := by decide +kernel
theorem dX4_seek_168 : decode cX4_seek 168 = .ok (.ifCond .eq 7, 3) := by decide +kernel
theorem dX4_seek_171 : decode cX4_seek 171 = .ok (.iconst 0, 1) := by decide +kernel
theorem dX4_seek_172 : decode cX4_seek 172 = .ok (.goto 4, 3) := by decide +kernel
theorem dX4_seek_175 : decode cX4_seek 175 = .ok (.iconst 1, 1) := by decide +kernel
theorem dX4_seek_176 : decode cX4_seek 176 = .ok (.iadd, 1) := by decide +kernel
theorem dX4_seek_177 : decode cX4_seek 177 = .ok (.istore 5, 2) := by decide +kernel
theorem dX4_seek_179 : decode cX4_seek 179 = .ok (.aload_n 0, 1) := by decide +kernel
theorem dX4_seek_180 : decode cX4_seek 180 = .ok (.getfield 58, 3) := by decide +kernel
theorem dX4_seek_183 : decode cX4_seek 183 = .ok (.iload_n 1, 1) := by decide +kernel
theorem dX4_seek_184 : decode cX4_seek 184 = .ok (.iaload, 1) := by decide +kernel
theorem dX4_seek_185 : decode cX4_seek 185 = .ok (.iload_n 3, 1) := by decide +kernel
theorem dX4_seek_186 : decode cX4_seek 186 = .ok (.bipush 6, 2) := by decide +kernel
theorem dX4_seek_188 : decode cX4_seek 188 = .ok (.if_icmp .ge 17, 3) := by decide +kernel
theorem dX4_seek_191 : decode cX4_seek 191 = .ok (.iload_n 3, 1) := by decide +kernel
theorem dX4_seek_192 : decode cX4_seek 192 = .ok (.aload_n 0, 1) := by decide +kernel
theorem dX4_seek_193 : decode cX4_seek 193 = .ok (.getfield 34, 3) := by decide +kernel
theorem dX4_seek_196 : decode cX4_seek 196 = .ok (.iload_n 1, 1) := by decide +kernel
theorem dX4_seek_197 : decode cX4_seek 197 = .ok (.iaload, 1) := by decide +kernel
theorem dX4_seek_198 : decode cX4_seek 198 = .ok (.if_icmp .ge 7, 3) := by decide +kernel
theorem dX4_seek_201 : decode cX4_seek 201 = .ok (.iconst 1, 1) := by decide +kernel
theorem dX4_seek_202 : decode cX4_seek 202 = .ok (.goto 4, 3) := by decide +kernel
theorem dX4_seek_205 : decode cX4_seek 205 = .ok (.iconst 0, 1) := by decide +kernel
theorem dX4_seek_206 : decode cX4_seek 206 = .ok (.iadd, 1) := by decide +kernel
theorem dX4_seek_207 : decode cX4_seek 207 = .ok (.istore 6, 2) := by decide +kernel
theorem dX4_seek_209 : decode cX4_seek 209 = .ok (.iload 5, 2) := by decide +kernel
theorem dX4_seek_211 : decode cX4_seek 211 = .ok (.aload_n 0, 1) := by decide +kernel
theorem dX4_seek_212 : decode cX4_seek 212 = .ok (.getfield 89, 3) := by decide +kernel
theorem dX4_seek_215 : decode cX4_seek 215 = .ok (.if_icmp .gt (-192), 3) := by decide +kernel
theorem dX4_seek_218 : decode cX4_seek 218 = .ok (.iload 6, 2) := by decide +kernel
theorem dX4_seek_220 : decode cX4_seek 220 = .ok (.aload_n 0, 1) := by decide +kernel
theorem dX4_seek_221 : decode cX4_seek 221 = .ok (.getfield 92, 3) := by decide +kernel
theorem dX4_seek_224 : decode cX4_seek 224 = .ok (.if_icmp .le 6, 3) := by decide +kernel
theorem dX4_seek_227 : decode cX4_seek 227 = .ok (.goto (-204), 3) := by decide +kernel
theorem dX4_seek_230 : decode cX4_seek 230 = .ok (.iinc 1 1, 3) := by decide +kernel
theorem dX4_seek_233 : decode cX4_seek 233 = .ok (.aload_n 0, 1) := by decide +kernel
theorem dX4_seek_234 : decode cX4_seek 234 = .ok (.getfield 52, 3) := by decide +kernel
theorem dX4_seek_237 : decode cX4_seek 237 = .ok (.iload_n 1, 1) := by decide +kernel
theorem dX4_seek_238 : decode cX4_seek 238 = .ok (.iconst 0, 1) := by decide +kernel
theorem dX4_seek_239 : decode cX4_seek 239 = .ok (.iastore, 1) := by decide +kernel
theorem dX4_seek_240 : decode cX4_seek 240 = .ok (.aload_n 0, 1) := by decide +kernel
theorem dX4_seek_241 : decode cX4_seek 241 = .ok (.getfield 55, 3) := by decide +kernel
theorem dX4_seek_244 : decode cX4_seek 244 = .ok (.iload_n 1, 1) := by decide +kernel
theorem dX4_seek_245 : decode cX4_seek 245 = .ok (.iload 5, 2) := by decide +kernel
theorem dX4_seek_247 : decode cX4_seek 247 = .ok (.iastore, 1) := by decide +kernel
theorem dX4_seek_248 : decode cX4_seek 248 = .ok (.aload_n 0, 1) := by decide +kernel
theorem dX4_seek_249 : decode cX4_seek 249 = .ok (.getfield 58, 3) := by decide +kernel
theorem dX4_seek_252 : decode cX4_seek 252 = .ok (.iload_n 1, 1) := by decide +kernel
theorem dX4_seek_253 : decode cX4_seek 253 = .ok (.iload 6, 2) := by decide +kernel
theorem dX4_seek_255 : decode cX4_seek 255 = .ok (.iastore, 1) := by decide +kernel
theorem dX4_seek_256 : decode cX4_seek 256 = .ok (.goto (-233), 3) := by decide +kernel
theorem dX4_seek_259 : decode cX4_seek 259 = .ok (.iload_n 1, 1) := by decide +kernel
theorem dX4_seek_260 : decode cX4_seek 260 = .ok (.ifCond .ge 4, 3) := by decide +kernel
theorem dX4_seek_263 : decode cX4_seek 263 = .ok (.return_, 1) := by decide +kernel
theorem dX4_seek_264 : decode cX4_seek 264 = .ok (.aload_n 0, 1) := by decide +kernel
theorem dX4_seek_265 : decode cX4_seek 265 = .ok (.iconst 1, 1) := by decide +kernel
theorem dX4_seek_266 : decode cX4_seek 266 = .ok (.putfield 95, 3) := by decide +kernel
theorem dX4_seek_269 : decode cX4_seek 269 = .ok (.aload_n 0, 1) := by decide +kernel
theorem dX4_seek_270 : decode cX4_seek 270 = .ok (.aload_n 0, 1) := by decide +kernel
theorem dX4_seek_271 : decode cX4_seek 271 = .ok (.getfield 55, 3) := by decide +kernel
theorem dX4_seek_274 : decode cX4_seek 274 = .ok (.iload_n 1, 1) := by decide +kernel
theorem dX4_seek_275 : decode cX4_seek 275 = .ok (.iaload, 1) := by decide +kernel
theorem dX4_seek_276 : decode cX4_seek 276 = .ok (.putfield 99, 3) := by decide +kernel
theorem dX4_seek_279 : decode cX4_seek 279 = .ok (.iconst 0, 1) := by decide +kernel
theorem dX4_seek_280 : decode cX4_seek 280 = .ok (.istore_n 2, 1) := by decide +kernel
theorem dX4_seek_281 : decode cX4_seek 281 = .ok (.iload_n 2, 1) := by decide +kernel
theorem dX4_seek_282 : decode cX4_seek 282 = .ok (.aload_n 0, 1) := by decide +kernel
theorem dX4_seek_283 : decode cX4_seek 283 = .ok (.getfield 65, 3) := by decide +kernel
theorem dX4_seek_286 : decode cX4_seek 286 = .ok (.if_icmp .ge 21, 3) := by decide +kernel
theorem dX4_seek_289 : decode cX4_seek 289 = .ok (.aload_n 0, 1) := by decide +kernel
theorem dX4_seek_290 : decode cX4_seek 290 = .ok (.getfield 43, 3) := by decide +kernel
theorem dX4_seek_293 : decode cX4_seek 293 = .ok (.iload_n 2, 1) := by decide +kernel
theorem dX4_seek_294 : decode cX4_seek 294 = .ok (.aload_n 0, 1) := by decide +kernel
theorem dX4_seek_295 : decode cX4_seek 295 = .ok (.getfield 40, 3) := by decide +kernel
theorem dX4_seek_298 : decode cX4_seek 298 = .ok (.iload_n 2, 1) := by decide +kernel
theorem dX4_seek_299 : decode cX4_seek 299 = .ok (.iaload, 1) := by decide +kernel
theorem dX4_seek_300 : decode cX4_seek 300 = .ok (.iastore, 1) := by decide +kernel
theorem dX4_seek_301 : decode cX4_seek 301 = .ok (.iinc 2 1, 3) := by decide +kernel
theorem dX4_seek_304 : decode cX4_seek 304 = .ok (.goto (-23), 3) := by decide +kernel
theorem dX4_seek_307 : decode cX4_seek 307 = .ok (.return_, 1) := by decide +kernel
set_option maxRecDepth 20000 in
theorem ggX4_look_X4_begin : GoodIn wsX4_look wsX4_begin := goodIn_ca (goodIn_r _ [10, 4, 5, 11, 12, 13, 14, 15, 16, 17, 18, 38, 39, 40, 41, 42, 43, 44, 45, 46, 47, 48, 49, 50, 51, 52, 53, 54, 55, 56, 57, 58, 59, 60, 61, 62] (by decide +kernel) (by decide +kernel)) (goodIn_sub (fun _ h => List.mem_cons_of_mem _ (List.mem_append_right _ h)) (by decide +kernel))
set_option maxRecDepth 20000 in
theorem gX4_look_X4_begin : GoodIn wsX4_look (wsV RX4 102 RX4 yX4_begin wsX4_begin) := goodIn_app (goodIn_of _ (by decide +kernel)) ggX4_look_X4_begin
set_option maxRecDepth 20000 in
theorem ggX4_look_X4_seek : GoodIn wsX4_look wsX4_seek := goodIn_ca (goodIn_r _ [22, 23, 24, 25, 4, 11, 5, 26, 27, 2, 3, 1, 28, 29, 30, 31, 32, 9, 33, 34, 35, 36, 37, 13, 14, 17, 15, 18, 16, 38, 39, 40, 41, 42, 43, 44, 45, 46, 47, 48, 49, 50, 51, 52, 53, 54, 55, 56, 57, 58, 59, 60, 61, 62] (by decide +kernel) (by decide +kernel)) (goodIn_sub (fun _ h => List.mem_cons_of_mem _ (List.mem_append_right _ h)) (by decide +kernel))
set_option maxRecDepth 20000 in
theorem gX4_look_X4_seek : GoodIn wsX4_look (wsV RX4 105 RX4 yX4_seek wsX4_seek) := goodIn_app (goodIn_of _ (by decide +kernel)) ggX4_look_X4_seek
theorem dX4_look_0 : decode cX4_look 0 = .ok (.aload_n 0, 1) := by decide +kernel
theorem dX4_look_1 : decode cX4_look 1 = .ok (.iconst 0, 1) := by decide +kernel
theorem dX4_look_2 : decode cX4_look 2 = .ok (.putfield 95, 3) := by decide +kernel
theorem dX4_look_5 : decode cX4_look 5 = .ok (.aload_n 0, 1) := by decide +kernel
theorem dX4_look_6 : decode cX4_look 6 = .ok (.iload_n 1, 1) := by decide +kernel
theorem dX4_look_7 : decode cX4_look 7 = .ok (.putfield 89, 3) := by decide +kernel
theorem dX4_look_10 : decode cX4_look 10 = .ok (.aload_n 0, 1) := by decide +kernel
theorem dX4_look_11 : decode cX4_look 11 = .ok (.iload_n 2, 1) := by decide +kernel
theorem dX4_look_12 : decode cX4_look 12 = .ok (.putfield 92, 3) := by decide +kernel
theorem dX4_look_15 : decode cX4_look 15 = .ok (.aload_n 0, 1) := by decide +kernel
theorem dX4_look_16 : decode cX4_look 16 = .ok (.invokevirtual 102, 3) := by decide +kernel
theorem dX4_look_19 : decode cX4_look 19 = .ok (.iconst 1, 1) := by decide +kernel
theorem dX4_look_20 : decode cX4_look 20 = .ok (.istore_n 3, 1) := by decide +kernel
theorem dX4_look_21 : decode cX4_look 21 = .ok (.iconst 0, 1) := by decide +kernel
theorem dX4_look_22 : decode cX4_look 22 = .ok (.istore 4, 2) := by decide +kernel
theorem dX4_look_24 : decode cX4_look 24 = .ok (.iload 4, 2) := by decide +kernel
theorem dX4_look_26 : decode cX4_look 26 = .ok (.aload_n 0, 1) := by decide +kernel
theorem dX4_look_27 : decode cX4_look 27 = .ok (.getfield 65, 3) := by decide +kernel
theorem dX4_look_30 : decode cX4_look 30 = .ok (.if_icmp .ge 29, 3) := by decide +kernel
theorem dX4_look_33 : decode cX4_look 33 = .ok (.iload_n 3, 1) := by decide +kernel
theorem dX4_look_34 : decode cX4_look 34 = .ok (.ifCond .eq 17, 3) := by decide +kernel
theorem dX4_look_37 : decode cX4_look 37 = .ok (.aload_n 0, 1) := by decide +kernel
theorem dX4_look_38 : decode cX4_look 38 = .ok (.getfield 37, 3) := by decide +kernel
theorem dX4_look_41 : decode cX4_look 41 = .ok (.iload 4, 2) := by decide +kernel
theorem dX4_look_43 : decode cX4_look 43 = .ok (.iaload, 1) := by decide +kernel
theorem dX4_look_44 : decode cX4_look 44 = .ok (.ifCond .eq 7, 3) := by decide +kernel
theorem dX4_look_47 : decode cX4_look 47 = .ok (.iconst 1, 1) := by decide +kernel
theorem dX4_look_48 : decode cX4_look 48 = .ok (.goto 4, 3) := by decide +kernel
theorem dX4_look_51 : decode cX4_look 51 = .ok (.iconst 0, 1) := by decide +kernel
theorem dX4_look_52 : decode cX4_look 52 = .ok (.istore_n 3, 1) := by decide +kernel
theorem dX4_look_53 : decode cX4_look 53 = .ok (.iinc 4 1, 3) := by decide +kernel
theorem dX4_look_56 : decode cX4_look 56 = .ok (.goto (-32), 3) := by decide +kernel
theorem dX4_look_59 : decode cX4_look 59 = .ok (.iload_n 3, 1) := by decide +kernel
theorem dX4_look_60 : decode cX4_look 60 = .ok (.ifCond .eq 7, 3) := by decide +kernel
theorem dX4_look_63 : decode cX4_look 63 = .ok (.aload_n 0, 1) := by decide +kernel
theorem dX4_look_64 : decode cX4_look 64 = .ok (.invokevirtual 105, 3) := by decide +kernel
theorem dX4_look_67 : decode cX4_look 67 = .ok (.aload_n 0, 1) := by decide +kernel
theorem dX4_look_68 : decode cX4_look 68 = .ok (.getfield 95, 3) := by decide +kernel
theorem dX4_look_71 : decode cX4_look 71 = .ok (.ireturn, 1) := by decide +kernel
set_option maxRecDepth 20000 in
theorem ggX4_lookForBest_X4_look : GoodIn wsX4_lookForBest wsX4_look := goodIn_ca (goodIn_r _ [5, 6, 7, 8, 9, 10, 11, 12, 13, 4, 14, 15, 16, 17, 18, 19, 20, 21, 22, 23, 24, 25, 26, 27, 28, 29, 30, 31, 32, 33, 34, 35, 36, 37, 38, 39, 40, 41, 42, 43, 44, 45, 46, 47, 48, 49, 50, 51, 52, 53, 54, 55, 56, 57, 58, 59, 60, 61, 62, 63, 64, 65, 66] (by decide +kernel) (by decide +kernel)) (goodIn_sub (fun _ h => List.mem_cons_of_mem _ (List.mem_append_right _ h)) (by decide +kernel))
set_option maxRecDepth 20000 in
theorem gX4_lookForBest_X4_look : GoodIn wsX4_lookForBest (wsV RX4 108 RX4 yX4_look wsX4_look) := goodIn_app (goodIn_of _ (by decide +kernel)) ggX4_lookForBest_X4_look
theorem dX4_lookForBest_0 : decode cX4_lookForBest 0 = .ok (.aload_n 0, 1) := by decide +kernel
theorem dX4_lookForBest_1 : decode cX4_lookForBest 1 = .ok (.bipush 8, 2) := by decide +kernel
theorem dX4_lookForBest_3 : decode cX4_lookForBest 3 = .ok (.bipush 8, 2) := by decide +kernel
theorem dX4_lookForBest_5 : decode cX4_lookForBest 5 = .ok (.invokevirtual 108, 3) := by decide +kernel
theorem dX4_lookForBest_8 : decode cX4_lookForBest 8 = .ok (.ifCond .ne 5, 3) := by decide +kernel
theorem dX4_lookForBest_11 : decode cX4_lookForBest 11 = .ok (.iconst 0, 1) := by decide +kernel
theorem dX4_lookForBest_12 : decode cX4_lookForBest 12 = .ok (.ireturn, 1) := by decide +kernel
theorem dX4_lookForBest_13 : decode cX4_lookForBest 13 = .ok (.iconst 0, 1) := by decide +kernel
theorem dX4_lookForBest_14 : decode cX4_lookForBest 14 = .ok (.istore_n 1, 1) := by decide +kernel
theorem dX4_lookForBest_15 : decode cX4_lookForBest 15 = .ok (.iload_n 1, 1) := by decide +kernel
theorem dX4_lookForBest_16 : decode cX4_lookForBest 16 = .ok (.bipush 8, 2) := by decide +kernel
theorem dX4_lookForBest_18 : decode cX4_lookForBest 18 = .ok (.if_icmp .gt 41, 3) := by decide +kernel
theorem dX4_lookForBest_21 : decode cX4_lookForBest 21 = .ok (.aload_n 0, 1) := by decide +kernel
theorem dX4_lookForBest_22 : decode cX4_lookForBest 22 = .ok (.iload_n 1, 1) := by decide +kernel
theorem dX4_lookForBest_23 : decode cX4_lookForBest 23 = .ok (.bipush 8, 2) := by decide +kernel
theorem dX4_lookForBest_25 : decode cX4_lookForBest 25 = .ok (.invokevirtual 108, 3) := by decide +kernel
theorem dX4_lookForBest_28 : decode cX4_lookForBest 28 = .ok (.ifCond .ne 6, 3) := by decide +kernel
theorem dX4_lookForBest_31 : decode cX4_lookForBest 31 = .ok (.goto 22, 3) := by decide +kernel
theorem dX4_lookForBest_34 : decode cX4_lookForBest 34 = .ok (.iconst 0, 1) := by decide +kernel
theorem dX4_lookForBest_35 : decode cX4_lookForBest 35 = .ok (.istore_n 2, 1) := by decide +kernel
theorem dX4_lookForBest_36 : decode cX4_lookForBest 36 = .ok (.aload_n 0, 1) := by decide +kernel
theorem dX4_lookForBest_37 : decode cX4_lookForBest 37 = .ok (.iload_n 1, 1) := by decide +kernel
theorem dX4_lookForBest_38 : decode cX4_lookForBest 38 = .ok (.iload_n 2, 1) := by decide +kernel
theorem dX4_lookForBest_39 : decode cX4_lookForBest 39 = .ok (.invokevirtual 108, 3) := by decide +kernel
theorem dX4_lookForBest_42 : decode cX4_lookForBest 42 = .ok (.ifCond .ne 9, 3) := by decide +kernel
theorem dX4_lookForBest_45 : decode cX4_lookForBest 45 = .ok (.iinc 2 1, 3) := by decide +kernel
theorem dX4_lookForBest_48 : decode cX4_lookForBest 48 = .ok (.goto (-12), 3) := by decide +kernel
theorem dX4_lookForBest_51 : decode cX4_lookForBest 51 = .ok (.iconst 1, 1) := by decide +kernel
theorem dX4_lookForBest_52 : decode cX4_lookForBest 52 = .ok (.ireturn, 1) := by decide +kernel
theorem dX4_lookForBest_53 : decode cX4_lookForBest 53 = .ok (.iinc 1 1, 3) := by decide +kernel
theorem dX4_lookForBest_56 : decode cX4_lookForBest 56 = .ok (.goto (-41), 3) := by decide +kernel
theorem dX4_lookForBest_59 : decode cX4_lookForBest 59 = .ok (.iconst 0, 1) := by decide +kernel
theorem dX4_lookForBest_60 : decode cX4_lookForBest 60 = .ok (.ireturn, 1) := by decide +kernel
theorem dX4_tries_0 : decode cX4_tries 0 = .ok (.lconst 0, 1) := by decide +kernel
theorem dX4_tries_1 : decode cX4_tries 1 = .ok (.lstore_n 2, 1) := by decide +kernel
theorem dX4_tries_2 : decode cX4_tries 2 = .ok (.iconst 0, 1) := by decide +kernel
theorem dX4_tries_3 : decode cX4_tries 3 = .ok (.istore 4, 2) := by decide +kernel
theorem dX4_tries_5 : decode cX4_tries 5 = .ok (.iload 4, 2) := by decide +kernel
theorem dX4_tries_7 : decode cX4_tries 7 = .ok (.iconst 1, 1) := by decide +kernel
theorem dX4_tries_8 : decode cX4_tries 8 = .ok (.aload_n 0, 1) := by decide +kernel
theorem dX4_tries_9 : decode cX4_tries 9 = .ok (.getfield 65, 3) := by decide +kernel
theorem dX4_tries_12 : decode cX4_tries 12 = .ok (.ishl, 1) := by decide +kernel
theorem dX4_tries_13 : decode cX4_tries 13 = .ok (.if_icmp .ge 56, 3) := by decide +kernel
theorem dX4_tries_16 : decode cX4_tries 16 = .ok (.iconst 0, 1) := by decide +kernel
theorem dX4_tries_17 : decode cX4_tries 17 = .ok (.istore 5, 2) := by decide +kernel
theorem dX4_tries_19 : decode cX4_tries 19 = .ok (.iconst 0, 1) := by decide +kernel
theorem dX4_tries_20 : decode cX4_tries 20 = .ok (.istore 6, 2) := by decide +kernel
theorem dX4_tries_22 : decode cX4_tries 22 = .ok (.iload 6, 2) := by decide +kernel
theorem dX4_tries_24 : decode cX4_tries 24 = .ok (.aload_n 0, 1) := by decide +kernel
theorem dX4_tries_25 : decode cX4_tries 25 = .ok (.getfield 65, 3) := by decide +kernel
theorem dX4_tries_28 : decode cX4_tries 28 = .ok (.if_icmp .ge 21, 3) := by decide +kernel
theorem dX4_tries_31 : decode cX4_tries 31 = .ok (.iload 5, 2) := by decide +kernel
theorem dX4_tries_33 : decode cX4_tries 33 = .ok (.iload 4, 2) := by decide +kernel
theorem dX4_tries_35 : decode cX4_tries 35 = .ok (.iload 6, 2) := by decide +kernel
theorem dX4_tries_37 : decode cX4_tries 37 = .ok (.ishr, 1) := by decide +kernel
theorem dX4_tries_38 : decode cX4_tries 38 = .ok (.iconst 1, 1) := by decide +kernel
theorem dX4_tries_39 : decode cX4_tries 39 = .ok (.iand, 1) := by decide +kernel
theorem dX4_tries_40 : decode cX4_tries 40 = .ok (.iadd, 1) := by decide +kernel
theorem dX4_tries_41 : decode cX4_tries 41 = .ok (.istore 5, 2) := by decide +kernel
theorem dX4_tries_43 : decode cX4_tries 43 = .ok (.iinc 6 1, 3) := by decide +kernel
theorem dX4_tries_46 : decode cX4_tries 46 = .ok (.goto (-24), 3) := by decide +kernel
theorem dX4_tries_49 : decode cX4_tries 49 = .ok (.lload_n 2, 1) := by decide +kernel
theorem dX4_tries_50 : decode cX4_tries 50 = .ok (.iload 5, 2) := by decide +kernel
theorem dX4_tries_52 : decode cX4_tries 52 = .ok (.iload_n 1, 1) := by decide +kernel
theorem dX4_tries_53 : decode cX4_tries 53 = .ok (.if_icmp .gt 7, 3) := by decide +kernel
theorem dX4_tries_56 : decode cX4_tries 56 = .ok (.lconst 1, 1) := by decide +kernel
theorem dX4_tries_57 : decode cX4_tries 57 = .ok (.goto 4, 3) := by decide +kernel
theorem dX4_tries_60 : decode cX4_tries 60 = .ok (.lconst 0, 1) := by decide +kernel
theorem dX4_tries_61 : decode cX4_tries 61 = .ok (.ladd, 1) := by decide +kernel
theorem dX4_tries_62 : decode cX4_tries 62 = .ok (.lstore_n 2, 1) := by decide +kernel
theorem dX4_tries_63 : decode cX4_tries 63 = .ok (.iinc 4 1, 3) := by decide +kernel
theorem dX4_tries_66 : decode cX4_tries 66 = .ok (.goto (-61), 3) := by decide +kernel
theorem dX4_tries_69 : decode cX4_tries 69 = .ok (.lload_n 2, 1) := by decide +kernel
theorem dX4_tries_70 : decode cX4_tries 70 = .ok (.lreturn, 1) := by decide +kernel
theorem dX4_keep_0 : decode cX4_keep 0 = .ok (.aload_n 0, 1) := by decide +kernel
theorem dX4_keep_1 : decode cX4_keep 1 = .ok (.aload_n 0, 1) := by decide +kernel
theorem dX4_keep_2 : decode cX4_keep 2 = .ok (.getfield 65, 3) := by decide +kernel
theorem dX4_keep_5 : decode cX4_keep 5 = .ok (.putfield 111, 3) := by decide +kernel
theorem dX4_keep_8 : decode cX4_keep 8 = .ok (.iconst 0, 1) := by decide +kernel
theorem dX4_keep_9 : decode cX4_keep 9 = .ok (.istore_n 1, 1) := by decide +kernel
theorem dX4_keep_10 : decode cX4_keep 10 = .ok (.iconst 0, 1) := by decide +kernel
theorem dX4_keep_11 : decode cX4_keep 11 = .ok (.istore_n 2, 1) := by decide +kernel
theorem dX4_keep_12 : decode cX4_keep 12 = .ok (.iload_n 2, 1) := by decide +kernel
theorem dX4_keep_13 : decode cX4_keep 13 = .ok (.aload_n 0, 1) := by decide +kernel
theorem dX4_keep_14 : decode cX4_keep 14 = .ok (.getfield 65, 3) := by decide +kernel
theorem dX4_keep_17 : decode cX4_keep 17 = .ok (.if_icmp .ge 71, 3) := by decide +kernel
theorem dX4_keep_20 : decode cX4_keep 20 = .ok (.aload_n 0, 1) := by decide +kernel
theorem dX4_keep_21 : decode cX4_keep 21 = .ok (.getfield 46, 3) := by decide +kernel
theorem dX4_keep_24 : decode cX4_keep 24 = .ok (.iload_n 2, 1) := by decide +kernel
theorem dX4_keep_25 : decode cX4_keep 25 = .ok (.aload_n 0, 1) := by decide +kernel
theorem dX4_keep_26 : decode cX4_keep 26 = .ok (.getfield 43, 3) := by decide +kernel
theorem dX4_keep_29 : decode cX4_keep 29 = .ok (.iload_n 2, 1) := by decide +kernel
theorem dX4_keep_30 : decode cX4_keep 30 = .ok (.iaload, 1) := by decide +kernel
theorem dX4_keep_31 : decode cX4_keep 31 = .ok (.bipush 6, 2) := by decide +kernel
theorem dX4_keep_33 : decode cX4_keep 33 = .ok (.if_icmp .ne 7, 3) := by decide +kernel
theorem dX4_keep_36 : decode cX4_keep 36 = .ok (.iconst (-1), 1) := by decide +kernel
theorem dX4_keep_37 : decode cX4_keep 37 = .ok (.goto 9, 3) := by decide +kernel
theorem dX4_keep_40 : decode cX4_keep 40 = .ok (.aload_n 0, 1) := by decide +kernel
theorem dX4_keep_41 : decode cX4_keep 41 = .ok (.getfield 43, 3) := by decide +kernel
theorem dX4_keep_44 : decode cX4_keep 44 = .ok (.iload_n 2, 1) := by decide +kernel
theorem dX4_keep_45 : decode cX4_keep 45 = .ok (.iaload, 1) := by decide +kernel
theorem dX4_keep_46 : decode cX4_keep 46 = .ok (.iastore, 1) := by decide +kernel
theorem dX4_keep_47 : decode cX4_keep 47 = .ok (.aload_n 0, 1) := by decide +kernel
theorem dX4_keep_48 : decode cX4_keep 48 = .ok (.getfield 49, 3) := by decide +kernel
theorem dX4_keep_51 : decode cX4_keep 51 = .ok (.iload_n 2, 1) := by decide +kernel
theorem dX4_keep_52 : decode cX4_keep 52 = .ok (.aload_n 0, 1) := by decide +kernel
theorem dX4_keep_53 : decode cX4_keep 53 = .ok (.getfield 34, 3) := by decide +kernel
theorem dX4_keep_56 : decode cX4_keep 56 = .ok (.iload_n 2, 1) := by decide +kernel
theorem dX4_keep_57 : decode cX4_keep 57 = .ok (.iaload, 1) := by decide +kernel
theorem dX4_keep_58 : decode cX4_keep 58 = .ok (.iastore, 1) := by decide +kernel
theorem dX4_keep_59 : decode cX4_keep 59 = .ok (.iload_n 1, 1) := by decide +kernel
theorem dX4_keep_60 : decode cX4_keep 60 = .ok (.aload_n 0, 1) := by decide +kernel
theorem dX4_keep_61 : decode cX4_keep 61 = .ok (.getfield 46, 3) := by decide +kernel
theorem dX4_keep_64 : decode cX4_keep 64 = .ok (.iload_n 2, 1) := by decide +kernel
theorem dX4_keep_65 : decode cX4_keep 65 = .ok (.iaload, 1) := by decide +kernel
theorem dX4_keep_66 : decode cX4_keep 66 = .ok (.aload_n 0, 1) := by decide +kernel
theorem dX4_keep_67 : decode cX4_keep 67 = .ok (.getfield 49, 3) := by decide +kernel
theorem dX4_keep_70 : decode cX4_keep 70 = .ok (.iload_n 2, 1) := by decide +kernel
theorem dX4_keep_71 : decode cX4_keep 71 = .ok (.iaload, 1) := by decide +kernel
theorem dX4_keep_72 : decode cX4_keep 72 = .ok (.if_icmp .ne 7, 3) := by decide +kernel
theorem dX4_keep_75 : decode cX4_keep 75 = .ok (.iconst 0, 1) := by decide +kernel
theorem dX4_keep_76 : decode cX4_keep 76 = .ok (.goto 4, 3) := by decide +kernel
theorem dX4_keep_79 : decode cX4_keep 79 = .ok (.iconst 1, 1) := by decide +kernel
theorem dX4_keep_80 : decode cX4_keep 80 = .ok (.iadd, 1) := by decide +kernel
theorem dX4_keep_81 : decode cX4_keep 81 = .ok (.istore_n 1, 1) := by decide +kernel
theorem dX4_keep_82 : decode cX4_keep 82 = .ok (.iinc 2 1, 3) := by decide +kernel
theorem dX4_keep_85 : decode cX4_keep 85 = .ok (.goto (-73), 3) := by decide +kernel
theorem dX4_keep_88 : decode cX4_keep 88 = .ok (.iload_n 1, 1) := by decide +kernel
theorem dX4_keep_89 : decode cX4_keep 89 = .ok (.ireturn, 1) := by decide +kernel
set_option maxRecDepth 20000 in
theorem ggX4_solve_X4_lookForBest : GoodIn wsX4_solve wsX4_lookForBest := goodIn_ca (goodIn_r _ [10, 11, 12, 13, 9, 14, 15, 16, 17, 2, 18, 19, 20, 21, 22, 23, 24, 25, 26, 27, 28, 29, 30, 31, 32, 33, 34, 35, 36, 37, 38, 3, 5, 39, 40, 41, 42, 43, 44, 45, 46, 47, 59, 60, 61, 62, 63, 64, 65, 66, 67, 68, 69, 70, 71, 72, 73, 74, 75, 76, 77, 78, 79, 80, 81, 82, 83] (by decide +kernel) (by decide +kernel)) (goodIn_sub (fun _ h => List.mem_cons_of_mem _ (List.mem_append_right _ h)) (by decide +kernel))
set_option maxRecDepth 20000 in
theorem gX4_solve_X4_lookForBest : GoodIn wsX4_solve (wsV RX4 114 RX4 yX4_lookForBest wsX4_lookForBest) := goodIn_app (goodIn_of _ (by decide +kernel)) ggX4_solve_X4_lookForBest
set_option maxRecDepth 20000 in
theorem ggX4_solve_X4_tries : GoodIn wsX4_solve wsX4_tries := goodIn_r _ [51, 2, 59, 60, 61, 62, 63, 64, 65, 66, 67, 68, 69, 70, 71, 72, 73, 74, 75, 76, 77, 78, 79, 80, 81, 82, 83] (by decide +kernel) (by decide +kernel)
set_option maxRecDepth 20000 in
theorem gX4_solve_X4_tries : GoodIn wsX4_solve (wsV RX4 118 RX4 yX4_tries wsX4_tries) := goodIn_app (goodIn_of _ (by decide +kernel)) ggX4_solve_X4_tries
set_option maxRecDepth 20000 in
theorem ggX4_solve_X4_look : GoodIn wsX4_solve wsX4_look := goodIn_ca (goodIn_r _ [14, 15, 16, 17, 2, 18, 19, 20, 21, 9, 22, 23, 24, 25, 26, 27, 28, 29, 30, 31, 32, 33, 34, 35, 36, 37, 38, 3, 5, 39, 40, 41, 42, 43, 44, 45, 46, 47, 59, 60, 61, 62, 63, 64, 65, 66, 67, 68, 69, 70, 71, 72, 73, 74, 75, 76, 77, 78, 79, 80, 81, 82, 83] (by decide +kernel) (by decide +kernel)) (goodIn_sub (fun _ h => List.mem_cons_of_mem _ (List.mem_append_right _ h)) (by decide +kernel))
set_option maxRecDepth 20000 in
theorem gX4_solve_X4_look : GoodIn wsX4_solve (wsV RX4 108 RX4 yX4_look wsX4_look) := goodIn_app (goodIn_of _ (by decide +kernel)) ggX4_solve_X4_look
set_option maxRecDepth 20000 in
theorem ggX4_solve_X4_keep : GoodIn wsX4_solve wsX4_keep := goodIn_ca (goodIn_r _ [55, 2, 56, 57, 39, 58, 3, 59, 60, 61, 62, 63, 64, 65, 66, 67, 68, 69, 70, 71, 72, 73, 74, 75, 76, 77, 78, 79, 80, 81, 82, 83] (by decide +kernel) (by decide +kernel)) (goodIn_sub (fun _ h => List.mem_cons_of_mem _ (List.mem_append_right _ h)) (by decide +kernel))
set_option maxRecDepth 20000 in
theorem gX4_solve_X4_keep : GoodIn wsX4_solve (wsV RX4 122 RX4 yX4_keep wsX4_keep) := goodIn_app (goodIn_of _ (by decide +kernel)) ggX4_solve_X4_keep
theorem dX4_solve_0 : decode cX4_solve 0 = .ok (.aload_n 0, 1) := by decide +kernel
theorem dX4_solve_1 : decode cX4_solve 1 = .ok (.iconst 0, 1) := by decide +kernel
theorem dX4_solve_2 : decode cX4_solve 2 = .ok (.putfield 61, 3) := by decide +kernel
theorem dX4_solve_5 : decode cX4_solve 5 = .ok (.iload_n 1, 1) := by decide +kernel
theorem dX4_solve_6 : decode cX4_solve 6 = .ok (.ifCond .lt 15, 3) := by decide +kernel
theorem dX4_solve_9 : decode cX4_solve 9 = .ok (.iload_n 1, 1) := by decide +kernel
theorem dX4_solve_10 : decode cX4_solve 10 = .ok (.bipush 8, 2) := by decide +kernel
theorem dX4_solve_12 : decode cX4_solve 12 = .ok (.if_icmp .gt 9, 3) := by decide +kernel
theorem dX4_solve_15 : decode cX4_solve 15 = .ok (.lload_n 2, 1) := by decide +kernel
theorem dX4_solve_16 : decode cX4_solve 16 = .ok (.lconst 1, 1) := by decide +kernel
theorem dX4_solve_17 : decode cX4_solve 17 = .ok (.lcmp, 1) := by decide +kernel
theorem dX4_solve_18 : decode cX4_solve 18 = .ok (.ifCond .ge 6, 3) := by decide +kernel
theorem dX4_solve_21 : decode cX4_solve 21 = .ok (.bipush (-3), 2) := by decide +kernel
theorem dX4_solve_23 : decode cX4_solve 23 = .ok (.ireturn, 1) := by decide +kernel
theorem dX4_solve_24 : decode cX4_solve 24 = .ok (.iconst 0, 1) := by decide +kernel
theorem dX4_solve_25 : decode cX4_solve 25 = .ok (.istore 4, 2) := by decide +kernel
theorem dX4_solve_27 : decode cX4_solve 27 = .ok (.iload 4, 2) := by decide +kernel
theorem dX4_solve_29 : decode cX4_solve 29 = .ok (.aload_n 0, 1) := by decide +kernel
end
section
theorem dX4_solve_30 : decode cX4_solve 30 = .ok (.getfield 65, 3) := by decide +kernel
theorem dX4_solve_33 : decode cX4_solve 33 = .ok (.if_icmp .ge 23, 3) := by decide +kernel
theorem dX4_solve_36 : decode cX4_solve 36 = .ok (.aload_n 0, 1) := by decide +kernel
theorem dX4_solve_37 : decode cX4_solve 37 = .ok (.getfield 34, 3) := by decide +kernel
theorem dX4_solve_40 : decode cX4_solve 40 = .ok (.iload 4, 2) := by decide +kernel
theorem dX4_solve_42 : decode cX4_solve 42 = .ok (.aload_n 0, 1) := by decide +kernel
theorem dX4_solve_43 : decode cX4_solve 43 = .ok (.getfield 13, 3) := by decide +kernel
theorem dX4_solve_46 : decode cX4_solve 46 = .ok (.iload 4, 2) := by decide +kernel
theorem dX4_solve_48 : decode cX4_solve 48 = .ok (.iaload, 1) := by decide +kernel
theorem dX4_solve_49 : decode cX4_solve 49 = .ok (.iastore, 1) := by decide +kernel
theorem dX4_solve_50 : decode cX4_solve 50 = .ok (.iinc 4 1, 3) := by decide +kernel
theorem dX4_solve_53 : decode cX4_solve 53 = .ok (.goto (-26), 3) := by decide +kernel
theorem dX4_solve_56 : decode cX4_solve 56 = .ok (.aload_n 0, 1) := by decide +kernel
theorem dX4_solve_57 : decode cX4_solve 57 = .ok (.invokevirtual 114, 3) := by decide +kernel
theorem dX4_solve_60 : decode cX4_solve 60 = .ok (.istore 4, 2) := by decide +kernel
theorem dX4_solve_62 : decode cX4_solve 62 = .ok (.iload 4, 2) := by decide +kernel
theorem dX4_solve_64 : decode cX4_solve 64 = .ok (.ifCond .eq 15, 3) := by decide +kernel
theorem dX4_solve_67 : decode cX4_solve 67 = .ok (.aload_n 0, 1) := by decide +kernel
theorem dX4_solve_68 : decode cX4_solve 68 = .ok (.getfield 99, 3) := by decide +kernel
theorem dX4_solve_71 : decode cX4_solve 71 = .ok (.iload_n 1, 1) := by decide +kernel
theorem dX4_solve_72 : decode cX4_solve 72 = .ok (.if_icmp .gt 7, 3) := by decide +kernel
theorem dX4_solve_75 : decode cX4_solve 75 = .ok (.iconst 1, 1) := by decide +kernel
theorem dX4_solve_76 : decode cX4_solve 76 = .ok (.goto 4, 3) := by decide +kernel
theorem dX4_solve_79 : decode cX4_solve 79 = .ok (.iconst 0, 1) := by decide +kernel
theorem dX4_solve_80 : decode cX4_solve 80 = .ok (.istore 5, 2) := by decide +kernel
theorem dX4_solve_82 : decode cX4_solve 82 = .ok (.aload_n 0, 1) := by decide +kernel
theorem dX4_solve_83 : decode cX4_solve 83 = .ok (.iload 5, 2) := by decide +kernel
theorem dX4_solve_85 : decode cX4_solve 85 = .ok (.ifCond .eq 10, 3) := by decide +kernel
theorem dX4_solve_88 : decode cX4_solve 88 = .ok (.aload_n 0, 1) := by decide +kernel
theorem dX4_solve_89 : decode cX4_solve 89 = .ok (.getfield 99, 3) := by decide +kernel
theorem dX4_solve_92 : decode cX4_solve 92 = .ok (.goto 19, 3) := by decide +kernel
theorem dX4_solve_95 : decode cX4_solve 95 = .ok (.iload_n 1, 1) := by decide +kernel
theorem dX4_solve_96 : decode cX4_solve 96 = .ok (.aload_n 0, 1) := by decide +kernel
theorem dX4_solve_97 : decode cX4_solve 97 = .ok (.getfield 65, 3) := by decide +kernel
theorem dX4_solve_100 : decode cX4_solve 100 = .ok (.if_icmp .ge 7, 3) := by decide +kernel
theorem dX4_solve_103 : decode cX4_solve 103 = .ok (.iload_n 1, 1) := by decide +kernel
theorem dX4_solve_104 : decode cX4_solve 104 = .ok (.goto 7, 3) := by decide +kernel
theorem dX4_solve_107 : decode cX4_solve 107 = .ok (.aload_n 0, 1) := by decide +kernel
theorem dX4_solve_108 : decode cX4_solve 108 = .ok (.getfield 65, 3) := by decide +kernel
theorem dX4_solve_111 : decode cX4_solve 111 = .ok (.invokevirtual 118, 3) := by decide +kernel
theorem dX4_solve_114 : decode cX4_solve 114 = .ok (.lload_n 2, 1) := by decide +kernel
theorem dX4_solve_115 : decode cX4_solve 115 = .ok (.lcmp, 1) := by decide +kernel
theorem dX4_solve_116 : decode cX4_solve 116 = .ok (.ifCond .le 6, 3) := by decide +kernel
theorem dX4_solve_119 : decode cX4_solve 119 = .ok (.bipush (-2), 2) := by decide +kernel
theorem dX4_solve_121 : decode cX4_solve 121 = .ok (.ireturn, 1) := by decide +kernel
theorem dX4_solve_122 : decode cX4_solve 122 = .ok (.iload 4, 2) := by decide +kernel
theorem dX4_solve_124 : decode cX4_solve 124 = .ok (.ifCond .ne 5, 3) := by decide +kernel
theorem dX4_solve_127 : decode cX4_solve 127 = .ok (.iconst (-1), 1) := by decide +kernel
theorem dX4_solve_128 : decode cX4_solve 128 = .ok (.ireturn, 1) := by decide +kernel
theorem dX4_solve_129 : decode cX4_solve 129 = .ok (.iload 5, 2) := by decide +kernel
theorem dX4_solve_131 : decode cX4_solve 131 = .ok (.ifCond .ne 14, 3) := by decide +kernel
theorem dX4_solve_134 : decode cX4_solve 134 = .ok (.aload_n 0, 1) := by decide +kernel
theorem dX4_solve_135 : decode cX4_solve 135 = .ok (.bipush 8, 2) := by decide +kernel
theorem dX4_solve_137 : decode cX4_solve 137 = .ok (.bipush 8, 2) := by decide +kernel
theorem dX4_solve_139 : decode cX4_solve 139 = .ok (.invokevirtual 108, 3) := by decide +kernel
theorem dX4_solve_142 : decode cX4_solve 142 = .ok (.ifCond .eq 7, 3) := by decide +kernel
theorem dX4_solve_145 : decode cX4_solve 145 = .ok (.iconst 1, 1) := by decide +kernel
theorem dX4_solve_146 : decode cX4_solve 146 = .ok (.goto 4, 3) := by decide +kernel
theorem dX4_solve_149 : decode cX4_solve 149 = .ok (.iconst 0, 1) := by decide +kernel
theorem dX4_solve_150 : decode cX4_solve 150 = .ok (.istore 6, 2) := by decide +kernel
theorem dX4_solve_152 : decode cX4_solve 152 = .ok (.iload 6, 2) := by decide +kernel
theorem dX4_solve_154 : decode cX4_solve 154 = .ok (.ifCond .eq 10, 3) := by decide +kernel
theorem dX4_solve_157 : decode cX4_solve 157 = .ok (.aload_n 0, 1) := by decide +kernel
theorem dX4_solve_158 : decode cX4_solve 158 = .ok (.invokevirtual 122, 3) := by decide +kernel
theorem dX4_solve_161 : decode cX4_solve 161 = .ok (.goto 4, 3) := by decide +kernel
theorem dX4_solve_164 : decode cX4_solve 164 = .ok (.iconst (-1), 1) := by decide +kernel
theorem dX4_solve_165 : decode cX4_solve 165 = .ok (.ireturn, 1) := by decide +kernel
theorem dX4_chosen_0 : decode cX4_chosen 0 = .ok (.aload_n 0, 1) := by decide +kernel
theorem dX4_chosen_1 : decode cX4_chosen 1 = .ok (.iconst 0, 1) := by decide +kernel
theorem dX4_chosen_2 : decode cX4_chosen 2 = .ok (.putfield 61, 3) := by decide +kernel
theorem dX4_chosen_5 : decode cX4_chosen 5 = .ok (.iload_n 1, 1) := by decide +kernel
theorem dX4_chosen_6 : decode cX4_chosen 6 = .ok (.ifCond .lt 20, 3) := by decide +kernel
theorem dX4_chosen_9 : decode cX4_chosen 9 = .ok (.iload_n 1, 1) := by decide +kernel
theorem dX4_chosen_10 : decode cX4_chosen 10 = .ok (.aload_n 0, 1) := by decide +kernel
theorem dX4_chosen_11 : decode cX4_chosen 11 = .ok (.getfield 111, 3) := by decide +kernel
theorem dX4_chosen_14 : decode cX4_chosen 14 = .ok (.if_icmp .ge 12, 3) := by decide +kernel
theorem dX4_chosen_17 : decode cX4_chosen 17 = .ok (.aload_n 0, 1) := by decide +kernel
theorem dX4_chosen_18 : decode cX4_chosen 18 = .ok (.getfield 46, 3) := by decide +kernel
theorem dX4_chosen_21 : decode cX4_chosen 21 = .ok (.iload_n 1, 1) := by decide +kernel
theorem dX4_chosen_22 : decode cX4_chosen 22 = .ok (.iaload, 1) := by decide +kernel
theorem dX4_chosen_23 : decode cX4_chosen 23 = .ok (.goto 4, 3) := by decide +kernel
theorem dX4_chosen_26 : decode cX4_chosen 26 = .ok (.iconst (-1), 1) := by decide +kernel
theorem dX4_chosen_27 : decode cX4_chosen 27 = .ok (.ireturn, 1) := by decide +kernel
theorem dX4_down_0 : decode cX4_down 0 = .ok (.aload_n 0, 1) := by decide +kernel
theorem dX4_down_1 : decode cX4_down 1 = .ok (.iconst 0, 1) := by decide +kernel
theorem dX4_down_2 : decode cX4_down 2 = .ok (.putfield 61, 3) := by decide +kernel
theorem dX4_down_5 : decode cX4_down 5 = .ok (.iload_n 1, 1) := by decide +kernel
theorem dX4_down_6 : decode cX4_down 6 = .ok (.istore_n 2, 1) := by decide +kernel
theorem dX4_down_7 : decode cX4_down 7 = .ok (.iconst 0, 1) := by decide +kernel
theorem dX4_down_8 : decode cX4_down 8 = .ok (.istore_n 3, 1) := by decide +kernel
theorem dX4_down_9 : decode cX4_down 9 = .ok (.iload_n 3, 1) := by decide +kernel
theorem dX4_down_10 : decode cX4_down 10 = .ok (.aload_n 0, 1) := by decide +kernel
theorem dX4_down_11 : decode cX4_down 11 = .ok (.getfield 111, 3) := by decide +kernel
theorem dX4_down_14 : decode cX4_down 14 = .ok (.if_icmp .ge 50, 3) := by decide +kernel
theorem dX4_down_17 : decode cX4_down 17 = .ok (.iload_n 1, 1) := by decide +kernel
theorem dX4_down_18 : decode cX4_down 18 = .ok (.ifCond .lt 46, 3) := by decide +kernel
theorem dX4_down_21 : decode cX4_down 21 = .ok (.aload_n 0, 1) := by decide +kernel
theorem dX4_down_22 : decode cX4_down 22 = .ok (.getfield 46, 3) := by decide +kernel
theorem dX4_down_25 : decode cX4_down 25 = .ok (.iload_n 3, 1) := by decide +kernel
theorem dX4_down_26 : decode cX4_down 26 = .ok (.iaload, 1) := by decide +kernel
theorem dX4_down_27 : decode cX4_down 27 = .ok (.iconst (-1), 1) := by decide +kernel
theorem dX4_down_28 : decode cX4_down 28 = .ok (.if_icmp .eq 30, 3) := by decide +kernel
theorem dX4_down_31 : decode cX4_down 31 = .ok (.aload_n 0, 1) := by decide +kernel
theorem dX4_down_32 : decode cX4_down 32 = .ok (.getfield 46, 3) := by decide +kernel
theorem dX4_down_35 : decode cX4_down 35 = .ok (.iload_n 3, 1) := by decide +kernel
theorem dX4_down_36 : decode cX4_down 36 = .ok (.iaload, 1) := by decide +kernel
theorem dX4_down_37 : decode cX4_down 37 = .ok (.aload_n 0, 1) := by decide +kernel
theorem dX4_down_38 : decode cX4_down 38 = .ok (.getfield 49, 3) := by decide +kernel
theorem dX4_down_41 : decode cX4_down 41 = .ok (.iload_n 3, 1) := by decide +kernel
theorem dX4_down_42 : decode cX4_down 42 = .ok (.iaload, 1) := by decide +kernel
theorem dX4_down_43 : decode cX4_down 43 = .ok (.if_icmp .lt 6, 3) := by decide +kernel
theorem dX4_down_46 : decode cX4_down 46 = .ok (.goto 12, 3) := by decide +kernel
theorem dX4_down_49 : decode cX4_down 49 = .ok (.iload_n 2, 1) := by decide +kernel
theorem dX4_down_50 : decode cX4_down 50 = .ok (.ifCond .ne 5, 3) := by decide +kernel
theorem dX4_down_53 : decode cX4_down 53 = .ok (.iload_n 3, 1) := by decide +kernel
theorem dX4_down_54 : decode cX4_down 54 = .ok (.ireturn, 1) := by decide +kernel
theorem dX4_down_55 : decode cX4_down 55 = .ok (.iinc 2 (-1), 3) := by decide +kernel
theorem dX4_down_58 : decode cX4_down 58 = .ok (.iinc 3 1, 3) := by decide +kernel
theorem dX4_down_61 : decode cX4_down 61 = .ok (.goto (-52), 3) := by decide +kernel
theorem dX4_down_64 : decode cX4_down 64 = .ok (.iconst (-1), 1) := by decide +kernel
theorem dX4_down_65 : decode cX4_down 65 = .ok (.ireturn, 1) := by decide +kernel
theorem dX4_digestOf_0 : decode cX4_digestOf 0 = .ok (.iload_n 0, 1) := by decide +kernel
theorem dX4_digestOf_1 : decode cX4_digestOf 1 = .ok (.iconst 1, 1) := by decide +kernel
theorem dX4_digestOf_2 : decode cX4_digestOf 2 = .ok (.iadd, 1) := by decide +kernel
theorem dX4_digestOf_3 : decode cX4_digestOf 3 = .ok (.i2l, 1) := by decide +kernel
theorem dX4_digestOf_4 : decode cX4_digestOf 4 = .ok (.ldc2_w 126, 3) := by decide +kernel
theorem dX4_digestOf_7 : decode cX4_digestOf 7 = .ok (.lmul, 1) := by decide +kernel
theorem dX4_digestOf_8 : decode cX4_digestOf 8 = .ok (.iload_n 1, 1) := by decide +kernel
theorem dX4_digestOf_9 : decode cX4_digestOf 9 = .ok (.i2l, 1) := by decide +kernel
theorem dX4_digestOf_10 : decode cX4_digestOf 10 = .ok (.ladd, 1) := by decide +kernel
theorem dX4_digestOf_11 : decode cX4_digestOf 11 = .ok (.lconst 1, 1) := by decide +kernel
theorem dX4_digestOf_12 : decode cX4_digestOf 12 = .ok (.ladd, 1) := by decide +kernel
theorem dX4_digestOf_13 : decode cX4_digestOf 13 = .ok (.ldc2_w 128, 3) := by decide +kernel
theorem dX4_digestOf_16 : decode cX4_digestOf 16 = .ok (.lmul, 1) := by decide +kernel
theorem dX4_digestOf_17 : decode cX4_digestOf 17 = .ok (.lreturn, 1) := by decide +kernel
set_option maxRecDepth 20000 in
theorem ggX4_lock_X4_digestOf : GoodIn wsX4_lock wsX4_digestOf := goodIn_r _ [9, 10, 11] (by decide +kernel) (by decide +kernel)
set_option maxRecDepth 20000 in
theorem gX4_lock_X4_digestOf : GoodIn wsX4_lock (va_wsS RX4 130 yX4_digestOf wsX4_digestOf) := goodIn_app (goodIn_of _ (by decide +kernel)) ggX4_lock_X4_digestOf
theorem dX4_lock_0 : decode cX4_lock 0 = .ok (.aload_n 0, 1) := by decide +kernel
theorem dX4_lock_1 : decode cX4_lock 1 = .ok (.iconst 0, 1) := by decide +kernel
theorem dX4_lock_2 : decode cX4_lock 2 = .ok (.putfield 61, 3) := by decide +kernel
theorem dX4_lock_5 : decode cX4_lock 5 = .ok (.iload_n 1, 1) := by decide +kernel
theorem dX4_lock_6 : decode cX4_lock 6 = .ok (.istore_n 3, 1) := by decide +kernel
theorem dX4_lock_7 : decode cX4_lock 7 = .ok (.iconst 0, 1) := by decide +kernel
theorem dX4_lock_8 : decode cX4_lock 8 = .ok (.istore 4, 2) := by decide +kernel
theorem dX4_lock_10 : decode cX4_lock 10 = .ok (.iload 4, 2) := by decide +kernel
theorem dX4_lock_12 : decode cX4_lock 12 = .ok (.aload_n 0, 1) := by decide +kernel
theorem dX4_lock_13 : decode cX4_lock 13 = .ok (.getfield 111, 3) := by decide +kernel
theorem dX4_lock_16 : decode cX4_lock 16 = .ok (.if_icmp .ge 43, 3) := by decide +kernel
theorem dX4_lock_19 : decode cX4_lock 19 = .ok (.aload_n 0, 1) := by decide +kernel
theorem dX4_lock_20 : decode cX4_lock 20 = .ok (.getfield 46, 3) := by decide +kernel
theorem dX4_lock_23 : decode cX4_lock 23 = .ok (.iload 4, 2) := by decide +kernel
theorem dX4_lock_25 : decode cX4_lock 25 = .ok (.iaload, 1) := by decide +kernel
theorem dX4_lock_26 : decode cX4_lock 26 = .ok (.iconst (-1), 1) := by decide +kernel
theorem dX4_lock_27 : decode cX4_lock 27 = .ok (.if_icmp .eq 7, 3) := by decide +kernel
theorem dX4_lock_30 : decode cX4_lock 30 = .ok (.iload_n 3, 1) := by decide +kernel
theorem dX4_lock_31 : decode cX4_lock 31 = .ok (.ifCond .le 28, 3) := by decide +kernel
theorem dX4_lock_34 : decode cX4_lock 34 = .ok (.iload_n 3, 1) := by decide +kernel
theorem dX4_lock_35 : decode cX4_lock 35 = .ok (.aload_n 0, 1) := by decide +kernel
theorem dX4_lock_36 : decode cX4_lock 36 = .ok (.getfield 46, 3) := by decide +kernel
theorem dX4_lock_39 : decode cX4_lock 39 = .ok (.iload 4, 2) := by decide +kernel
theorem dX4_lock_41 : decode cX4_lock 41 = .ok (.iaload, 1) := by decide +kernel
theorem dX4_lock_42 : decode cX4_lock 42 = .ok (.iconst (-1), 1) := by decide +kernel
theorem dX4_lock_43 : decode cX4_lock 43 = .ok (.if_icmp .ne 7, 3) := by decide +kernel
theorem dX4_lock_46 : decode cX4_lock 46 = .ok (.iconst 0, 1) := by decide +kernel
theorem dX4_lock_47 : decode cX4_lock 47 = .ok (.goto 4, 3) := by decide +kernel
theorem dX4_lock_50 : decode cX4_lock 50 = .ok (.iconst 1, 1) := by decide +kernel
theorem dX4_lock_51 : decode cX4_lock 51 = .ok (.isub, 1) := by decide +kernel
theorem dX4_lock_52 : decode cX4_lock 52 = .ok (.istore_n 3, 1) := by decide +kernel
theorem dX4_lock_53 : decode cX4_lock 53 = .ok (.iinc 4 1, 3) := by decide +kernel
theorem dX4_lock_56 : decode cX4_lock 56 = .ok (.goto (-46), 3) := by decide +kernel
theorem dX4_lock_59 : decode cX4_lock 59 = .ok (.iload_n 1, 1) := by decide +kernel
theorem dX4_lock_60 : decode cX4_lock 60 = .ok (.ifCond .lt 12, 3) := by decide +kernel
theorem dX4_lock_63 : decode cX4_lock 63 = .ok (.iload 4, 2) := by decide +kernel
theorem dX4_lock_65 : decode cX4_lock 65 = .ok (.aload_n 0, 1) := by decide +kernel
theorem dX4_lock_66 : decode cX4_lock 66 = .ok (.getfield 111, 3) := by decide +kernel
theorem dX4_lock_69 : decode cX4_lock 69 = .ok (.if_icmp .ne 5, 3) := by decide +kernel
theorem dX4_lock_72 : decode cX4_lock 72 = .ok (.iconst (-1), 1) := by decide +kernel
theorem dX4_lock_73 : decode cX4_lock 73 = .ok (.ireturn, 1) := by decide +kernel
theorem dX4_lock_74 : decode cX4_lock 74 = .ok (.iload_n 2, 1) := by decide +kernel
theorem dX4_lock_75 : decode cX4_lock 75 = .ok (.tableswitch 81 0 3 #[29, 32, 40, 58], 29) := by decide +kernel
theorem dX4_lock_104 : decode cX4_lock 104 = .ok (.iload 4, 2) := by decide +kernel
theorem dX4_lock_106 : decode cX4_lock 106 = .ok (.ireturn, 1) := by decide +kernel
theorem dX4_lock_107 : decode cX4_lock 107 = .ok (.aload_n 0, 1) := by decide +kernel
theorem dX4_lock_108 : decode cX4_lock 108 = .ok (.getfield 46, 3) := by decide +kernel
theorem dX4_lock_111 : decode cX4_lock 111 = .ok (.iload 4, 2) := by decide +kernel
theorem dX4_lock_113 : decode cX4_lock 113 = .ok (.iaload, 1) := by decide +kernel
theorem dX4_lock_114 : decode cX4_lock 114 = .ok (.ireturn, 1) := by decide +kernel
theorem dX4_lock_115 : decode cX4_lock 115 = .ok (.iload 4, 2) := by decide +kernel
theorem dX4_lock_117 : decode cX4_lock 117 = .ok (.aload_n 0, 1) := by decide +kernel
theorem dX4_lock_118 : decode cX4_lock 118 = .ok (.getfield 46, 3) := by decide +kernel
theorem dX4_lock_121 : decode cX4_lock 121 = .ok (.iload 4, 2) := by decide +kernel
theorem dX4_lock_123 : decode cX4_lock 123 = .ok (.iaload, 1) := by decide +kernel
theorem dX4_lock_124 : decode cX4_lock 124 = .ok (.invokestatic 130, 3) := by decide +kernel
theorem dX4_lock_127 : decode cX4_lock 127 = .ok (.ldc2_w 134, 3) := by decide +kernel
theorem dX4_lock_130 : decode cX4_lock 130 = .ok (.lrem, 1) := by decide +kernel
theorem dX4_lock_131 : decode cX4_lock 131 = .ok (.l2i, 1) := by decide +kernel
theorem dX4_lock_132 : decode cX4_lock 132 = .ok (.ireturn, 1) := by decide +kernel
theorem dX4_lock_133 : decode cX4_lock 133 = .ok (.aload_n 0, 1) := by decide +kernel
theorem dX4_lock_134 : decode cX4_lock 134 = .ok (.getfield 46, 3) := by decide +kernel
theorem dX4_lock_137 : decode cX4_lock 137 = .ok (.iload 4, 2) := by decide +kernel
theorem dX4_lock_139 : decode cX4_lock 139 = .ok (.iaload, 1) := by decide +kernel
theorem dX4_lock_140 : decode cX4_lock 140 = .ok (.aload_n 0, 1) := by decide +kernel
theorem dX4_lock_141 : decode cX4_lock 141 = .ok (.getfield 49, 3) := by decide +kernel
theorem dX4_lock_144 : decode cX4_lock 144 = .ok (.iload 4, 2) := by decide +kernel
theorem dX4_lock_146 : decode cX4_lock 146 = .ok (.iaload, 1) := by decide +kernel
theorem dX4_lock_147 : decode cX4_lock 147 = .ok (.if_icmp .ne 7, 3) := by decide +kernel
theorem dX4_lock_150 : decode cX4_lock 150 = .ok (.iconst 0, 1) := by decide +kernel
theorem dX4_lock_151 : decode cX4_lock 151 = .ok (.goto 4, 3) := by decide +kernel
theorem dX4_lock_154 : decode cX4_lock 154 = .ok (.iconst 1, 1) := by decide +kernel
theorem dX4_lock_155 : decode cX4_lock 155 = .ok (.ireturn, 1) := by decide +kernel
theorem dX4_lock_156 : decode cX4_lock 156 = .ok (.bipush (-2), 2) := by decide +kernel
theorem dX4_lock_158 : decode cX4_lock 158 = .ok (.ireturn, 1) := by decide +kernel
set_option maxRecDepth 20000 in
theorem ggX4_digest_X4_isName : GoodIn wsX4_digest wsX4_isName := goodIn_r _ [11, 12, 18, 19, 20, 21, 22, 23, 24, 25, 26, 27, 28, 29, 30, 31, 32, 33, 34, 35, 36, 37, 38, 39, 40, 41, 42] (by decide +kernel) (by decide +kernel)
set_option maxRecDepth 20000 in
theorem gX4_digest_X4_isName : GoodIn wsX4_digest (wsV RX4 73 RX4 yX4_isName wsX4_isName) := goodIn_app (goodIn_of _ (by decide +kernel)) ggX4_digest_X4_isName
set_option maxRecDepth 20000 in
theorem ggX4_digest_X4_digestOf : GoodIn wsX4_digest wsX4_digestOf := goodIn_r _ [15, 16, 17] (by decide +kernel) (by decide +kernel)
set_option maxRecDepth 20000 in
theorem gX4_digest_X4_digestOf : GoodIn wsX4_digest (va_wsS RX4 130 yX4_digestOf wsX4_digestOf) := goodIn_app (goodIn_of _ (by decide +kernel)) ggX4_digest_X4_digestOf
theorem dX4_digest_0 : decode cX4_digest 0 = .ok (.aload_n 0, 1) := by decide +kernel
theorem dX4_digest_1 : decode cX4_digest 1 = .ok (.iconst 0, 1) := by decide +kernel
theorem dX4_digest_2 : decode cX4_digest 2 = .ok (.putfield 61, 3) := by decide +kernel
theorem dX4_digest_5 : decode cX4_digest 5 = .ok (.aload_n 0, 1) := by decide +kernel
theorem dX4_digest_6 : decode cX4_digest 6 = .ok (.iload_n 1, 1) := by decide +kernel
theorem dX4_digest_7 : decode cX4_digest 7 = .ok (.invokevirtual 73, 3) := by decide +kernel
theorem dX4_digest_10 : decode cX4_digest 10 = .ok (.ifCond .ne 7, 3) := by decide +kernel
theorem dX4_digest_13 : decode cX4_digest 13 = .ok (.ldc2_w 136, 3) := by decide +kernel
theorem dX4_digest_16 : decode cX4_digest 16 = .ok (.lreturn, 1) := by decide +kernel
theorem dX4_digest_17 : decode cX4_digest 17 = .ok (.aload_n 0, 1) := by decide +kernel
theorem dX4_digest_18 : decode cX4_digest 18 = .ok (.getfield 13, 3) := by decide +kernel
theorem dX4_digest_21 : decode cX4_digest 21 = .ok (.iload_n 1, 1) := by decide +kernel
theorem dX4_digest_22 : decode cX4_digest 22 = .ok (.iaload, 1) := by decide +kernel
theorem dX4_digest_23 : decode cX4_digest 23 = .ok (.iconst (-1), 1) := by decide +kernel
theorem dX4_digest_24 : decode cX4_digest 24 = .ok (.if_icmp .eq 18, 3) := by decide +kernel
theorem dX4_digest_27 : decode cX4_digest 27 = .ok (.aload_n 0, 1) := by decide +kernel
theorem dX4_digest_28 : decode cX4_digest 28 = .ok (.getfield 13, 3) := by decide +kernel
theorem dX4_digest_31 : decode cX4_digest 31 = .ok (.iload_n 1, 1) := by decide +kernel
theorem dX4_digest_32 : decode cX4_digest 32 = .ok (.iaload, 1) := by decide +kernel
theorem dX4_digest_33 : decode cX4_digest 33 = .ok (.aload_n 0, 1) := by decide +kernel
theorem dX4_digest_34 : decode cX4_digest 34 = .ok (.getfield 7, 3) := by decide +kernel
theorem dX4_digest_37 : decode cX4_digest 37 = .ok (.iload_n 1, 1) := by decide +kernel
theorem dX4_digest_38 : decode cX4_digest 38 = .ok (.iaload, 1) := by decide +kernel
theorem dX4_digest_39 : decode cX4_digest 39 = .ok (.if_icmp .lt 7, 3) := by decide +kernel
theorem dX4_digest_42 : decode cX4_digest 42 = .ok (.ldc2_w 138, 3) := by decide +kernel
theorem dX4_digest_45 : decode cX4_digest 45 = .ok (.lreturn, 1) := by decide +kernel
theorem dX4_digest_46 : decode cX4_digest 46 = .ok (.iload_n 1, 1) := by decide +kernel
theorem dX4_digest_47 : decode cX4_digest 47 = .ok (.aload_n 0, 1) := by decide +kernel
theorem dX4_digest_48 : decode cX4_digest 48 = .ok (.getfield 13, 3) := by decide +kernel
theorem dX4_digest_51 : decode cX4_digest 51 = .ok (.iload_n 1, 1) := by decide +kernel
theorem dX4_digest_52 : decode cX4_digest 52 = .ok (.iaload, 1) := by decide +kernel
theorem dX4_digest_53 : decode cX4_digest 53 = .ok (.invokestatic 130, 3) := by decide +kernel
theorem dX4_digest_56 : decode cX4_digest 56 = .ok (.lstore 4, 2) := by decide +kernel
theorem dX4_digest_58 : decode cX4_digest 58 = .ok (.lload_n 2, 1) := by decide +kernel
theorem dX4_digest_59 : decode cX4_digest 59 = .ok (.lload 4, 2) := by decide +kernel
theorem dX4_digest_61 : decode cX4_digest 61 = .ok (.lcmp, 1) := by decide +kernel
theorem dX4_digest_62 : decode cX4_digest 62 = .ok (.ifCond .ne 25, 3) := by decide +kernel
theorem dX4_digest_65 : decode cX4_digest 65 = .ok (.aload_n 0, 1) := by decide +kernel
theorem dX4_digest_66 : decode cX4_digest 66 = .ok (.getfield 16, 3) := by decide +kernel
theorem dX4_digest_69 : decode cX4_digest 69 = .ok (.iload_n 1, 1) := by decide +kernel
theorem dX4_digest_70 : decode cX4_digest 70 = .ok (.dup2, 1) := by decide +kernel
theorem dX4_digest_71 : decode cX4_digest 71 = .ok (.iaload, 1) := by decide +kernel
theorem dX4_digest_72 : decode cX4_digest 72 = .ok (.iconst 1, 1) := by decide +kernel
theorem dX4_digest_73 : decode cX4_digest 73 = .ok (.aload_n 0, 1) := by decide +kernel
theorem dX4_digest_74 : decode cX4_digest 74 = .ok (.getfield 13, 3) := by decide +kernel
theorem dX4_digest_77 : decode cX4_digest 77 = .ok (.iload_n 1, 1) := by decide +kernel
theorem dX4_digest_78 : decode cX4_digest 78 = .ok (.iaload, 1) := by decide +kernel
theorem dX4_digest_79 : decode cX4_digest 79 = .ok (.ishl, 1) := by decide +kernel
theorem dX4_digest_80 : decode cX4_digest 80 = .ok (.iconst (-1), 1) := by decide +kernel
theorem dX4_digest_81 : decode cX4_digest 81 = .ok (.ixor, 1) := by decide +kernel
theorem dX4_digest_82 : decode cX4_digest 82 = .ok (.iand, 1) := by decide +kernel
theorem dX4_digest_83 : decode cX4_digest 83 = .ok (.iastore, 1) := by decide +kernel
theorem dX4_digest_84 : decode cX4_digest 84 = .ok (.goto 20, 3) := by decide +kernel
theorem dX4_digest_87 : decode cX4_digest 87 = .ok (.aload_n 0, 1) := by decide +kernel
theorem dX4_digest_88 : decode cX4_digest 88 = .ok (.getfield 16, 3) := by decide +kernel
theorem dX4_digest_91 : decode cX4_digest 91 = .ok (.iload_n 1, 1) := by decide +kernel
theorem dX4_digest_92 : decode cX4_digest 92 = .ok (.dup2, 1) := by decide +kernel
theorem dX4_digest_93 : decode cX4_digest 93 = .ok (.iaload, 1) := by decide +kernel
theorem dX4_digest_94 : decode cX4_digest 94 = .ok (.iconst 1, 1) := by decide +kernel
theorem dX4_digest_95 : decode cX4_digest 95 = .ok (.aload_n 0, 1) := by decide +kernel
theorem dX4_digest_96 : decode cX4_digest 96 = .ok (.getfield 13, 3) := by decide +kernel
theorem dX4_digest_99 : decode cX4_digest 99 = .ok (.iload_n 1, 1) := by decide +kernel
theorem dX4_digest_100 : decode cX4_digest 100 = .ok (.iaload, 1) := by decide +kernel
theorem dX4_digest_101 : decode cX4_digest 101 = .ok (.ishl, 1) := by decide +kernel
theorem dX4_digest_102 : decode cX4_digest 102 = .ok (.ior, 1) := by decide +kernel
theorem dX4_digest_103 : decode cX4_digest 103 = .ok (.iastore, 1) := by decide +kernel
theorem dX4_digest_104 : decode cX4_digest 104 = .ok (.lload 4, 2) := by decide +kernel
theorem dX4_digest_106 : decode cX4_digest 106 = .ok (.lreturn, 1) := by decide +kernel
set_option maxRecDepth 20000 in
theorem ggX4_merge_X4_lookForBest : GoodIn wsX4_merge wsX4_lookForBest := goodIn_ca (goodIn_r _ [11, 12, 13, 14, 10, 15, 16, 17, 18, 2, 19, 20, 21, 22, 23, 24, 6, 25, 26, 27, 28, 29, 30, 31, 32, 33, 34, 35, 36, 37, 38, 3, 39, 40, 41, 42, 43, 44, 45, 46, 47, 48, 55, 56, 57, 58, 59, 60, 61, 62, 63, 64, 65, 66, 67, 68, 69, 70, 71, 72, 73, 74, 75, 76, 77, 78, 79] (by decide +kernel) (by decide +kernel)) (goodIn_sub (fun _ h => List.mem_cons_of_mem _ (List.mem_append_right _ h)) (by decide +kernel))
set_option maxRecDepth 20000 in
theorem gX4_merge_X4_lookForBest : GoodIn wsX4_merge (wsV RX4 114 RX4 yX4_lookForBest wsX4_lookForBest) := goodIn_app (goodIn_of _ (by decide +kernel)) ggX4_merge_X4_lookForBest
set_option maxRecDepth 20000 in
theorem ggX4_merge_X4_keep : GoodIn wsX4_merge wsX4_keep := goodIn_ca (goodIn_r _ [52, 2, 53, 5, 40, 54, 3, 55, 56, 57, 58, 59, 60, 61, 62, 63, 64, 65, 66, 67, 68, 69, 70, 71, 72, 73, 74, 75, 76, 77, 78, 79] (by decide +kernel) (by decide +kernel)) (goodIn_sub (fun _ h => List.mem_cons_of_mem _ (List.mem_append_right _ h)) (by decide +kernel))
set_option maxRecDepth 20000 in
theorem gX4_merge_X4_keep : GoodIn wsX4_merge (wsV RX4 122 RX4 yX4_keep wsX4_keep) := goodIn_app (goodIn_of _ (by decide +kernel)) ggX4_merge_X4_keep
theorem dX4_merge_0 : decode cX4_merge 0 = .ok (.aload_n 0, 1) := by decide +kernel
theorem dX4_merge_1 : decode cX4_merge 1 = .ok (.iconst 0, 1) := by decide +kernel
theorem dX4_merge_2 : decode cX4_merge 2 = .ok (.putfield 61, 3) := by decide +kernel
theorem dX4_merge_5 : decode cX4_merge 5 = .ok (.iload_n 1, 1) := by decide +kernel
theorem dX4_merge_6 : decode cX4_merge 6 = .ok (.ifCond .lt 14, 3) := by decide +kernel
theorem dX4_merge_9 : decode cX4_merge 9 = .ok (.iload_n 1, 1) := by decide +kernel
theorem dX4_merge_10 : decode cX4_merge 10 = .ok (.iconst 3, 1) := by decide +kernel
theorem dX4_merge_11 : decode cX4_merge 11 = .ok (.aload_n 0, 1) := by decide +kernel
theorem dX4_merge_12 : decode cX4_merge 12 = .ok (.getfield 65, 3) := by decide +kernel
theorem dX4_merge_15 : decode cX4_merge 15 = .ok (.imul, 1) := by decide +kernel
theorem dX4_merge_16 : decode cX4_merge 16 = .ok (.ishr, 1) := by decide +kernel
theorem dX4_merge_17 : decode cX4_merge 17 = .ok (.ifCond .eq 6, 3) := by decide +kernel
theorem dX4_merge_20 : decode cX4_merge 20 = .ok (.bipush (-2), 2) := by decide +kernel
theorem dX4_merge_22 : decode cX4_merge 22 = .ok (.ireturn, 1) := by decide +kernel
theorem dX4_merge_23 : decode cX4_merge 23 = .ok (.iconst 0, 1) := by decide +kernel
theorem dX4_merge_24 : decode cX4_merge 24 = .ok (.istore_n 2, 1) := by decide +kernel
theorem dX4_merge_25 : decode cX4_merge 25 = .ok (.iload_n 2, 1) := by decide +kernel
theorem dX4_merge_26 : decode cX4_merge 26 = .ok (.aload_n 0, 1) := by decide +kernel
theorem dX4_merge_27 : decode cX4_merge 27 = .ok (.getfield 65, 3) := by decide +kernel
theorem dX4_merge_30 : decode cX4_merge 30 = .ok (.if_icmp .ge 46, 3) := by decide +kernel
theorem dX4_merge_33 : decode cX4_merge 33 = .ok (.iload_n 1, 1) := by decide +kernel
theorem dX4_merge_34 : decode cX4_merge 34 = .ok (.iconst 3, 1) := by decide +kernel
theorem dX4_merge_35 : decode cX4_merge 35 = .ok (.iload_n 2, 1) := by decide +kernel
theorem dX4_merge_36 : decode cX4_merge 36 = .ok (.imul, 1) := by decide +kernel
theorem dX4_merge_37 : decode cX4_merge 37 = .ok (.ishr, 1) := by decide +kernel
theorem dX4_merge_38 : decode cX4_merge 38 = .ok (.bipush 7, 2) := by decide +kernel
theorem dX4_merge_40 : decode cX4_merge 40 = .ok (.iand, 1) := by decide +kernel
theorem dX4_merge_41 : decode cX4_merge 41 = .ok (.iconst 1, 1) := by decide +kernel
theorem dX4_merge_42 : decode cX4_merge 42 = .ok (.isub, 1) := by decide +kernel
theorem dX4_merge_43 : decode cX4_merge 43 = .ok (.istore_n 3, 1) := by decide +kernel
theorem dX4_merge_44 : decode cX4_merge 44 = .ok (.aload_n 0, 1) := by decide +kernel
theorem dX4_merge_45 : decode cX4_merge 45 = .ok (.getfield 34, 3) := by decide +kernel
theorem dX4_merge_48 : decode cX4_merge 48 = .ok (.iload_n 2, 1) := by decide +kernel
theorem dX4_merge_49 : decode cX4_merge 49 = .ok (.iload_n 3, 1) := by decide +kernel
theorem dX4_merge_50 : decode cX4_merge 50 = .ok (.aload_n 0, 1) := by decide +kernel
theorem dX4_merge_51 : decode cX4_merge 51 = .ok (.getfield 13, 3) := by decide +kernel
theorem dX4_merge_54 : decode cX4_merge 54 = .ok (.iload_n 2, 1) := by decide +kernel
theorem dX4_merge_55 : decode cX4_merge 55 = .ok (.iaload, 1) := by decide +kernel
theorem dX4_merge_56 : decode cX4_merge 56 = .ok (.if_icmp .le 7, 3) := by decide +kernel
theorem dX4_merge_59 : decode cX4_merge 59 = .ok (.iload_n 3, 1) := by decide +kernel
theorem dX4_merge_60 : decode cX4_merge 60 = .ok (.goto 9, 3) := by decide +kernel
theorem dX4_merge_63 : decode cX4_merge 63 = .ok (.aload_n 0, 1) := by decide +kernel
theorem dX4_merge_64 : decode cX4_merge 64 = .ok (.getfield 13, 3) := by decide +kernel
theorem dX4_merge_67 : decode cX4_merge 67 = .ok (.iload_n 2, 1) := by decide +kernel
theorem dX4_merge_68 : decode cX4_merge 68 = .ok (.iaload, 1) := by decide +kernel
theorem dX4_merge_69 : decode cX4_merge 69 = .ok (.iastore, 1) := by decide +kernel
theorem dX4_merge_70 : decode cX4_merge 70 = .ok (.iinc 2 1, 3) := by decide +kernel
theorem dX4_merge_73 : decode cX4_merge 73 = .ok (.goto (-48), 3) := by decide +kernel
theorem dX4_merge_76 : decode cX4_merge 76 = .ok (.aload_n 0, 1) := by decide +kernel
theorem dX4_merge_77 : decode cX4_merge 77 = .ok (.invokevirtual 114, 3) := by decide +kernel
theorem dX4_merge_80 : decode cX4_merge 80 = .ok (.ifCond .ne 5, 3) := by decide +kernel
theorem dX4_merge_83 : decode cX4_merge 83 = .ok (.iconst 0, 1) := by decide +kernel
theorem dX4_merge_84 : decode cX4_merge 84 = .ok (.ireturn, 1) := by decide +kernel
theorem dX4_merge_85 : decode cX4_merge 85 = .ok (.aload_n 0, 1) := by decide +kernel
theorem dX4_merge_86 : decode cX4_merge 86 = .ok (.invokevirtual 122, 3) := by decide +kernel
theorem dX4_merge_89 : decode cX4_merge 89 = .ok (.istore_n 2, 1) := by decide +kernel
theorem dX4_merge_90 : decode cX4_merge 90 = .ok (.iconst 0, 1) := by decide +kernel
theorem dX4_merge_91 : decode cX4_merge 91 = .ok (.istore_n 3, 1) := by decide +kernel
theorem dX4_merge_92 : decode cX4_merge 92 = .ok (.iload_n 3, 1) := by decide +kernel
theorem dX4_merge_93 : decode cX4_merge 93 = .ok (.aload_n 0, 1) := by decide +kernel
theorem dX4_merge_94 : decode cX4_merge 94 = .ok (.getfield 65, 3) := by decide +kernel
theorem dX4_merge_97 : decode cX4_merge 97 = .ok (.if_icmp .ge 43, 3) := by decide +kernel
theorem dX4_merge_100 : decode cX4_merge 100 = .ok (.aload_n 0, 1) := by decide +kernel
theorem dX4_merge_101 : decode cX4_merge 101 = .ok (.getfield 46, 3) := by decide +kernel
theorem dX4_merge_104 : decode cX4_merge 104 = .ok (.iload_n 3, 1) := by decide +kernel
theorem dX4_merge_105 : decode cX4_merge 105 = .ok (.iaload, 1) := by decide +kernel
theorem dX4_merge_106 : decode cX4_merge 106 = .ok (.aload_n 0, 1) := by decide +kernel
theorem dX4_merge_107 : decode cX4_merge 107 = .ok (.getfield 13, 3) := by decide +kernel
theorem dX4_merge_110 : decode cX4_merge 110 = .ok (.iload_n 3, 1) := by decide +kernel
theorem dX4_merge_111 : decode cX4_merge 111 = .ok (.iaload, 1) := by decide +kernel
theorem dX4_merge_112 : decode cX4_merge 112 = .ok (.if_icmp .eq 10, 3) := by decide +kernel
theorem dX4_merge_115 : decode cX4_merge 115 = .ok (.aload_n 0, 1) := by decide +kernel
theorem dX4_merge_116 : decode cX4_merge 116 = .ok (.getfield 16, 3) := by decide +kernel
theorem dX4_merge_119 : decode cX4_merge 119 = .ok (.iload_n 3, 1) := by decide +kernel
theorem dX4_merge_120 : decode cX4_merge 120 = .ok (.iconst 0, 1) := by decide +kernel
theorem dX4_merge_121 : decode cX4_merge 121 = .ok (.iastore, 1) := by decide +kernel
theorem dX4_merge_122 : decode cX4_merge 122 = .ok (.aload_n 0, 1) := by decide +kernel
theorem dX4_merge_123 : decode cX4_merge 123 = .ok (.getfield 13, 3) := by decide +kernel
theorem dX4_merge_126 : decode cX4_merge 126 = .ok (.iload_n 3, 1) := by decide +kernel
theorem dX4_merge_127 : decode cX4_merge 127 = .ok (.aload_n 0, 1) := by decide +kernel
theorem dX4_merge_128 : decode cX4_merge 128 = .ok (.getfield 46, 3) := by decide +kernel
theorem dX4_merge_131 : decode cX4_merge 131 = .ok (.iload_n 3, 1) := by decide +kernel
theorem dX4_merge_132 : decode cX4_merge 132 = .ok (.iaload, 1) := by decide +kernel
theorem dX4_merge_133 : decode cX4_merge 133 = .ok (.iastore, 1) := by decide +kernel
theorem dX4_merge_134 : decode cX4_merge 134 = .ok (.iinc 3 1, 3) := by decide +kernel
theorem dX4_merge_137 : decode cX4_merge 137 = .ok (.goto (-45), 3) := by decide +kernel
theorem dX4_merge_140 : decode cX4_merge 140 = .ok (.iconst 1, 1) := by decide +kernel
theorem dX4_merge_141 : decode cX4_merge 141 = .ok (.ireturn, 1) := by decide +kernel
theorem dJx00060_init_a7421_0 : decode cJx00060_init_a7421 0 = .ok (.aload_n 0, 1) := by decide +kernel
theorem dJx00060_init_a7421_1 : decode cJx00060_init_a7421 1 = .ok (.aload_n 1, 1) := by decide +kernel
theorem dJx00060_init_a7421_2 : decode cJx00060_init_a7421 2 = .ok (.invokespecial 7, 3) := by decide +kernel
theorem dJx00060_init_a7421_5 : decode cJx00060_init_a7421 5 = .ok (.return_, 1) := by decide +kernel
theorem dJ9_max_7cf53_0 : decode cJ9_max_7cf53 0 = .ok (.iload_n 0, 1) := by decide +kernel
theorem dJ9_max_7cf53_1 : decode cJ9_max_7cf53 1 = .ok (.iload_n 1, 1) := by decide +kernel
theorem dJ9_max_7cf53_2 : decode cJ9_max_7cf53 2 = .ok (.if_icmp .lt 7, 3) := by decide +kernel
theorem dJ9_max_7cf53_5 : decode cJ9_max_7cf53 5 = .ok (.iload_n 0, 1) := by decide +kernel
theorem dJ9_max_7cf53_6 : decode cJ9_max_7cf53 6 = .ok (.goto 4, 3) := by decide +kernel
theorem dJ9_max_7cf53_9 : decode cJ9_max_7cf53 9 = .ok (.iload_n 1, 1) := by decide +kernel
theorem dJ9_max_7cf53_10 : decode cJ9_max_7cf53 10 = .ok (.ireturn, 1) := by decide +kernel
theorem dJ9_min_7cf53_0 : decode cJ9_min_7cf53 0 = .ok (.iload_n 0, 1) := by decide +kernel
theorem dJ9_min_7cf53_1 : decode cJ9_min_7cf53 1 = .ok (.iload_n 1, 1) := by decide +kernel
theorem dJ9_min_7cf53_2 : decode cJ9_min_7cf53 2 = .ok (.if_icmp .gt 7, 3) := by decide +kernel
theorem dJ9_min_7cf53_5 : decode cJ9_min_7cf53 5 = .ok (.iload_n 0, 1) := by decide +kernel
theorem dJ9_min_7cf53_6 : decode cJ9_min_7cf53 6 = .ok (.goto 4, 3) := by decide +kernel
theorem dJ9_min_7cf53_9 : decode cJ9_min_7cf53 9 = .ok (.iload_n 1, 1) := by decide +kernel
theorem dJ9_min_7cf53_10 : decode cJ9_min_7cf53 10 = .ok (.ireturn, 1) := by decide +kernel
theorem dJ7_fill_53178_0 : decode cJ7_fill_53178 0 = .ok (.iconst 0, 1) := by decide +kernel
theorem dJ7_fill_53178_1 : decode cJ7_fill_53178 1 = .ok (.istore_n 2, 1) := by decide +kernel
theorem dJ7_fill_53178_2 : decode cJ7_fill_53178 2 = .ok (.aload_n 0, 1) := by decide +kernel
theorem dJ7_fill_53178_3 : decode cJ7_fill_53178 3 = .ok (.arraylength, 1) := by decide +kernel
theorem dJ7_fill_53178_4 : decode cJ7_fill_53178 4 = .ok (.istore_n 3, 1) := by decide +kernel
theorem dJ7_fill_53178_5 : decode cJ7_fill_53178 5 = .ok (.iload_n 2, 1) := by decide +kernel
theorem dJ7_fill_53178_6 : decode cJ7_fill_53178 6 = .ok (.iload_n 3, 1) := by decide +kernel
theorem dJ7_fill_53178_7 : decode cJ7_fill_53178 7 = .ok (.if_icmp .ge 13, 3) := by decide +kernel
theorem dJ7_fill_53178_10 : decode cJ7_fill_53178 10 = .ok (.aload_n 0, 1) := by decide +kernel
theorem dJ7_fill_53178_11 : decode cJ7_fill_53178 11 = .ok (.iload_n 2, 1) := by decide +kernel
theorem dJ7_fill_53178_12 : decode cJ7_fill_53178 12 = .ok (.iload_n 1, 1) := by decide +kernel
theorem dJ7_fill_53178_13 : decode cJ7_fill_53178 13 = .ok (.iastore, 1) := by decide +kernel
theorem dJ7_fill_53178_14 : decode cJ7_fill_53178 14 = .ok (.iinc 2 1, 3) := by decide +kernel
theorem dJ7_fill_53178_17 : decode cJ7_fill_53178 17 = .ok (.goto (-12), 3) := by decide +kernel
theorem dJ7_fill_53178_20 : decode cJ7_fill_53178 20 = .ok (.return_, 1) := by decide +kernel
set_option maxRecDepth 20000 in
theorem ggL_row_X3_row : GoodIn wsL_row wsX3_row := goodIn_ca (goodIn_r _ [6, 7, 8, 9, 10, 11, 12, 13, 14, 15, 16, 17, 18, 19, 20, 21, 22, 23, 24, 25, 26, 27] (by decide +kernel) (by decide +kernel)) (goodIn_sub (fun _ h => List.mem_cons_of_mem _ (List.mem_append_right _ h)) (by decide +kernel))
set_option maxRecDepth 20000 in
theorem gL_row_X3_row : GoodIn wsL_row (wsV RL 7 RX3 yX3_row wsX3_row) := goodIn_app (goodIn_of _ (by decide +kernel)) ggL_row_X3_row
theorem dL_row_0 : decode cL_row 0 = .ok (.aload_n 2, 1) := by decide +kernel
theorem dL_row_1 : decode cL_row 1 = .ok (.iconst 0, 1) := by decide +kernel
theorem dL_row_2 : decode cL_row 2 = .ok (.aload_n 0, 1) := by decide +kernel
theorem dL_row_3 : decode cL_row 3 = .ok (.iload_n 1, 1) := by decide +kernel
theorem dL_row_4 : decode cL_row 4 = .ok (.invokevirtual 7, 3) := by decide +kernel
theorem dL_row_7 : decode cL_row 7 = .ok (.i2l, 1) := by decide +kernel
theorem dL_row_8 : decode cL_row 8 = .ok (.lastore, 1) := by decide +kernel
theorem dL_row_9 : decode cL_row 9 = .ok (.goto 6, 3) := by decide +kernel
theorem dL_row_12 : decode cL_row 12 = .ok (.astore_n 3, 1) := by decide +kernel
theorem dL_row_13 : decode cL_row 13 = .ok (.iconst 1, 1) := by decide +kernel
theorem dL_row_14 : decode cL_row 14 = .ok (.ireturn, 1) := by decide +kernel
theorem dL_row_15 : decode cL_row 15 = .ok (.iconst 0, 1) := by decide +kernel
theorem dL_row_16 : decode cL_row 16 = .ok (.ireturn, 1) := by decide +kernel
set_option maxRecDepth 20000 in
theorem ggL_law_X3_init : GoodIn wsL_law wsX3_init := goodIn_r _ [10, 11, 12, 13, 14, 15, 16, 17, 18, 19, 20, 21, 22, 23, 24, 25, 26, 27, 28, 29, 30, 31, 32, 33, 34, 35, 36, 37, 38, 39, 40, 41, 42, 43, 44, 45, 46, 47, 48, 49, 50, 51, 52, 53, 54, 55, 56, 57, 58, 59, 60, 61, 388, 389, 353, 354, 355, 356, 357, 358, 359, 360, 361, 362, 390, 391, 392, 393, 394, 395, 396, 397, 398, 399, 400, 401, 402] (by decide +kernel) (by decide +kernel)
set_option maxRecDepth 20000 in
theorem gL_law_X3_init : GoodIn wsL_law (wsX3_init) := ggL_law_X3_init
set_option maxRecDepth 20000 in
theorem ggL_law_X4_init : GoodIn wsL_law wsX4_init := goodIn_r _ [64, 65, 12, 13, 26, 66, 67, 68, 69, 70, 71, 72, 73, 74, 75, 76, 77, 78, 79, 80, 81, 82, 363, 364, 365, 366, 367, 368, 369, 370, 371, 372, 373, 374, 375, 376, 377, 378, 379, 380, 381, 382, 383, 384, 385, 386, 387] (by decide +kernel) (by decide +kernel)
set_option maxRecDepth 20000 in
theorem gL_law_X4_init : GoodIn wsL_law (wsX4_init) := ggL_law_X4_init
set_option maxRecDepth 20000 in
theorem ggL_law_X3_name : GoodIn wsL_law wsX3_name := goodIn_ca (goodIn_r _ [86, 32, 27, 28, 17, 87, 88, 2, 89, 90, 16, 91, 92, 37, 353, 354, 355, 356, 357, 358, 359, 360, 361, 362, 388, 389] (by decide +kernel) (by decide +kernel)) (goodIn_sub (fun _ h => List.mem_append_right _ h) (by decide +kernel))
set_option maxRecDepth 20000 in
theorem gL_law_X3_name : GoodIn wsL_law (wsV RL 19 RX3 yX3_name wsX3_name) := goodIn_app (goodIn_of _ (by decide +kernel)) ggL_law_X3_name
set_option maxRecDepth 20000 in
theorem ggL_law_X4_name : GoodIn wsL_law wsX4_name := goodIn_ca (goodIn_r _ [96, 97, 98, 66, 67, 363, 364, 365, 366, 367, 368, 369, 370, 371, 372, 373, 374, 375, 376, 377, 378, 379, 380, 381, 382, 383, 384, 385, 386, 387] (by decide +kernel) (by decide +kernel)) (goodIn_sub (fun _ h => List.mem_append_right _ h) (by decide +kernel))
set_option maxRecDepth 20000 in
theorem gL_law_X4_name : GoodIn wsL_law (wsV RL 23 RX4 yX4_name wsX4_name) := goodIn_app (goodIn_of _ (by decide +kernel)) ggL_law_X4_name
set_option maxRecDepth 20000 in
theorem ggL_law_X3_needs : GoodIn wsL_law wsX3_needs := goodIn_ca (goodIn_r _ [102, 27, 33, 17, 103, 104, 105, 2, 106, 32, 87, 88, 89, 107, 108, 109, 110, 16, 111, 112, 38, 113, 114, 115, 116, 37, 117, 118, 119, 120, 121, 122, 123, 31, 353, 354, 355, 356, 357, 358, 359, 360, 361, 362, 388, 389] (by decide +kernel) (by decide +kernel)) (goodIn_sub (fun _ h => List.mem_append_right _ h) (by decide +kernel))
set_option maxRecDepth 20000 in
theorem gL_law_X3_needs : GoodIn wsL_law (wsV RL 26 RX3 yX3_needs wsX3_needs) := goodIn_app (goodIn_of _ (by decide +kernel)) ggL_law_X3_needs
set_option maxRecDepth 20000 in
theorem ggL_law_X4_needs : GoodIn wsL_law wsX4_needs := goodIn_ca (goodIn_r _ [127, 97, 66, 128, 129, 130, 5, 131, 98, 132, 133, 134, 135, 136, 69, 70, 71, 72, 73, 137, 363, 364, 365, 366, 367, 368, 369, 370, 371, 372, 373, 374, 375, 376, 377, 378, 379, 380, 381, 382, 383, 384, 385, 386, 387] (by decide +kernel) (by decide +kernel)) (goodIn_sub (fun _ h => List.mem_append_right _ h) (by decide +kernel))
set_option maxRecDepth 20000 in
theorem gL_law_X4_needs : GoodIn wsL_law (wsV RL 30 RX4 yX4_needs wsX4_needs) := goodIn_app (goodIn_of _ (by decide +kernel)) ggL_law_X4_needs
set_option maxRecDepth 20000 in
theorem ggL_law_X3_want : GoodIn wsL_law wsX3_want := goodIn_ca (goodIn_r _ [141, 107, 108, 2, 109, 142, 143, 144, 145, 33, 17, 103, 104, 105, 106, 32, 114, 16, 115, 116, 37, 120, 121, 122, 123, 31, 353, 354, 355, 356, 357, 358, 359, 360, 361, 362, 388, 389] (by decide +kernel) (by decide +kernel)) (goodIn_sub (fun _ h => List.mem_append_right _ h) (by decide +kernel))
set_option maxRecDepth 20000 in
theorem gL_law_X3_want : GoodIn wsL_law (wsV RL 31 RX3 yX3_want wsX3_want) := goodIn_app (goodIn_of _ (by decide +kernel)) ggL_law_X3_want
set_option maxRecDepth 20000 in
theorem ggL_law_X4_want : GoodIn wsL_law wsX4_want := goodIn_ca (goodIn_r _ [149, 97, 128, 129, 130, 5, 131, 98, 132, 133, 134, 135, 136, 69, 70, 71, 72, 73, 137, 363, 364, 365, 366, 367, 368, 369, 370, 371, 372, 373, 374, 375, 376, 377, 378, 379, 380, 381, 382, 383, 384, 385, 386, 387] (by decide +kernel) (by decide +kernel)) (goodIn_sub (fun _ h => List.mem_append_right _ h) (by decide +kernel))
set_option maxRecDepth 20000 in
theorem gL_law_X4_want : GoodIn wsL_law (wsV RL 35 RX4 yX4_want wsX4_want) := goodIn_app (goodIn_of _ (by decide +kernel)) ggL_law_X4_want
set_option maxRecDepth 20000 in
theorem ggL_law_X3_force : GoodIn wsL_law wsX3_force := goodIn_ca (goodIn_r _ [153, 107, 108, 2, 109, 142, 143, 144, 145, 33, 17, 103, 104, 105, 106, 32, 114, 16, 115, 116, 37, 120, 121, 122, 123, 31, 353, 354, 355, 356, 357, 358, 359, 360, 361, 362, 388, 389] (by decide +kernel) (by decide +kernel)) (goodIn_sub (fun _ h => List.mem_append_right _ h) (by decide +kernel))
set_option maxRecDepth 20000 in
theorem gL_law_X3_force : GoodIn wsL_law (wsV RL 36 RX3 yX3_force wsX3_force) := goodIn_app (goodIn_of _ (by decide +kernel)) ggL_law_X3_force
set_option maxRecDepth 20000 in
theorem ggL_law_X4_force : GoodIn wsL_law wsX4_force := goodIn_ca (goodIn_r _ [157, 97, 128, 129, 130, 5, 131, 98, 132, 133, 134, 135, 136, 69, 70, 71, 72, 73, 137, 363, 364, 365, 366, 367, 368, 369, 370, 371, 372, 373, 374, 375, 376, 377, 378, 379, 380, 381, 382, 383, 384, 385, 386, 387] (by decide +kernel) (by decide +kernel)) (goodIn_sub (fun _ h => List.mem_append_right _ h) (by decide +kernel))
set_option maxRecDepth 20000 in
theorem gL_law_X4_force : GoodIn wsL_law (wsV RL 39 RX4 yX4_force wsX4_force) := goodIn_app (goodIn_of _ (by decide +kernel)) ggL_law_X4_force
set_option maxRecDepth 20000 in
theorem ggL_law_X3_group : GoodIn wsL_law wsX3_group := goodIn_ca (goodIn_r _ [161, 33, 17, 103, 104, 105, 2, 106, 32, 110, 16, 111, 112, 38, 113, 114, 115, 116, 37, 117, 118, 119, 120, 121, 122, 123, 31, 353, 354, 355, 356, 357, 358, 359, 360, 361, 362, 388, 389] (by decide +kernel) (by decide +kernel)) (goodIn_sub (fun _ h => List.mem_append_right _ h) (by decide +kernel))
set_option maxRecDepth 20000 in
theorem gL_law_X3_group : GoodIn wsL_law (wsV RL 40 RX3 yX3_group wsX3_group) := goodIn_app (goodIn_of _ (by decide +kernel)) ggL_law_X3_group
set_option maxRecDepth 20000 in
theorem ggL_law_X4_group : GoodIn wsL_law wsX4_group := goodIn_ca (goodIn_r _ [165, 97, 128, 129, 130, 5, 131, 98, 132, 133, 134, 135, 136, 69, 70, 71, 72, 73, 137, 363, 364, 365, 366, 367, 368, 369, 370, 371, 372, 373, 374, 375, 376, 377, 378, 379, 380, 381, 382, 383, 384, 385, 386, 387] (by decide +kernel) (by decide +kernel)) (goodIn_sub (fun _ h => List.mem_append_right _ h) (by decide +kernel))
set_option maxRecDepth 20000 in
theorem gL_law_X4_group : GoodIn wsL_law (wsV RL 43 RX4 yX4_group wsX4_group) := goodIn_app (goodIn_of _ (by decide +kernel)) ggL_law_X4_group
set_option maxRecDepth 20000 in
theorem ggL_law_X3_solve : GoodIn wsL_law wsX3_solve := goodIn_ca (goodIn_r _ [169, 21, 32, 28, 30, 170, 171, 172, 173, 25, 174, 20, 175, 176, 53, 177, 178, 179, 180, 50, 51, 52, 47, 46, 54, 181, 182, 183, 184, 185, 186, 187, 188, 49, 48, 189, 190, 191, 192, 193, 194, 195, 196, 2, 197, 198, 199, 200, 201, 202, 203, 118, 16, 119, 204, 205, 206, 207, 208, 209, 210, 211, 212, 213, 214, 215, 216, 217, 24, 218, 219, 59, 60, 61, 58, 220, 221, 222, 353, 354, 355, 356, 357, 358, 359, 360, 361, 362, 390, 391, 392, 393, 394, 395, 396, 397, 398, 388, 389, 399, 400, 401, 402] (by decide +kernel) (by decide +kernel)) (goodIn_sub (fun _ h => List.mem_append_right _ h) (by decide +kernel))
set_option maxRecDepth 20000 in
theorem gL_law_X3_solve : GoodIn wsL_law (wsV RL 44 RX3 yX3_solve wsX3_solve) := goodIn_app (goodIn_of _ (by decide +kernel)) ggL_law_X3_solve
set_option maxRecDepth 20000 in
theorem ggL_law_X4_solve : GoodIn wsL_law wsX4_solve := goodIn_ca (goodIn_r _ [226, 97, 98, 74, 67, 227, 228, 229, 230, 5, 231, 232, 233, 234, 235, 236, 237, 238, 75, 239, 240, 241, 242, 66, 68, 136, 70, 69, 73, 72, 71, 243, 244, 245, 246, 80, 81, 82, 76, 77, 247, 248, 249, 250, 251, 252, 253, 254, 255, 256, 257, 258, 259, 260, 261, 262, 263, 78, 79, 363, 364, 365, 366, 367, 368, 369, 370, 371, 372, 373, 374, 375, 376, 377, 378, 379, 380, 381, 382, 383, 384, 385, 386, 387] (by decide +kernel) (by decide +kernel)) (goodIn_sub (fun _ h => List.mem_append_right _ h) (by decide +kernel))
set_option maxRecDepth 20000 in
theorem gL_law_X4_solve : GoodIn wsL_law (wsV RL 47 RX4 yX4_solve wsX4_solve) := goodIn_app (goodIn_of _ (by decide +kernel)) ggL_law_X4_solve
set_option maxRecDepth 20000 in
theorem ggL_law_X3_chosen : GoodIn wsL_law wsX3_chosen := goodIn_ca (goodIn_r _ [267, 25, 103, 104, 105, 2, 106, 32, 268, 269, 270, 353, 354, 355, 356, 357, 358, 359, 360, 361, 362, 399, 400, 401, 402] (by decide +kernel) (by decide +kernel)) (goodIn_sub (fun _ h => List.mem_append_right _ h) (by decide +kernel))
set_option maxRecDepth 20000 in
theorem gL_law_X3_chosen : GoodIn wsL_law (wsV RL 48 RX3 yX3_chosen wsX3_chosen) := goodIn_app (goodIn_of _ (by decide +kernel)) ggL_law_X3_chosen
set_option maxRecDepth 20000 in
theorem ggL_law_X4_chosen : GoodIn wsL_law wsX4_chosen := goodIn_ca (goodIn_r _ [274, 97, 263, 78, 363, 364, 365, 366, 367, 368, 369, 370, 371, 372, 373, 374, 375, 376, 377, 378, 379, 380, 381, 382, 383, 384, 385, 386, 387] (by decide +kernel) (by decide +kernel)) (goodIn_sub (fun _ h => List.mem_append_right _ h) (by decide +kernel))
set_option maxRecDepth 20000 in
theorem gL_law_X4_chosen : GoodIn wsL_law (wsV RL 51 RX4 yX4_chosen wsX4_chosen) := goodIn_app (goodIn_of _ (by decide +kernel)) ggL_law_X4_chosen
set_option maxRecDepth 20000 in
theorem ggL_law_X3_down : GoodIn wsL_law wsX3_down := goodIn_r _ [278, 25, 279, 280, 2, 281, 353, 354, 355, 356, 357, 358, 359, 360, 361, 362, 399, 400, 401, 402] (by decide +kernel) (by decide +kernel)
set_option maxRecDepth 20000 in
theorem gL_law_X3_down : GoodIn wsL_law (wsV RL 52 RX3 yX3_down wsX3_down) := goodIn_app (goodIn_of _ (by decide +kernel)) ggL_law_X3_down
set_option maxRecDepth 20000 in
theorem ggL_law_X4_down : GoodIn wsL_law wsX4_down := goodIn_ca (goodIn_r _ [285, 97, 263, 78, 79, 363, 364, 365, 366, 367, 368, 369, 370, 371, 372, 373, 374, 375, 376, 377, 378, 379, 380, 381, 382, 383, 384, 385, 386, 387] (by decide +kernel) (by decide +kernel)) (goodIn_sub (fun _ h => List.mem_append_right _ h) (by decide +kernel))
set_option maxRecDepth 20000 in
theorem gL_law_X4_down : GoodIn wsL_law (wsV RL 55 RX4 yX4_down wsX4_down) := goodIn_app (goodIn_of _ (by decide +kernel)) ggL_law_X4_down
set_option maxRecDepth 20000 in
theorem ggL_law_X3_lock : GoodIn wsL_law wsX3_lock := goodIn_ca (goodIn_r _ [289, 25, 290, 279, 280, 2, 281, 103, 104, 105, 106, 32, 268, 269, 270, 291, 292, 293, 294, 295, 353, 354, 355, 356, 357, 358, 359, 360, 361, 362, 399, 400, 401, 402] (by decide +kernel) (by decide +kernel)) (goodIn_sub (fun _ h => List.mem_append_right _ h) (by decide +kernel))
set_option maxRecDepth 20000 in
theorem gL_law_X3_lock : GoodIn wsL_law (wsV RL 56 RX3 yX3_lock wsX3_lock) := goodIn_app (goodIn_of _ (by decide +kernel)) ggL_law_X3_lock
set_option maxRecDepth 20000 in
theorem ggL_law_X4_lock : GoodIn wsL_law wsX4_lock := goodIn_ca (goodIn_r _ [299, 97, 263, 78, 300, 79, 301, 302, 5, 303, 304, 305, 363, 364, 365, 366, 367, 368, 369, 370, 371, 372, 373, 374, 375, 376, 377, 378, 379, 380, 381, 382, 383, 384, 385, 386, 387] (by decide +kernel) (by decide +kernel)) (goodIn_sub (fun _ h => List.mem_append_right _ h) (by decide +kernel))
set_option maxRecDepth 20000 in
theorem gL_law_X4_lock : GoodIn wsL_law (wsV RL 59 RX4 yX4_lock wsX4_lock) := goodIn_app (goodIn_of _ (by decide +kernel)) ggL_law_X4_lock
set_option maxRecDepth 20000 in
theorem ggL_law_X3_digest : GoodIn wsL_law wsX3_digest := goodIn_ca (goodIn_r _ [309, 310, 28, 27, 311, 30, 103, 104, 105, 2, 106, 32, 268, 269, 270, 291, 292, 293, 294, 295, 353, 354, 355, 356, 357, 358, 359, 360, 361, 362] (by decide +kernel) (by decide +kernel)) (goodIn_sub (fun _ h => List.mem_append_right _ h) (by decide +kernel))
set_option maxRecDepth 20000 in
theorem gL_law_X3_digest : GoodIn wsL_law (wsV RL 60 RX3 yX3_digest wsX3_digest) := goodIn_app (goodIn_of _ (by decide +kernel)) ggL_law_X3_digest
set_option maxRecDepth 20000 in
theorem ggL_law_X4_digest : GoodIn wsL_law wsX4_digest := goodIn_ca (goodIn_r _ [315, 97, 316, 67, 66, 317, 68, 128, 129, 130, 5, 131, 98, 301, 302, 303, 304, 305, 363, 364, 365, 366, 367, 368, 369, 370, 371, 372, 373, 374, 375, 376, 377, 378, 379, 380, 381, 382, 383, 384, 385, 386, 387] (by decide +kernel) (by decide +kernel)) (goodIn_sub (fun _ h => List.mem_append_right _ h) (by decide +kernel))
set_option maxRecDepth 20000 in
theorem gL_law_X4_digest : GoodIn wsL_law (wsV RL 64 RX4 yX4_digest wsX4_digest) := goodIn_app (goodIn_of _ (by decide +kernel)) ggL_law_X4_digest
set_option maxRecDepth 20000 in
theorem ggL_law_X3_merge : GoodIn wsL_law wsX3_merge := goodIn_ca (goodIn_r _ [321, 32, 29, 28, 322, 323, 172, 324, 21, 30, 25, 174, 20, 175, 176, 53, 177, 178, 179, 180, 50, 51, 52, 47, 46, 54, 181, 182, 183, 184, 185, 186, 187, 188, 49, 48, 189, 190, 191, 192, 193, 194, 195, 196, 2, 197, 198, 199, 200, 201, 202, 203, 118, 16, 119, 204, 205, 206, 217, 24, 218, 219, 59, 60, 61, 58, 220, 221, 222, 325, 326, 327, 328, 353, 354, 355, 356, 357, 358, 359, 360, 361, 362, 390, 391, 392, 393, 394, 395, 396, 397, 398, 388, 389, 399, 400, 401, 402] (by decide +kernel) (by decide +kernel)) (goodIn_sub (fun _ h => List.mem_append_right _ h) (by decide +kernel))
set_option maxRecDepth 20000 in
theorem gL_law_X3_merge : GoodIn wsL_law (wsV RL 65 RX3 yX3_merge wsX3_merge) := goodIn_app (goodIn_of _ (by decide +kernel)) ggL_law_X3_merge
set_option maxRecDepth 20000 in
theorem ggL_law_X4_merge : GoodIn wsL_law wsX4_merge := goodIn_ca (goodIn_r _ [332, 97, 98, 74, 67, 78, 68, 228, 229, 230, 5, 231, 232, 233, 234, 235, 236, 237, 238, 75, 239, 240, 241, 242, 66, 136, 70, 69, 73, 72, 71, 243, 244, 245, 246, 80, 81, 82, 76, 227, 77, 247, 248, 249, 250, 251, 252, 253, 254, 259, 260, 261, 262, 263, 79, 363, 364, 365, 366, 367, 368, 369, 370, 371, 372, 373, 374, 375, 376, 377, 378, 379, 380, 381, 382, 383, 384, 385, 386, 387] (by decide +kernel) (by decide +kernel)) (goodIn_sub (fun _ h => List.mem_append_right _ h) (by decide +kernel))
set_option maxRecDepth 20000 in
theorem gL_law_X4_merge : GoodIn wsL_law (wsV RL 68 RX4 yX4_merge wsX4_merge) := goodIn_app (goodIn_of _ (by decide +kernel)) ggL_law_X4_merge
set_option maxRecDepth 20000 in
theorem ggL_law_L_row : GoodIn wsL_law wsL_row := goodIn_ca (goodIn_r _ [336, 337, 338, 339, 340, 2, 341, 33, 342, 343, 344, 31, 353, 354, 355, 356, 357, 358, 359, 360, 361, 362, 403, 404, 405, 406, 407, 408] (by decide +kernel) (by decide +kernel)) (goodIn_sub (fun _ h => List.mem_append_right _ h) (by decide +kernel))
set_option maxRecDepth 20000 in
theorem gL_law_L_row : GoodIn wsL_law (va_wsS RL 69 yL_row wsL_row) := goodIn_app (goodIn_of _ (by decide +kernel)) ggL_law_L_row
set_option maxRecDepth 20000 in
theorem ggL_law_X4_row : GoodIn wsL_law wsX4_row := goodIn_ca (goodIn_r _ [348, 136, 97, 69, 70, 71, 72, 363, 364, 365, 366, 367, 368, 369, 370, 371, 372, 373, 374, 375, 376, 377, 378, 379, 380, 381, 382, 383, 384, 385, 386, 387] (by decide +kernel) (by decide +kernel)) (goodIn_sub (fun _ h => List.mem_append_right _ h) (by decide +kernel))
set_option maxRecDepth 20000 in
theorem gL_law_X4_row : GoodIn wsL_law (wsV RL 74 RX4 yX4_row wsX4_row) := goodIn_app (goodIn_of _ (by decide +kernel)) ggL_law_X4_row
set_option maxRecDepth 20000 in
theorem ggL_law_X4_thrown : GoodIn wsL_law wsX4_thrown := goodIn_r _ [352, 97, 363, 364, 365, 366, 367, 368, 369, 370, 371, 372, 373, 374, 375, 376, 377, 378, 379, 380, 381, 382, 383, 384, 385, 386, 387] (by decide +kernel) (by decide +kernel)
set_option maxRecDepth 20000 in
theorem gL_law_X4_thrown : GoodIn wsL_law (wsV RL 75 RX4 yX4_thrown wsX4_thrown) := goodIn_app (goodIn_of _ (by decide +kernel)) ggL_law_X4_thrown
theorem dL_law_0 : decode cL_law 0 = .ok (.new 8, 3) := by decide +kernel
theorem dL_law_3 : decode cL_law 3 = .ok (.dup, 1) := by decide +kernel
theorem dL_law_4 : decode cL_law 4 = .ok (.invokespecial 15, 3) := by decide +kernel
theorem dL_law_7 : decode cL_law 7 = .ok (.astore_n 1, 1) := by decide +kernel
theorem dL_law_8 : decode cL_law 8 = .ok (.new 16, 3) := by decide +kernel
theorem dL_law_11 : decode cL_law 11 = .ok (.dup, 1) := by decide +kernel
theorem dL_law_12 : decode cL_law 12 = .ok (.invokespecial 18, 3) := by decide +kernel
theorem dL_law_15 : decode cL_law 15 = .ok (.astore_n 2, 1) := by decide +kernel
theorem dL_law_16 : decode cL_law 16 = .ok (.iconst 1, 1) := by decide +kernel
theorem dL_law_17 : decode cL_law 17 = .ok (.newarray .long, 2) := by decide +kernel
theorem dL_law_19 : decode cL_law 19 = .ok (.astore_n 3, 1) := by decide +kernel
theorem dL_law_20 : decode cL_law 20 = .ok (.iconst 0, 1) := by decide +kernel
theorem dL_law_21 : decode cL_law 21 = .ok (.istore 4, 2) := by decide +kernel
theorem dL_law_23 : decode cL_law 23 = .ok (.iload 4, 2) := by decide +kernel
theorem dL_law_25 : decode cL_law 25 = .ok (.aload_n 0, 1) := by decide +kernel
theorem dL_law_26 : decode cL_law 26 = .ok (.arraylength, 1) := by decide +kernel
theorem dL_law_27 : decode cL_law 27 = .ok (.bipush 6, 2) := by decide +kernel
theorem dL_law_29 : decode cL_law 29 = .ok (.isub, 1) := by decide +kernel
theorem dL_law_30 : decode cL_law 30 = .ok (.if_icmp .gt 692, 3) := by decide +kernel
theorem dL_law_33 : decode cL_law 33 = .ok (.aload_n 0, 1) := by decide +kernel
theorem dL_law_34 : decode cL_law 34 = .ok (.iload 4, 2) := by decide +kernel
theorem dL_law_36 : decode cL_law 36 = .ok (.iaload, 1) := by decide +kernel
theorem dL_law_37 : decode cL_law 37 = .ok (.bipush 15, 2) := by decide +kernel
theorem dL_law_39 : decode cL_law 39 = .ok (.iand, 1) := by decide +kernel
theorem dL_law_40 : decode cL_law 40 = .ok (.tableswitch 676 0 11 #[64, 101, 194, 263, 332, 369, 438, 463, 488, 525, 595, 620], 64) := by decide +kernel
theorem dL_law_104 : decode cL_law 104 = .ok (.aload_n 1, 1) := by decide +kernel
theorem dL_law_105 : decode cL_law 105 = .ok (.aload_n 0, 1) := by decide +kernel
theorem dL_law_106 : decode cL_law 106 = .ok (.iload 4, 2) := by decide +kernel
theorem dL_law_108 : decode cL_law 108 = .ok (.iconst 1, 1) := by decide +kernel
theorem dL_law_109 : decode cL_law 109 = .ok (.iadd, 1) := by decide +kernel
theorem dL_law_110 : decode cL_law 110 = .ok (.iaload, 1) := by decide +kernel
theorem dL_law_111 : decode cL_law 111 = .ok (.aload_n 0, 1) := by decide +kernel
theorem dL_law_112 : decode cL_law 112 = .ok (.iload 4, 2) := by decide +kernel
theorem dL_law_114 : decode cL_law 114 = .ok (.iconst 2, 1) := by decide +kernel
theorem dL_law_115 : decode cL_law 115 = .ok (.iadd, 1) := by decide +kernel
theorem dL_law_116 : decode cL_law 116 = .ok (.iaload, 1) := by decide +kernel
theorem dL_law_117 : decode cL_law 117 = .ok (.invokevirtual 19, 3) := by decide +kernel
theorem dL_law_120 : decode cL_law 120 = .ok (.aload_n 2, 1) := by decide +kernel
theorem dL_law_121 : decode cL_law 121 = .ok (.aload_n 0, 1) := by decide +kernel
theorem dL_law_122 : decode cL_law 122 = .ok (.iload 4, 2) := by decide +kernel
theorem dL_law_124 : decode cL_law 124 = .ok (.iconst 1, 1) := by decide +kernel
theorem dL_law_125 : decode cL_law 125 = .ok (.iadd, 1) := by decide +kernel
theorem dL_law_126 : decode cL_law 126 = .ok (.iaload, 1) := by decide +kernel
theorem dL_law_127 : decode cL_law 127 = .ok (.aload_n 0, 1) := by decide +kernel
theorem dL_law_128 : decode cL_law 128 = .ok (.iload 4, 2) := by decide +kernel
theorem dL_law_130 : decode cL_law 130 = .ok (.iconst 2, 1) := by decide +kernel
theorem dL_law_131 : decode cL_law 131 = .ok (.iadd, 1) := by decide +kernel
theorem dL_law_132 : decode cL_law 132 = .ok (.iaload, 1) := by decide +kernel
theorem dL_law_133 : decode cL_law 133 = .ok (.invokevirtual 23, 3) := by decide +kernel
theorem dL_law_136 : decode cL_law 136 = .ok (.if_icmp .eq 580, 3) := by decide +kernel
theorem dL_law_139 : decode cL_law 139 = .ok (.iconst 0, 1) := by decide +kernel
theorem dL_law_140 : decode cL_law 140 = .ok (.ireturn, 1) := by decide +kernel
theorem dL_law_141 : decode cL_law 141 = .ok (.aload_n 1, 1) := by decide +kernel
theorem dL_law_142 : decode cL_law 142 = .ok (.aload_n 0, 1) := by decide +kernel
theorem dL_law_143 : decode cL_law 143 = .ok (.iload 4, 2) := by decide +kernel
theorem dL_law_145 : decode cL_law 145 = .ok (.iconst 1, 1) := by decide +kernel
theorem dL_law_146 : decode cL_law 146 = .ok (.iadd, 1) := by decide +kernel
theorem dL_law_147 : decode cL_law 147 = .ok (.iaload, 1) := by decide +kernel
theorem dL_law_148 : decode cL_law 148 = .ok (.aload_n 0, 1) := by decide +kernel
theorem dL_law_149 : decode cL_law 149 = .ok (.iload 4, 2) := by decide +kernel
theorem dL_law_151 : decode cL_law 151 = .ok (.iconst 2, 1) := by decide +kernel
theorem dL_law_152 : decode cL_law 152 = .ok (.iadd, 1) := by decide +kernel
theorem dL_law_153 : decode cL_law 153 = .ok (.iaload, 1) := by decide +kernel
theorem dL_law_154 : decode cL_law 154 = .ok (.aload_n 0, 1) := by decide +kernel
theorem dL_law_155 : decode cL_law 155 = .ok (.iload 4, 2) := by decide +kernel
theorem dL_law_157 : decode cL_law 157 = .ok (.iconst 3, 1) := by decide +kernel
theorem dL_law_158 : decode cL_law 158 = .ok (.iadd, 1) := by decide +kernel
theorem dL_law_159 : decode cL_law 159 = .ok (.iaload, 1) := by decide +kernel
theorem dL_law_160 : decode cL_law 160 = .ok (.aload_n 0, 1) := by decide +kernel
theorem dL_law_161 : decode cL_law 161 = .ok (.iload 4, 2) := by decide +kernel
theorem dL_law_163 : decode cL_law 163 = .ok (.iconst 4, 1) := by decide +kernel
theorem dL_law_164 : decode cL_law 164 = .ok (.iadd, 1) := by decide +kernel
theorem dL_law_165 : decode cL_law 165 = .ok (.iaload, 1) := by decide +kernel
theorem dL_law_166 : decode cL_law 166 = .ok (.i2l, 1) := by decide +kernel
theorem dL_law_167 : decode cL_law 167 = .ok (.bipush 32, 2) := by decide +kernel
theorem dL_law_169 : decode cL_law 169 = .ok (.lshl, 1) := by decide +kernel
theorem dL_law_170 : decode cL_law 170 = .ok (.aload_n 0, 1) := by decide +kernel
theorem dL_law_171 : decode cL_law 171 = .ok (.iload 4, 2) := by decide +kernel
theorem dL_law_173 : decode cL_law 173 = .ok (.iconst 5, 1) := by decide +kernel
theorem dL_law_174 : decode cL_law 174 = .ok (.iadd, 1) := by decide +kernel
theorem dL_law_175 : decode cL_law 175 = .ok (.iaload, 1) := by decide +kernel
theorem dL_law_176 : decode cL_law 176 = .ok (.i2l, 1) := by decide +kernel
theorem dL_law_177 : decode cL_law 177 = .ok (.ldc2_w 24, 3) := by decide +kernel
theorem dL_law_180 : decode cL_law 180 = .ok (.land, 1) := by decide +kernel
theorem dL_law_181 : decode cL_law 181 = .ok (.lor, 1) := by decide +kernel
theorem dL_law_182 : decode cL_law 182 = .ok (.invokevirtual 26, 3) := by decide +kernel
theorem dL_law_185 : decode cL_law 185 = .ok (.aload_n 2, 1) := by decide +kernel
theorem dL_law_186 : decode cL_law 186 = .ok (.aload_n 0, 1) := by decide +kernel
theorem dL_law_187 : decode cL_law 187 = .ok (.iload 4, 2) := by decide +kernel
theorem dL_law_189 : decode cL_law 189 = .ok (.iconst 1, 1) := by decide +kernel
theorem dL_law_190 : decode cL_law 190 = .ok (.iadd, 1) := by decide +kernel
theorem dL_law_191 : decode cL_law 191 = .ok (.iaload, 1) := by decide +kernel
theorem dL_law_192 : decode cL_law 192 = .ok (.aload_n 0, 1) := by decide +kernel
theorem dL_law_193 : decode cL_law 193 = .ok (.iload 4, 2) := by decide +kernel
theorem dL_law_195 : decode cL_law 195 = .ok (.iconst 2, 1) := by decide +kernel
theorem dL_law_196 : decode cL_law 196 = .ok (.iadd, 1) := by decide +kernel
theorem dL_law_197 : decode cL_law 197 = .ok (.iaload, 1) := by decide +kernel
theorem dL_law_198 : decode cL_law 198 = .ok (.aload_n 0, 1) := by decide +kernel
theorem dL_law_199 : decode cL_law 199 = .ok (.iload 4, 2) := by decide +kernel
theorem dL_law_201 : decode cL_law 201 = .ok (.iconst 3, 1) := by decide +kernel
theorem dL_law_202 : decode cL_law 202 = .ok (.iadd, 1) := by decide +kernel
theorem dL_law_203 : decode cL_law 203 = .ok (.iaload, 1) := by decide +kernel
theorem dL_law_204 : decode cL_law 204 = .ok (.aload_n 0, 1) := by decide +kernel
theorem dL_law_205 : decode cL_law 205 = .ok (.iload 4, 2) := by decide +kernel
theorem dL_law_207 : decode cL_law 207 = .ok (.iconst 4, 1) := by decide +kernel
theorem dL_law_208 : decode cL_law 208 = .ok (.iadd, 1) := by decide +kernel
theorem dL_law_209 : decode cL_law 209 = .ok (.iaload, 1) := by decide +kernel
theorem dL_law_210 : decode cL_law 210 = .ok (.i2l, 1) := by decide +kernel
theorem dL_law_211 : decode cL_law 211 = .ok (.bipush 32, 2) := by decide +kernel
theorem dL_law_213 : decode cL_law 213 = .ok (.lshl, 1) := by decide +kernel
theorem dL_law_214 : decode cL_law 214 = .ok (.aload_n 0, 1) := by decide +kernel
theorem dL_law_215 : decode cL_law 215 = .ok (.iload 4, 2) := by decide +kernel
theorem dL_law_217 : decode cL_law 217 = .ok (.iconst 5, 1) := by decide +kernel
theorem dL_law_218 : decode cL_law 218 = .ok (.iadd, 1) := by decide +kernel
theorem dL_law_219 : decode cL_law 219 = .ok (.iaload, 1) := by decide +kernel
theorem dL_law_220 : decode cL_law 220 = .ok (.i2l, 1) := by decide +kernel
theorem dL_law_221 : decode cL_law 221 = .ok (.ldc2_w 24, 3) := by decide +kernel
theorem dL_law_224 : decode cL_law 224 = .ok (.land, 1) := by decide +kernel
theorem dL_law_225 : decode cL_law 225 = .ok (.lor, 1) := by decide +kernel
theorem dL_law_226 : decode cL_law 226 = .ok (.invokevirtual 30, 3) := by decide +kernel
theorem dL_law_229 : decode cL_law 229 = .ok (.if_icmp .eq 487, 3) := by decide +kernel
theorem dL_law_232 : decode cL_law 232 = .ok (.iconst 0, 1) := by decide +kernel
theorem dL_law_233 : decode cL_law 233 = .ok (.ireturn, 1) := by decide +kernel
theorem dL_law_234 : decode cL_law 234 = .ok (.aload_n 1, 1) := by decide +kernel
theorem dL_law_235 : decode cL_law 235 = .ok (.aload_n 0, 1) := by decide +kernel
theorem dL_law_236 : decode cL_law 236 = .ok (.iload 4, 2) := by decide +kernel
theorem dL_law_238 : decode cL_law 238 = .ok (.iconst 1, 1) := by decide +kernel
theorem dL_law_239 : decode cL_law 239 = .ok (.iadd, 1) := by decide +kernel
theorem dL_law_240 : decode cL_law 240 = .ok (.iaload, 1) := by decide +kernel
theorem dL_law_241 : decode cL_law 241 = .ok (.aload_n 0, 1) := by decide +kernel
theorem dL_law_242 : decode cL_law 242 = .ok (.iload 4, 2) := by decide +kernel
theorem dL_law_244 : decode cL_law 244 = .ok (.iconst 2, 1) := by decide +kernel
theorem dL_law_245 : decode cL_law 245 = .ok (.iadd, 1) := by decide +kernel
theorem dL_law_246 : decode cL_law 246 = .ok (.iaload, 1) := by decide +kernel
theorem dL_law_247 : decode cL_law 247 = .ok (.i2l, 1) := by decide +kernel
theorem dL_law_248 : decode cL_law 248 = .ok (.bipush 32, 2) := by decide +kernel
theorem dL_law_250 : decode cL_law 250 = .ok (.lshl, 1) := by decide +kernel
theorem dL_law_251 : decode cL_law 251 = .ok (.aload_n 0, 1) := by decide +kernel
theorem dL_law_252 : decode cL_law 252 = .ok (.iload 4, 2) := by decide +kernel
theorem dL_law_254 : decode cL_law 254 = .ok (.iconst 3, 1) := by decide +kernel
theorem dL_law_255 : decode cL_law 255 = .ok (.iadd, 1) := by decide +kernel
theorem dL_law_256 : decode cL_law 256 = .ok (.iaload, 1) := by decide +kernel
theorem dL_law_257 : decode cL_law 257 = .ok (.i2l, 1) := by decide +kernel
theorem dL_law_258 : decode cL_law 258 = .ok (.ldc2_w 24, 3) := by decide +kernel
theorem dL_law_261 : decode cL_law 261 = .ok (.land, 1) := by decide +kernel
theorem dL_law_262 : decode cL_law 262 = .ok (.lor, 1) := by decide +kernel
theorem dL_law_263 : decode cL_law 263 = .ok (.invokevirtual 31, 3) := by decide +kernel
theorem dL_law_266 : decode cL_law 266 = .ok (.aload_n 2, 1) := by decide +kernel
theorem dL_law_267 : decode cL_law 267 = .ok (.aload_n 0, 1) := by decide +kernel
theorem dL_law_268 : decode cL_law 268 = .ok (.iload 4, 2) := by decide +kernel
theorem dL_law_270 : decode cL_law 270 = .ok (.iconst 1, 1) := by decide +kernel
theorem dL_law_271 : decode cL_law 271 = .ok (.iadd, 1) := by decide +kernel
theorem dL_law_272 : decode cL_law 272 = .ok (.iaload, 1) := by decide +kernel
theorem dL_law_273 : decode cL_law 273 = .ok (.aload_n 0, 1) := by decide +kernel
theorem dL_law_274 : decode cL_law 274 = .ok (.iload 4, 2) := by decide +kernel
theorem dL_law_276 : decode cL_law 276 = .ok (.iconst 2, 1) := by decide +kernel
theorem dL_law_277 : decode cL_law 277 = .ok (.iadd, 1) := by decide +kernel
theorem dL_law_278 : decode cL_law 278 = .ok (.iaload, 1) := by decide +kernel
theorem dL_law_279 : decode cL_law 279 = .ok (.i2l, 1) := by decide +kernel
theorem dL_law_280 : decode cL_law 280 = .ok (.bipush 32, 2) := by decide +kernel
theorem dL_law_282 : decode cL_law 282 = .ok (.lshl, 1) := by decide +kernel
theorem dL_law_283 : decode cL_law 283 = .ok (.aload_n 0, 1) := by decide +kernel
theorem dL_law_284 : decode cL_law 284 = .ok (.iload 4, 2) := by decide +kernel
theorem dL_law_286 : decode cL_law 286 = .ok (.iconst 3, 1) := by decide +kernel
theorem dL_law_287 : decode cL_law 287 = .ok (.iadd, 1) := by decide +kernel
theorem dL_law_288 : decode cL_law 288 = .ok (.iaload, 1) := by decide +kernel
theorem dL_law_289 : decode cL_law 289 = .ok (.i2l, 1) := by decide +kernel
theorem dL_law_290 : decode cL_law 290 = .ok (.ldc2_w 24, 3) := by decide +kernel
theorem dL_law_293 : decode cL_law 293 = .ok (.land, 1) := by decide +kernel
theorem dL_law_294 : decode cL_law 294 = .ok (.lor, 1) := by decide +kernel
theorem dL_law_295 : decode cL_law 295 = .ok (.invokevirtual 35, 3) := by decide +kernel
theorem dL_law_298 : decode cL_law 298 = .ok (.if_icmp .eq 418, 3) := by decide +kernel
theorem dL_law_301 : decode cL_law 301 = .ok (.iconst 0, 1) := by decide +kernel
theorem dL_law_302 : decode cL_law 302 = .ok (.ireturn, 1) := by decide +kernel
theorem dL_law_303 : decode cL_law 303 = .ok (.aload_n 1, 1) := by decide +kernel
theorem dL_law_304 : decode cL_law 304 = .ok (.aload_n 0, 1) := by decide +kernel
theorem dL_law_305 : decode cL_law 305 = .ok (.iload 4, 2) := by decide +kernel
theorem dL_law_307 : decode cL_law 307 = .ok (.iconst 1, 1) := by decide +kernel
theorem dL_law_308 : decode cL_law 308 = .ok (.iadd, 1) := by decide +kernel
theorem dL_law_309 : decode cL_law 309 = .ok (.iaload, 1) := by decide +kernel
theorem dL_law_310 : decode cL_law 310 = .ok (.aload_n 0, 1) := by decide +kernel
theorem dL_law_311 : decode cL_law 311 = .ok (.iload 4, 2) := by decide +kernel
theorem dL_law_313 : decode cL_law 313 = .ok (.iconst 2, 1) := by decide +kernel
theorem dL_law_314 : decode cL_law 314 = .ok (.iadd, 1) := by decide +kernel
theorem dL_law_315 : decode cL_law 315 = .ok (.iaload, 1) := by decide +kernel
theorem dL_law_316 : decode cL_law 316 = .ok (.i2l, 1) := by decide +kernel
theorem dL_law_317 : decode cL_law 317 = .ok (.bipush 32, 2) := by decide +kernel
theorem dL_law_319 : decode cL_law 319 = .ok (.lshl, 1) := by decide +kernel
theorem dL_law_320 : decode cL_law 320 = .ok (.aload_n 0, 1) := by decide +kernel
theorem dL_law_321 : decode cL_law 321 = .ok (.iload 4, 2) := by decide +kernel
theorem dL_law_323 : decode cL_law 323 = .ok (.iconst 3, 1) := by decide +kernel
theorem dL_law_324 : decode cL_law 324 = .ok (.iadd, 1) := by decide +kernel
theorem dL_law_325 : decode cL_law 325 = .ok (.iaload, 1) := by decide +kernel
theorem dL_law_326 : decode cL_law 326 = .ok (.i2l, 1) := by decide +kernel
theorem dL_law_327 : decode cL_law 327 = .ok (.ldc2_w 24, 3) := by decide +kernel
theorem dL_law_330 : decode cL_law 330 = .ok (.land, 1) := by decide +kernel
theorem dL_law_331 : decode cL_law 331 = .ok (.lor, 1) := by decide +kernel
theorem dL_law_332 : decode cL_law 332 = .ok (.invokevirtual 36, 3) := by decide +kernel
theorem dL_law_335 : decode cL_law 335 = .ok (.aload_n 2, 1) := by decide +kernel
theorem dL_law_336 : decode cL_law 336 = .ok (.aload_n 0, 1) := by decide +kernel
theorem dL_law_337 : decode cL_law 337 = .ok (.iload 4, 2) := by decide +kernel
theorem dL_law_339 : decode cL_law 339 = .ok (.iconst 1, 1) := by decide +kernel
theorem dL_law_340 : decode cL_law 340 = .ok (.iadd, 1) := by decide +kernel
theorem dL_law_341 : decode cL_law 341 = .ok (.iaload, 1) := by decide +kernel
theorem dL_law_342 : decode cL_law 342 = .ok (.aload_n 0, 1) := by decide +kernel
theorem dL_law_343 : decode cL_law 343 = .ok (.iload 4, 2) := by decide +kernel
theorem dL_law_345 : decode cL_law 345 = .ok (.iconst 2, 1) := by decide +kernel
theorem dL_law_346 : decode cL_law 346 = .ok (.iadd, 1) := by decide +kernel
theorem dL_law_347 : decode cL_law 347 = .ok (.iaload, 1) := by decide +kernel
theorem dL_law_348 : decode cL_law 348 = .ok (.i2l, 1) := by decide +kernel
theorem dL_law_349 : decode cL_law 349 = .ok (.bipush 32, 2) := by decide +kernel
theorem dL_law_351 : decode cL_law 351 = .ok (.lshl, 1) := by decide +kernel
theorem dL_law_352 : decode cL_law 352 = .ok (.aload_n 0, 1) := by decide +kernel
theorem dL_law_353 : decode cL_law 353 = .ok (.iload 4, 2) := by decide +kernel
theorem dL_law_355 : decode cL_law 355 = .ok (.iconst 3, 1) := by decide +kernel
theorem dL_law_356 : decode cL_law 356 = .ok (.iadd, 1) := by decide +kernel
theorem dL_law_357 : decode cL_law 357 = .ok (.iaload, 1) := by decide +kernel
theorem dL_law_358 : decode cL_law 358 = .ok (.i2l, 1) := by decide +kernel
theorem dL_law_359 : decode cL_law 359 = .ok (.ldc2_w 24, 3) := by decide +kernel
theorem dL_law_362 : decode cL_law 362 = .ok (.land, 1) := by decide +kernel
theorem dL_law_363 : decode cL_law 363 = .ok (.lor, 1) := by decide +kernel
theorem dL_law_364 : decode cL_law 364 = .ok (.invokevirtual 39, 3) := by decide +kernel
theorem dL_law_367 : decode cL_law 367 = .ok (.if_icmp .eq 349, 3) := by decide +kernel
theorem dL_law_370 : decode cL_law 370 = .ok (.iconst 0, 1) := by decide +kernel
theorem dL_law_371 : decode cL_law 371 = .ok (.ireturn, 1) := by decide +kernel
theorem dL_law_372 : decode cL_law 372 = .ok (.aload_n 1, 1) := by decide +kernel
theorem dL_law_373 : decode cL_law 373 = .ok (.aload_n 0, 1) := by decide +kernel
theorem dL_law_374 : decode cL_law 374 = .ok (.iload 4, 2) := by decide +kernel
theorem dL_law_376 : decode cL_law 376 = .ok (.iconst 1, 1) := by decide +kernel
theorem dL_law_377 : decode cL_law 377 = .ok (.iadd, 1) := by decide +kernel
theorem dL_law_378 : decode cL_law 378 = .ok (.iaload, 1) := by decide +kernel
theorem dL_law_379 : decode cL_law 379 = .ok (.aload_n 0, 1) := by decide +kernel
theorem dL_law_380 : decode cL_law 380 = .ok (.iload 4, 2) := by decide +kernel
theorem dL_law_382 : decode cL_law 382 = .ok (.iconst 2, 1) := by decide +kernel
theorem dL_law_383 : decode cL_law 383 = .ok (.iadd, 1) := by decide +kernel
theorem dL_law_384 : decode cL_law 384 = .ok (.iaload, 1) := by decide +kernel
theorem dL_law_385 : decode cL_law 385 = .ok (.invokevirtual 40, 3) := by decide +kernel
theorem dL_law_388 : decode cL_law 388 = .ok (.aload_n 2, 1) := by decide +kernel
theorem dL_law_389 : decode cL_law 389 = .ok (.aload_n 0, 1) := by decide +kernel
theorem dL_law_390 : decode cL_law 390 = .ok (.iload 4, 2) := by decide +kernel
theorem dL_law_392 : decode cL_law 392 = .ok (.iconst 1, 1) := by decide +kernel
theorem dL_law_393 : decode cL_law 393 = .ok (.iadd, 1) := by decide +kernel
theorem dL_law_394 : decode cL_law 394 = .ok (.iaload, 1) := by decide +kernel
theorem dL_law_395 : decode cL_law 395 = .ok (.aload_n 0, 1) := by decide +kernel
theorem dL_law_396 : decode cL_law 396 = .ok (.iload 4, 2) := by decide +kernel
theorem dL_law_398 : decode cL_law 398 = .ok (.iconst 2, 1) := by decide +kernel
theorem dL_law_399 : decode cL_law 399 = .ok (.iadd, 1) := by decide +kernel
theorem dL_law_400 : decode cL_law 400 = .ok (.iaload, 1) := by decide +kernel
theorem dL_law_401 : decode cL_law 401 = .ok (.invokevirtual 43, 3) := by decide +kernel
theorem dL_law_404 : decode cL_law 404 = .ok (.if_icmp .eq 312, 3) := by decide +kernel
theorem dL_law_407 : decode cL_law 407 = .ok (.iconst 0, 1) := by decide +kernel
theorem dL_law_408 : decode cL_law 408 = .ok (.ireturn, 1) := by decide +kernel
theorem dL_law_409 : decode cL_law 409 = .ok (.aload_n 1, 1) := by decide +kernel
theorem dL_law_410 : decode cL_law 410 = .ok (.aload_n 0, 1) := by decide +kernel
theorem dL_law_411 : decode cL_law 411 = .ok (.iload 4, 2) := by decide +kernel
theorem dL_law_413 : decode cL_law 413 = .ok (.iconst 1, 1) := by decide +kernel
theorem dL_law_414 : decode cL_law 414 = .ok (.iadd, 1) := by decide +kernel
theorem dL_law_415 : decode cL_law 415 = .ok (.iaload, 1) := by decide +kernel
theorem dL_law_416 : decode cL_law 416 = .ok (.aload_n 0, 1) := by decide +kernel
theorem dL_law_417 : decode cL_law 417 = .ok (.iload 4, 2) := by decide +kernel
theorem dL_law_419 : decode cL_law 419 = .ok (.iconst 2, 1) := by decide +kernel
theorem dL_law_420 : decode cL_law 420 = .ok (.iadd, 1) := by decide +kernel
theorem dL_law_421 : decode cL_law 421 = .ok (.iaload, 1) := by decide +kernel
theorem dL_law_422 : decode cL_law 422 = .ok (.i2l, 1) := by decide +kernel
theorem dL_law_423 : decode cL_law 423 = .ok (.bipush 32, 2) := by decide +kernel
theorem dL_law_425 : decode cL_law 425 = .ok (.lshl, 1) := by decide +kernel
theorem dL_law_426 : decode cL_law 426 = .ok (.aload_n 0, 1) := by decide +kernel
theorem dL_law_427 : decode cL_law 427 = .ok (.iload 4, 2) := by decide +kernel
theorem dL_law_429 : decode cL_law 429 = .ok (.iconst 3, 1) := by decide +kernel
theorem dL_law_430 : decode cL_law 430 = .ok (.iadd, 1) := by decide +kernel
theorem dL_law_431 : decode cL_law 431 = .ok (.iaload, 1) := by decide +kernel
theorem dL_law_432 : decode cL_law 432 = .ok (.i2l, 1) := by decide +kernel
theorem dL_law_433 : decode cL_law 433 = .ok (.ldc2_w 24, 3) := by decide +kernel
theorem dL_law_436 : decode cL_law 436 = .ok (.land, 1) := by decide +kernel
theorem dL_law_437 : decode cL_law 437 = .ok (.lor, 1) := by decide +kernel
theorem dL_law_438 : decode cL_law 438 = .ok (.invokevirtual 44, 3) := by decide +kernel
theorem dL_law_441 : decode cL_law 441 = .ok (.aload_n 2, 1) := by decide +kernel
theorem dL_law_442 : decode cL_law 442 = .ok (.aload_n 0, 1) := by decide +kernel
theorem dL_law_443 : decode cL_law 443 = .ok (.iload 4, 2) := by decide +kernel
theorem dL_law_445 : decode cL_law 445 = .ok (.iconst 1, 1) := by decide +kernel
theorem dL_law_446 : decode cL_law 446 = .ok (.iadd, 1) := by decide +kernel
theorem dL_law_447 : decode cL_law 447 = .ok (.iaload, 1) := by decide +kernel
theorem dL_law_448 : decode cL_law 448 = .ok (.aload_n 0, 1) := by decide +kernel
theorem dL_law_449 : decode cL_law 449 = .ok (.iload 4, 2) := by decide +kernel
theorem dL_law_451 : decode cL_law 451 = .ok (.iconst 2, 1) := by decide +kernel
theorem dL_law_452 : decode cL_law 452 = .ok (.iadd, 1) := by decide +kernel
theorem dL_law_453 : decode cL_law 453 = .ok (.iaload, 1) := by decide +kernel
theorem dL_law_454 : decode cL_law 454 = .ok (.i2l, 1) := by decide +kernel
theorem dL_law_455 : decode cL_law 455 = .ok (.bipush 32, 2) := by decide +kernel
theorem dL_law_457 : decode cL_law 457 = .ok (.lshl, 1) := by decide +kernel
theorem dL_law_458 : decode cL_law 458 = .ok (.aload_n 0, 1) := by decide +kernel
theorem dL_law_459 : decode cL_law 459 = .ok (.iload 4, 2) := by decide +kernel
theorem dL_law_461 : decode cL_law 461 = .ok (.iconst 3, 1) := by decide +kernel
theorem dL_law_462 : decode cL_law 462 = .ok (.iadd, 1) := by decide +kernel
theorem dL_law_463 : decode cL_law 463 = .ok (.iaload, 1) := by decide +kernel
theorem dL_law_464 : decode cL_law 464 = .ok (.i2l, 1) := by decide +kernel
theorem dL_law_465 : decode cL_law 465 = .ok (.ldc2_w 24, 3) := by decide +kernel
theorem dL_law_468 : decode cL_law 468 = .ok (.land, 1) := by decide +kernel
theorem dL_law_469 : decode cL_law 469 = .ok (.lor, 1) := by decide +kernel
theorem dL_law_470 : decode cL_law 470 = .ok (.invokevirtual 47, 3) := by decide +kernel
theorem dL_law_473 : decode cL_law 473 = .ok (.if_icmp .eq 243, 3) := by decide +kernel
theorem dL_law_476 : decode cL_law 476 = .ok (.iconst 0, 1) := by decide +kernel
theorem dL_law_477 : decode cL_law 477 = .ok (.ireturn, 1) := by decide +kernel
theorem dL_law_478 : decode cL_law 478 = .ok (.aload_n 1, 1) := by decide +kernel
theorem dL_law_479 : decode cL_law 479 = .ok (.aload_n 0, 1) := by decide +kernel
theorem dL_law_480 : decode cL_law 480 = .ok (.iload 4, 2) := by decide +kernel
theorem dL_law_482 : decode cL_law 482 = .ok (.iconst 1, 1) := by decide +kernel
theorem dL_law_483 : decode cL_law 483 = .ok (.iadd, 1) := by decide +kernel
theorem dL_law_484 : decode cL_law 484 = .ok (.iaload, 1) := by decide +kernel
theorem dL_law_485 : decode cL_law 485 = .ok (.invokevirtual 48, 3) := by decide +kernel
theorem dL_law_488 : decode cL_law 488 = .ok (.aload_n 2, 1) := by decide +kernel
theorem dL_law_489 : decode cL_law 489 = .ok (.aload_n 0, 1) := by decide +kernel
theorem dL_law_490 : decode cL_law 490 = .ok (.iload 4, 2) := by decide +kernel
theorem dL_law_492 : decode cL_law 492 = .ok (.iconst 1, 1) := by decide +kernel
theorem dL_law_493 : decode cL_law 493 = .ok (.iadd, 1) := by decide +kernel
theorem dL_law_494 : decode cL_law 494 = .ok (.iaload, 1) := by decide +kernel
theorem dL_law_495 : decode cL_law 495 = .ok (.invokevirtual 51, 3) := by decide +kernel
theorem dL_law_498 : decode cL_law 498 = .ok (.if_icmp .eq 218, 3) := by decide +kernel
theorem dL_law_501 : decode cL_law 501 = .ok (.iconst 0, 1) := by decide +kernel
theorem dL_law_502 : decode cL_law 502 = .ok (.ireturn, 1) := by decide +kernel
theorem dL_law_503 : decode cL_law 503 = .ok (.aload_n 1, 1) := by decide +kernel
theorem dL_law_504 : decode cL_law 504 = .ok (.aload_n 0, 1) := by decide +kernel
theorem dL_law_505 : decode cL_law 505 = .ok (.iload 4, 2) := by decide +kernel
theorem dL_law_507 : decode cL_law 507 = .ok (.iconst 1, 1) := by decide +kernel
theorem dL_law_508 : decode cL_law 508 = .ok (.iadd, 1) := by decide +kernel
theorem dL_law_509 : decode cL_law 509 = .ok (.iaload, 1) := by decide +kernel
theorem dL_law_510 : decode cL_law 510 = .ok (.invokevirtual 52, 3) := by decide +kernel
theorem dL_law_513 : decode cL_law 513 = .ok (.aload_n 2, 1) := by decide +kernel
theorem dL_law_514 : decode cL_law 514 = .ok (.aload_n 0, 1) := by decide +kernel
theorem dL_law_515 : decode cL_law 515 = .ok (.iload 4, 2) := by decide +kernel
theorem dL_law_517 : decode cL_law 517 = .ok (.iconst 1, 1) := by decide +kernel
theorem dL_law_518 : decode cL_law 518 = .ok (.iadd, 1) := by decide +kernel
theorem dL_law_519 : decode cL_law 519 = .ok (.iaload, 1) := by decide +kernel
theorem dL_law_520 : decode cL_law 520 = .ok (.invokevirtual 55, 3) := by decide +kernel
theorem dL_law_523 : decode cL_law 523 = .ok (.if_icmp .eq 193, 3) := by decide +kernel
theorem dL_law_526 : decode cL_law 526 = .ok (.iconst 0, 1) := by decide +kernel
theorem dL_law_527 : decode cL_law 527 = .ok (.ireturn, 1) := by decide +kernel
theorem dL_law_528 : decode cL_law 528 = .ok (.aload_n 1, 1) := by decide +kernel
theorem dL_law_529 : decode cL_law 529 = .ok (.aload_n 0, 1) := by decide +kernel
theorem dL_law_530 : decode cL_law 530 = .ok (.iload 4, 2) := by decide +kernel
theorem dL_law_532 : decode cL_law 532 = .ok (.iconst 1, 1) := by decide +kernel
theorem dL_law_533 : decode cL_law 533 = .ok (.iadd, 1) := by decide +kernel
theorem dL_law_534 : decode cL_law 534 = .ok (.iaload, 1) := by decide +kernel
theorem dL_law_535 : decode cL_law 535 = .ok (.aload_n 0, 1) := by decide +kernel
theorem dL_law_536 : decode cL_law 536 = .ok (.iload 4, 2) := by decide +kernel
theorem dL_law_538 : decode cL_law 538 = .ok (.iconst 2, 1) := by decide +kernel
theorem dL_law_539 : decode cL_law 539 = .ok (.iadd, 1) := by decide +kernel
theorem dL_law_540 : decode cL_law 540 = .ok (.iaload, 1) := by decide +kernel
theorem dL_law_541 : decode cL_law 541 = .ok (.invokevirtual 56, 3) := by decide +kernel
theorem dL_law_544 : decode cL_law 544 = .ok (.aload_n 2, 1) := by decide +kernel
theorem dL_law_545 : decode cL_law 545 = .ok (.aload_n 0, 1) := by decide +kernel
theorem dL_law_546 : decode cL_law 546 = .ok (.iload 4, 2) := by decide +kernel
theorem dL_law_548 : decode cL_law 548 = .ok (.iconst 1, 1) := by decide +kernel
theorem dL_law_549 : decode cL_law 549 = .ok (.iadd, 1) := by decide +kernel
theorem dL_law_550 : decode cL_law 550 = .ok (.iaload, 1) := by decide +kernel
theorem dL_law_551 : decode cL_law 551 = .ok (.aload_n 0, 1) := by decide +kernel
theorem dL_law_552 : decode cL_law 552 = .ok (.iload 4, 2) := by decide +kernel
theorem dL_law_554 : decode cL_law 554 = .ok (.iconst 2, 1) := by decide +kernel
theorem dL_law_555 : decode cL_law 555 = .ok (.iadd, 1) := by decide +kernel
theorem dL_law_556 : decode cL_law 556 = .ok (.iaload, 1) := by decide +kernel
theorem dL_law_557 : decode cL_law 557 = .ok (.invokevirtual 59, 3) := by decide +kernel
theorem dL_law_560 : decode cL_law 560 = .ok (.if_icmp .eq 156, 3) := by decide +kernel
theorem dL_law_563 : decode cL_law 563 = .ok (.iconst 0, 1) := by decide +kernel
theorem dL_law_564 : decode cL_law 564 = .ok (.ireturn, 1) := by decide +kernel
theorem dL_law_565 : decode cL_law 565 = .ok (.aload_n 1, 1) := by decide +kernel
theorem dL_law_566 : decode cL_law 566 = .ok (.aload_n 0, 1) := by decide +kernel
theorem dL_law_567 : decode cL_law 567 = .ok (.iload 4, 2) := by decide +kernel
theorem dL_law_569 : decode cL_law 569 = .ok (.iconst 1, 1) := by decide +kernel
theorem dL_law_570 : decode cL_law 570 = .ok (.iadd, 1) := by decide +kernel
theorem dL_law_571 : decode cL_law 571 = .ok (.iaload, 1) := by decide +kernel
theorem dL_law_572 : decode cL_law 572 = .ok (.aload_n 0, 1) := by decide +kernel
theorem dL_law_573 : decode cL_law 573 = .ok (.iload 4, 2) := by decide +kernel
theorem dL_law_575 : decode cL_law 575 = .ok (.iconst 2, 1) := by decide +kernel
theorem dL_law_576 : decode cL_law 576 = .ok (.iadd, 1) := by decide +kernel
theorem dL_law_577 : decode cL_law 577 = .ok (.iaload, 1) := by decide +kernel
theorem dL_law_578 : decode cL_law 578 = .ok (.i2l, 1) := by decide +kernel
theorem dL_law_579 : decode cL_law 579 = .ok (.bipush 32, 2) := by decide +kernel
theorem dL_law_581 : decode cL_law 581 = .ok (.lshl, 1) := by decide +kernel
theorem dL_law_582 : decode cL_law 582 = .ok (.aload_n 0, 1) := by decide +kernel
theorem dL_law_583 : decode cL_law 583 = .ok (.iload 4, 2) := by decide +kernel
theorem dL_law_585 : decode cL_law 585 = .ok (.iconst 3, 1) := by decide +kernel
theorem dL_law_586 : decode cL_law 586 = .ok (.iadd, 1) := by decide +kernel
theorem dL_law_587 : decode cL_law 587 = .ok (.iaload, 1) := by decide +kernel
theorem dL_law_588 : decode cL_law 588 = .ok (.i2l, 1) := by decide +kernel
theorem dL_law_589 : decode cL_law 589 = .ok (.ldc2_w 24, 3) := by decide +kernel
theorem dL_law_592 : decode cL_law 592 = .ok (.land, 1) := by decide +kernel
theorem dL_law_593 : decode cL_law 593 = .ok (.lor, 1) := by decide +kernel
theorem dL_law_594 : decode cL_law 594 = .ok (.invokevirtual 60, 3) := by decide +kernel
theorem dL_law_597 : decode cL_law 597 = .ok (.aload_n 2, 1) := by decide +kernel
theorem dL_law_598 : decode cL_law 598 = .ok (.aload_n 0, 1) := by decide +kernel
theorem dL_law_599 : decode cL_law 599 = .ok (.iload 4, 2) := by decide +kernel
theorem dL_law_601 : decode cL_law 601 = .ok (.iconst 1, 1) := by decide +kernel
theorem dL_law_602 : decode cL_law 602 = .ok (.iadd, 1) := by decide +kernel
theorem dL_law_603 : decode cL_law 603 = .ok (.iaload, 1) := by decide +kernel
theorem dL_law_604 : decode cL_law 604 = .ok (.aload_n 0, 1) := by decide +kernel
theorem dL_law_605 : decode cL_law 605 = .ok (.iload 4, 2) := by decide +kernel
theorem dL_law_607 : decode cL_law 607 = .ok (.iconst 2, 1) := by decide +kernel
theorem dL_law_608 : decode cL_law 608 = .ok (.iadd, 1) := by decide +kernel
theorem dL_law_609 : decode cL_law 609 = .ok (.iaload, 1) := by decide +kernel
theorem dL_law_610 : decode cL_law 610 = .ok (.i2l, 1) := by decide +kernel
theorem dL_law_611 : decode cL_law 611 = .ok (.bipush 32, 2) := by decide +kernel
theorem dL_law_613 : decode cL_law 613 = .ok (.lshl, 1) := by decide +kernel
theorem dL_law_614 : decode cL_law 614 = .ok (.aload_n 0, 1) := by decide +kernel
theorem dL_law_615 : decode cL_law 615 = .ok (.iload 4, 2) := by decide +kernel
theorem dL_law_617 : decode cL_law 617 = .ok (.iconst 3, 1) := by decide +kernel
theorem dL_law_618 : decode cL_law 618 = .ok (.iadd, 1) := by decide +kernel
theorem dL_law_619 : decode cL_law 619 = .ok (.iaload, 1) := by decide +kernel
theorem dL_law_620 : decode cL_law 620 = .ok (.i2l, 1) := by decide +kernel
theorem dL_law_621 : decode cL_law 621 = .ok (.ldc2_w 24, 3) := by decide +kernel
theorem dL_law_624 : decode cL_law 624 = .ok (.land, 1) := by decide +kernel
theorem dL_law_625 : decode cL_law 625 = .ok (.lor, 1) := by decide +kernel
theorem dL_law_626 : decode cL_law 626 = .ok (.invokevirtual 64, 3) := by decide +kernel
theorem dL_law_629 : decode cL_law 629 = .ok (.lcmp, 1) := by decide +kernel
theorem dL_law_630 : decode cL_law 630 = .ok (.ifCond .eq 86, 3) := by decide +kernel
theorem dL_law_633 : decode cL_law 633 = .ok (.iconst 0, 1) := by decide +kernel
theorem dL_law_634 : decode cL_law 634 = .ok (.ireturn, 1) := by decide +kernel
theorem dL_law_635 : decode cL_law 635 = .ok (.aload_n 1, 1) := by decide +kernel
theorem dL_law_636 : decode cL_law 636 = .ok (.aload_n 0, 1) := by decide +kernel
theorem dL_law_637 : decode cL_law 637 = .ok (.iload 4, 2) := by decide +kernel
theorem dL_law_639 : decode cL_law 639 = .ok (.iconst 1, 1) := by decide +kernel
theorem dL_law_640 : decode cL_law 640 = .ok (.iadd, 1) := by decide +kernel
theorem dL_law_641 : decode cL_law 641 = .ok (.iaload, 1) := by decide +kernel
theorem dL_law_642 : decode cL_law 642 = .ok (.invokevirtual 65, 3) := by decide +kernel
theorem dL_law_645 : decode cL_law 645 = .ok (.aload_n 2, 1) := by decide +kernel
theorem dL_law_646 : decode cL_law 646 = .ok (.aload_n 0, 1) := by decide +kernel
theorem dL_law_647 : decode cL_law 647 = .ok (.iload 4, 2) := by decide +kernel
theorem dL_law_649 : decode cL_law 649 = .ok (.iconst 1, 1) := by decide +kernel
theorem dL_law_650 : decode cL_law 650 = .ok (.iadd, 1) := by decide +kernel
theorem dL_law_651 : decode cL_law 651 = .ok (.iaload, 1) := by decide +kernel
theorem dL_law_652 : decode cL_law 652 = .ok (.invokevirtual 68, 3) := by decide +kernel
theorem dL_law_655 : decode cL_law 655 = .ok (.if_icmp .eq 61, 3) := by decide +kernel
theorem dL_law_658 : decode cL_law 658 = .ok (.iconst 0, 1) := by decide +kernel
theorem dL_law_659 : decode cL_law 659 = .ok (.ireturn, 1) := by decide +kernel
theorem dL_law_660 : decode cL_law 660 = .ok (.aload_n 1, 1) := by decide +kernel
theorem dL_law_661 : decode cL_law 661 = .ok (.aload_n 0, 1) := by decide +kernel
theorem dL_law_662 : decode cL_law 662 = .ok (.iload 4, 2) := by decide +kernel
theorem dL_law_664 : decode cL_law 664 = .ok (.iconst 1, 1) := by decide +kernel
theorem dL_law_665 : decode cL_law 665 = .ok (.iadd, 1) := by decide +kernel
theorem dL_law_666 : decode cL_law 666 = .ok (.iaload, 1) := by decide +kernel
theorem dL_law_667 : decode cL_law 667 = .ok (.aload_n 3, 1) := by decide +kernel
theorem dL_law_668 : decode cL_law 668 = .ok (.invokestatic 69, 3) := by decide +kernel
theorem dL_law_671 : decode cL_law 671 = .ok (.istore 5, 2) := by decide +kernel
theorem dL_law_673 : decode cL_law 673 = .ok (.aload_n 2, 1) := by decide +kernel
theorem dL_law_674 : decode cL_law 674 = .ok (.aload_n 0, 1) := by decide +kernel
theorem dL_law_675 : decode cL_law 675 = .ok (.iload 4, 2) := by decide +kernel
theorem dL_law_677 : decode cL_law 677 = .ok (.iconst 1, 1) := by decide +kernel
theorem dL_law_678 : decode cL_law 678 = .ok (.iadd, 1) := by decide +kernel
theorem dL_law_679 : decode cL_law 679 = .ok (.iaload, 1) := by decide +kernel
theorem dL_law_680 : decode cL_law 680 = .ok (.invokevirtual 74, 3) := by decide +kernel
theorem dL_law_683 : decode cL_law 683 = .ok (.istore 6, 2) := by decide +kernel
theorem dL_law_685 : decode cL_law 685 = .ok (.aload_n 2, 1) := by decide +kernel
theorem dL_law_686 : decode cL_law 686 = .ok (.invokevirtual 75, 3) := by decide +kernel
theorem dL_law_689 : decode cL_law 689 = .ok (.iload 5, 2) := by decide +kernel
theorem dL_law_691 : decode cL_law 691 = .ok (.if_icmp .eq 5, 3) := by decide +kernel
theorem dL_law_694 : decode cL_law 694 = .ok (.iconst 0, 1) := by decide +kernel
theorem dL_law_695 : decode cL_law 695 = .ok (.ireturn, 1) := by decide +kernel
theorem dL_law_696 : decode cL_law 696 = .ok (.iload 5, 2) := by decide +kernel
theorem dL_law_698 : decode cL_law 698 = .ok (.ifCond .ne 15, 3) := by decide +kernel
theorem dL_law_701 : decode cL_law 701 = .ok (.aload_n 3, 1) := by decide +kernel
theorem dL_law_702 : decode cL_law 702 = .ok (.iconst 0, 1) := by decide +kernel
theorem dL_law_703 : decode cL_law 703 = .ok (.laload, 1) := by decide +kernel
theorem dL_law_704 : decode cL_law 704 = .ok (.iload 6, 2) := by decide +kernel
theorem dL_law_706 : decode cL_law 706 = .ok (.i2l, 1) := by decide +kernel
theorem dL_law_707 : decode cL_law 707 = .ok (.lcmp, 1) := by decide +kernel
theorem dL_law_708 : decode cL_law 708 = .ok (.ifCond .eq 5, 3) := by decide +kernel
theorem dL_law_711 : decode cL_law 711 = .ok (.iconst 0, 1) := by decide +kernel
theorem dL_law_712 : decode cL_law 712 = .ok (.ireturn, 1) := by decide +kernel
theorem dL_law_713 : decode cL_law 713 = .ok (.goto 3, 3) := by decide +kernel
theorem dL_law_716 : decode cL_law 716 = .ok (.iinc 4 6, 3) := by decide +kernel
theorem dL_law_719 : decode cL_law 719 = .ok (.goto (-696), 3) := by decide +kernel
theorem dL_law_722 : decode cL_law 722 = .ok (.iconst 1, 1) := by decide +kernel
theorem dL_law_723 : decode cL_law 723 = .ok (.ireturn, 1) := by decide +kernel
abbrev vwCl : List vw_C := [(RJ0, TJ0, 2), (RJx00060, TJx00060, 6), (RX0, TX0, 4), (RX1, TX1, 2), (RX2, TX2, 9), (RX3, TX3, 10), (RX4, TX4, 25)]
end
section
/-! own rows: numbers as naturals, one contract form, one row a call -/
def mI (c : Nat) : Int32 := nI c - 1
def aN (f : Nat → Nat) : Nat → Int32 := fun j => nI (f j)
def aM (f : Nat → Nat) : Nat → Int32 := fun j => mI (f j)
theorem aN_at (f : Nat → Nat) (k : Nat) : aN f k = nI (f k) := rfl
theorem aM_at (f : Nat → Nat) (k : Nat) : aM f k = mI (f k) := rfl
theorem aN_up (f : Nat → Nat) (k x : Nat) : upd (aN f) k (nI x) = aN (va_up f k x) := by
  funext j
  simp only [upd, aN, va_up]
  split <;> rfl
theorem aM_up (f : Nat → Nat) (k x : Nat) : upd (aM f) k (mI x) = aM (va_up f k x) := by
  funext j
  simp only [upd, aM, va_up]
  split <;> rfl
theorem mI_toInt {c : Nat} (h : c < 2 ^ 31) : (mI c).toInt = (c : Int) - 1 := by
  unfold mI
  rw [Int32.toInt_sub, nI_toInt h]
  rw [show (1 : Int32).toInt = 1 from rfl]
  have h' : c < 2147483648 := h
  rw [Int.bmod_eq_of_le] <;> omega
theorem mI_0 : mI 0 = -1 := rfl
theorem mI_succ (c : Nat) : mI (c + 1) = nI c := by
  unfold mI
  rw [nI_pred]
theorem mI_inj {a b : Nat} (ha : a < 2 ^ 31) (hb : b < 2 ^ 31) : mI a = mI b ↔ a = b := by
  constructor
  · intro h
    have h1 := congrArg Int32.toInt h
    rw [mI_toInt ha, mI_toInt hb] at h1
    omega
  · intro h; rw [h]
theorem mI_lt {a b : Nat} (ha : a < 2 ^ 31) (hb : b < 2 ^ 31) : mI a < mI b ↔ a < b := by
  rw [Int32.lt_iff_toInt_lt, mI_toInt ha, mI_toInt hb]
  omega
theorem mI_le {a b : Nat} (ha : a < 2 ^ 31) (hb : b < 2 ^ 31) : mI a ≤ mI b ↔ a ≤ b := by
  rw [Int32.le_iff_toInt_le, mI_toInt ha, mI_toInt hb]
  omega
theorem mI_add1 (a : Nat) : mI a + nI 1 = nI a := by
  unfold mI
  rw [show nI 1 = (1 : Int32) from rfl, Int32.sub_add_cancel]
theorem mI_dec {a : Nat} (h : 0 < a) : mI a + (-1) = mI (a - 1) := by
  unfold mI
  rw [← sb_m1 h, Int32.sub_eq_add_neg, Int32.sub_eq_add_neg, Int32.add_assoc]
theorem nI_dec {a : Nat} (h : 0 < a) : nI a + (-1) = nI (a - 1) := sb_m1 h
theorem mz_lt {a : Nat} (ha : a < 2 ^ 31) : mI a < 0 ↔ a = 0 := by
  rw [Int32.lt_iff_toInt_lt, mI_toInt ha, show (0 : Int32).toInt = 0 from rfl]
  omega
theorem nI_mI (a : Nat) : nI a = mI (a + 1) := (mI_succ a).symm
theorem nN_inj {a b : Nat} (ha : a < 2 ^ 31) (hb : b < 2 ^ 31) : nI a = nI b ↔ a = b := nI_eq ha hb
theorem nI_z {a : Nat} (ha : a < 2 ^ 31) : nI a = 0 ↔ a = 0 := by
  rw [← nI_0]; exact nI_eq ha (by decide)
theorem nI_inj' {a b : Nat} (ha : a < 2 ^ 32) (hb : b < 2 ^ 32) (h : nI a = nI b) : a = b := by
  have h1 : (nI a).toBitVec.toNat = (nI b).toBitVec.toNat := by rw [h]
  rw [pk_tn ha, pk_tn hb] at h1
  exact h1
theorem nI_bv (n : Nat) : (nI n).toBitVec = BitVec.ofNat 32 n := rfl
theorem i32_ext {x y : Int32} (h : x.toBitVec = y.toBitVec) : x = y := Int32.toBitVec_inj.mp h
theorem nI_and (a b : Nat) : nI a &&& nI b = nI (a &&& b) := by
  apply i32_ext
  rw [Int32.toBitVec_and, nI_bv, nI_bv, nI_bv]
  apply BitVec.eq_of_toNat_eq
  rw [BitVec.toNat_and, BitVec.toNat_ofNat, BitVec.toNat_ofNat, BitVec.toNat_ofNat, Nat.and_mod_two_pow]
theorem nI_or (a b : Nat) : nI a ||| nI b = nI (a ||| b) := by
  apply i32_ext
  rw [Int32.toBitVec_or, nI_bv, nI_bv, nI_bv]
  apply BitVec.eq_of_toNat_eq
  rw [BitVec.toNat_or, BitVec.toNat_ofNat, BitVec.toNat_ofNat, BitVec.toNat_ofNat, Nat.or_mod_two_pow]
/-- the bits of a that b doesn't have, of 32 -/
def nDiff (a b : Nat) : Nat := a &&& (b ^^^ 4294967295)
theorem nI_not (b : Nat) : nI b ^^^ (-1) = nI (b ^^^ 4294967295) := by
  rw [show (-1 : Int32) = nI 4294967295 from rfl]
  apply i32_ext
  rw [Int32.toBitVec_xor, nI_bv, nI_bv, nI_bv]
  apply BitVec.eq_of_toNat_eq
  rw [BitVec.toNat_xor, BitVec.toNat_ofNat, BitVec.toNat_ofNat, BitVec.toNat_ofNat, Nat.xor_mod_two_pow]
theorem nI_sh31 : ∀ k, k < 32 → ((nI k &&& 31).toBitVec.smod 32).toNat = k := by decide +kernel
theorem nI_shr {a k : Nat} (ha : a < 2 ^ 31) (hk : k < 32) : nI a >>> (nI k &&& 31) = nI (a >>> k) := by
  rw [pk_shrN ha _ k (nI_sh31 k hk), Nat.shiftRight_eq_div_pow]
theorem nI_shl {a k : Nat} (hk : k < 32) : nI a <<< (nI k &&& 31) = nI (a <<< k) := by
  apply i32_ext
  apply BitVec.eq_of_toNat_eq
  rw [pk_shl _ _ k (nI_sh31 k hk), nI_bv, nI_bv, BitVec.toNat_ofNat, BitVec.toNat_ofNat, Nat.shiftLeft_eq, Nat.mod_mul_mod]
theorem nI_sub {a b : Nat} (h : b ≤ a) : nI a - nI b = nI (a - b) := pk_sub h
theorem nI_mul (a b : Nat) : nI a * nI b = nI (a * b) := pk_mul a b
/-- what is asked of the tables: the classes, one array class, the nest's links -/
def zNest : List Cond := [(Jvm.Cond.methodLinkNest "LeastChange" (11 : Nat) ({ cls := "LeastChange$Rules", name := "<init>", desc := "()V" } : Jvm.MethodName) "LeastChange"), (Jvm.Cond.fieldLinkNest "LeastChange$Search" (46 : Nat) "LeastChange$Rules" "alone" "[I" "LeastChange"), (Jvm.Cond.fieldLinkNest "LeastChange$Search" (74 : Nat) "LeastChange$Rules" "beside" "[I" "LeastChange"), (Jvm.Cond.methodLinkNest "LeastChange" (18 : Nat) ({ cls := "LeastChange$Search", name := "<init>", desc := "(LLeastChange$Rules;)V" } : Jvm.MethodName) "LeastChange"), (Jvm.Cond.methodLinkNest "LeastChange" (27 : Nat) ({ cls := "LeastChange$Found", name := "<init>", desc := "()V" } : Jvm.MethodName) "LeastChange"), (Jvm.Cond.fieldLinkNest "LeastChange" (107 : Nat) "LeastChange$Found" "codes" "[I" "LeastChange"), (Jvm.Cond.fieldLinkNest "LeastChange" (119 : Nat) "LeastChange$Found" "given" "I" "LeastChange"), (Jvm.Cond.fieldLinkNest "LeastChange" (128 : Nat) "LeastChange$Found" "changed" "I" "LeastChange"), (Jvm.Cond.fieldLinkNest "LeastChange" (113 : Nat) "LeastChange$Found" "down" "I" "LeastChange"), (Jvm.Cond.methodLinkNest "LeastChange" (59 : Nat) ({ cls := "LeastChange$Rules", name := "open", desc := "(II)V" } : Jvm.MethodName) "LeastChange"), (Jvm.Cond.methodLinkNest "LeastChange" (71 : Nat) ({ cls := "LeastChange$Rules", name := "tie", desc := "(IIII)V" } : Jvm.MethodName) "LeastChange"), (Jvm.Cond.methodLinkNest "LeastChange" (148 : Nat) ({ cls := "LeastChange$Rules", name := "narrow", desc := "(II)V" } : Jvm.MethodName) "LeastChange"), (Jvm.Cond.methodLinkNest "LeastChange" (83 : Nat) ({ cls := "LeastChange$Search", name := "findBest", desc := "(I[I[I)Z" } : Jvm.MethodName) "LeastChange"), (Jvm.Cond.methodLinkNest "LeastChange$Search" (80 : Nat) ({ cls := "LeastChange", name := "isChanged", desc := "(II)Z" } : Jvm.MethodName) "LeastChange"), (Jvm.Cond.methodLinkNest "LeastChange$Search" (84 : Nat) ({ cls := "LeastChange", name := "isDown", desc := "(II)Z" } : Jvm.MethodName) "LeastChange"), (Jvm.Cond.methodLinkNest "LeastChange$Search" (71 : Nat) ({ cls := "LeastChange$Rules", name := "place", desc := "(III)I" } : Jvm.MethodName) "LeastChange"), (Jvm.Cond.methodLinkNest "LeastChange" (87 : Nat) ({ cls := "LeastChange$Search", name := "changedCount", desc := "()I" } : Jvm.MethodName) "LeastChange"), (Jvm.Cond.methodLinkNest "LeastChange" (100 : Nat) ({ cls := "LeastChange$Search", name := "findFirst", desc := "(I[I[I)Z" } : Jvm.MethodName) "LeastChange"), (Jvm.Cond.methodLinkNest "LeastChange" (103 : Nat) ({ cls := "LeastChange$Found", name := "keep", desc := "(LLeastChange$Search;I[I)V" } : Jvm.MethodName) "LeastChange"), (Jvm.Cond.methodLinkNest "LeastChange$Found" (25 : Nat) ({ cls := "LeastChange$Search", name := "keptCode", desc := "(I)I" } : Jvm.MethodName) "LeastChange"), (Jvm.Cond.methodLinkNest "LeastChange$Found" (31 : Nat) ({ cls := "LeastChange", name := "isChanged", desc := "(II)Z" } : Jvm.MethodName) "LeastChange"), (Jvm.Cond.methodLinkNest "LeastChange$Found" (35 : Nat) ({ cls := "LeastChange", name := "isDown", desc := "(II)Z" } : Jvm.MethodName) "LeastChange")]
def zN (U : State) : Prop := ∀ w ∈ zNest, va_Nw w U
theorem zNest_on : ∀ w ∈ zNest, w.onTables = true := by decide +kernel
theorem zNest_in : ∀ w ∈ zNest, w ∈ lw_tbl := by decide +kernel
theorem zN.of {args : Array Value} {s : State} (hts : ∀ w ∈ lw_tbl, w.before args s = true) : zN s := fun w h => va_Nw.of (zNest_on w h) (hts w (zNest_in w h))
theorem zN.same {u U : State} (h : u.vm = U.vm) (hZ : zN u) : zN U := fun w hw => va_Nw.same (zNest_on w hw) h (hZ w hw)
def zLink (w : Cond) : Bool := match w with
  | .fieldLinkNest .. => true
  | .methodLinkNest .. => true
  | _ => false
theorem zNest_lk : ∀ w ∈ zNest, zLink w = true := by decide +kernel
theorem zN.warm {s U : State} (hW : s.WarmedH U.vm) (hZ : zN s) : zN U := fun w hw => by
  have h1 := zNest_lk w hw
  have h2 := hZ w hw
  cases w <;> simp only [zLink] at h1 <;> first | exact va_Nw.warmF hW h2 | exact va_Nw.warmM hW h2 | (exact absurd h1 (by decide))
def zK (D : va_G) (cA : ClassId) (U : State) : Prop := va_K D vwCl [(cA, .int)] U ∧ zN U
theorem zK.warm {D : va_G} {cA : ClassId} {s U : State} (hW : s.WarmedH U.vm) (h : zK D cA s) : zK D cA U := ⟨va_K.moved hW.alike h.1, zN.warm hW h.2⟩
/-- a contract's start: the arguments, the world W at a heap of size sz -/
def zPc (av : List Value) (D : va_G) (cA : ClassId) (sz : Nat) (W : va_W) : Array Value → State → Prop := va_Pc av (fun U => U.heap.size = sz ∧ va_P D vwCl W U.heap ∧ zK D cA U ∧ va_D (fun _ => True) W)
theorem zPc.blind {av : List Value} {D : va_G} {cA : ClassId} {sz : Nat} {W : va_W} : FrameBlind (zPc av D cA sz W) := fun a U g mk q => by
  obtain ⟨q0, q1, qP, qK, qD⟩ := q
  exact ⟨q0, q1, qP, ⟨va_K.moved (u := U) (U := U.calling g mk a) (Vm.Alike.refl U.vm) qK.1, zN.same (u := U) (U := U.calling g mk a) rfl qK.2⟩, qD⟩
abbrev zB (D : va_G) (A1 : Nat → Prop) (W' : va_W) : Unit → State → Prop := fun _ t => va_P D vwCl W' t.heap ∧ va_D A1 W'
/-- the contract: from the world W to the world W', the answer rv -/
abbrev zMi (l : Launch) (y : MethodName) (wd : List Cond) (rm : Room) (D : va_G) (cA : ClassId) (av : List Value) (sz : Nat) (W W' : va_W) (rv : Int32) : Prop :=
  Met l y wd rm (zPc av D cA sz W) (va_Qi (fun r _ => r = rv) (zB D (va_A W sz) W') (va_A W sz)) 0 0 (va_A W sz)
abbrev zMl (l : Launch) (y : MethodName) (wd : List Cond) (rm : Room) (D : va_G) (cA : ClassId) (av : List Value) (sz : Nat) (W W' : va_W) (rv : Int64) : Prop :=
  Met l y wd rm (zPc av D cA sz W) (va_Ql (fun r _ => r = rv) (zB D (va_A W sz) W') (va_A W sz)) 0 0 (va_A W sz)
abbrev zMv (l : Launch) (y : MethodName) (wd : List Cond) (rm : Room) (D : va_G) (cA : ClassId) (av : List Value) (sz : Nat) (W W' : va_W) : Prop :=
  Met l y wd rm (zPc av D cA sz W) (va_Qv (fun _ => True) (zB D (va_A W sz) W') (va_A W sz)) 0 0 (va_A W sz)
section ZROWS
variable {p : Program} {l : Launch} {e : Env} {R : Room} {s : State} {m : MethodId} {args : Array Value} {below : List Frame} {meth : Method} {c : Code} {H : Heap} {locs : List Loc} {cells slots : Nat} {Q : State → Prop}
variable {cc : ByteArray} {pc : Nat} {ls : Array Slot} {rest : List Value} {D : va_G} {ws wc wr W' : va_W} {A : Nat → Prop} {H0 : Heap} {cA : ClassId}
variable {y : MethodName} {bytes : ByteArray} {maxL nL n index : Nat} {ret : Option FieldType} {wd Ts : List Cond} {rm : Room} {own C host : String} {b : Addr} {As : List Value} {sz : Nat}
theorem zz_callI {rv : Int32} {av : List Value} (hS : va_S A H0 H locs) (hA : ∀ q, H0.size ≤ q → A q) (hP : va_P D vwCl ws H) (hD : va_D A ws) (isC isR : List Nat) (hC : isC.map (fun i => ws[i]?) = wc.map some) (hR : isR.map (fun i => ws[i]?) = wr.map some) (hn : va_nd isR = true) (hdis : ∀ i ∈ isR, i ∉ isC)
    {st0 : List Value} {a : Array Value} (hr : va_Run p l e R s m args below meth c H locs cells slots 0 0 (F0 m pc ls st0) rest (va_Qi (fun r _ => r = rv) (zB D (va_A wc H.size) W') (va_A wc H.size) a) (va_A wc H.size))
    (kk : ∀ (H1 : Heap) (locs1 : List Loc), va_P D vwCl (wr ++ W') H1 → va_D A (wr ++ W') → va_S A H0 H1 locs1 → W p l e R s m args below meth c H1 locs1 cells slots Q (F0 m (pc + 3) ls (.int rv :: rest))) :
    W p l e R s m args below meth c H locs cells slots Q (F0 m pc ls st0) := by
  have hFc := va_free (wc := wc) hD hS hA isC hC
  refine va_calli hr hS (fun q _ h => hFc q h) hFc (fun r u t H1 locs1 ht hvm hw hB hz1 hk1 hS1 => ?_)
  obtain ⟨hP1, hD1⟩ := hB
  rw [ht] at hP1
  obtain ⟨hP2, hD2⟩ := va_join (wr := wr) (w1 := W') hP hD isC isR hC hR hn hdis hk1 hFc hP1 hD1
  rw [hw]
  exact kk H1 locs1 hP2 hD2 hS1
theorem zz_callL {rv : Int64} {av : List Value} (hS : va_S A H0 H locs) (hA : ∀ q, H0.size ≤ q → A q) (hP : va_P D vwCl ws H) (hD : va_D A ws) (isC isR : List Nat) (hC : isC.map (fun i => ws[i]?) = wc.map some) (hR : isR.map (fun i => ws[i]?) = wr.map some) (hn : va_nd isR = true) (hdis : ∀ i ∈ isR, i ∉ isC)
    {st0 : List Value} {a : Array Value} (hr : va_Run p l e R s m args below meth c H locs cells slots 0 0 (F0 m pc ls st0) rest (va_Ql (fun r _ => r = rv) (zB D (va_A wc H.size) W') (va_A wc H.size) a) (va_A wc H.size))
    (kk : ∀ (H1 : Heap) (locs1 : List Loc), va_P D vwCl (wr ++ W') H1 → va_D A (wr ++ W') → va_S A H0 H1 locs1 → W p l e R s m args below meth c H1 locs1 cells slots Q (F0 m (pc + 3) ls (.long rv :: rest))) :
    W p l e R s m args below meth c H locs cells slots Q (F0 m pc ls st0) := by
  have hFc := va_free (wc := wc) hD hS hA isC hC
  refine va_calll hr hS (fun q _ h => hFc q h) hFc (fun r u t H1 locs1 ht hvm hw hB hz1 hk1 hS1 => ?_)
  obtain ⟨hP1, hD1⟩ := hB
  rw [ht] at hP1
  obtain ⟨hP2, hD2⟩ := va_join (wr := wr) (w1 := W') hP hD isC isR hC hR hn hdis hk1 hFc hP1 hD1
  rw [hw]
  exact kk H1 locs1 hP2 hD2 hS1
theorem zz_callV {av : List Value} (hS : va_S A H0 H locs) (hA : ∀ q, H0.size ≤ q → A q) (hP : va_P D vwCl ws H) (hD : va_D A ws) (isC isR : List Nat) (hC : isC.map (fun i => ws[i]?) = wc.map some) (hR : isR.map (fun i => ws[i]?) = wr.map some) (hn : va_nd isR = true) (hdis : ∀ i ∈ isR, i ∉ isC)
    {st0 : List Value} {a : Array Value} (hr : va_Run p l e R s m args below meth c H locs cells slots 0 0 (F0 m pc ls st0) rest (va_Qv (fun _ => True) (zB D (va_A wc H.size) W') (va_A wc H.size) a) (va_A wc H.size))
    (kk : ∀ (H1 : Heap) (locs1 : List Loc), va_P D vwCl (wr ++ W') H1 → va_D A (wr ++ W') → va_S A H0 H1 locs1 → W p l e R s m args below meth c H1 locs1 cells slots Q (F0 m (pc + 3) ls rest)) :
    W p l e R s m args below meth c H locs cells slots Q (F0 m pc ls st0) := by
  have hFc := va_free (wc := wc) hD hS hA isC hC
  refine va_callv hr hS (fun q _ h => hFc q h) hFc (fun u t H1 locs1 ht hvm hw hB hz1 hk1 hS1 => ?_)
  obtain ⟨hP1, hD1⟩ := hB
  rw [ht] at hP1
  obtain ⟨hP2, hD2⟩ := va_join (wr := wr) (w1 := W') hP hD isC isR hC hR hn hdis hk1 hFc hP1 hD1
  exact kk H1 locs1 hP2 hD2 hS1
/-- what a callee's start asks, at the call -/
theorem zPreS {av : List Value} (hK : zK D cA s) (hP : va_P D vwCl ws H) (hD : va_D A ws) (isC : List Nat) (hC : isC.map (fun i => ws[i]?) = wc.map some) (hnd : va_nd isC = true) (hz : H.size = sz) : PreS s H (zPc av D cA sz wc) av := by
  have hs : isC.filterMap (fun i => ws[i]?) = wc := by
    have h1 : ∀ (l : List Nat) (w : va_W), l.map (fun i => ws[i]?) = w.map some → l.filterMap (fun i => ws[i]?) = w := by
      intro l
      induction l with
      | nil => intro w h; cases w with
        | nil => rfl
        | cons a t => simp at h
      | cons a t ih => intro w h; cases w with
        | nil => simp at h
        | cons a' t' =>
          simp only [List.map_cons, List.cons.injEq] at h
          rw [List.filterMap_cons, h.1]
          simp only
          rw [ih t' h.2]
    exact h1 _ _ hC
  refine ⟨zPc.blind, fun U hU hW => ⟨rfl, by rw [hU]; exact hz, by rw [hU]; exact hP.sub isC hs, hK.warm hW, (hD.sub isC hnd hC).weaken (fun _ _ _ _ => trivial)⟩⟩
theorem zz_top {x y : Int32} (h : x = y) (k : W p l e R s m args below meth c H locs cells slots Q (F0 m pc ls (.int y :: rest))) : W p l e R s m args below meth c H locs cells slots Q (F0 m pc ls (.int x :: rest)) := by rw [h]; exact k
theorem zz_top2 {x y : Int32} {z : Value} (h : x = y) (k : W p l e R s m args below meth c H locs cells slots Q (F0 m pc ls (z :: .int y :: rest))) : W p l e R s m args below meth c H locs cells slots Q (F0 m pc ls (z :: .int x :: rest)) := by rw [h]; exact k
theorem mn_iadd1 (hexec : p.tables.exec = Jvm.exec) (hb : c.code = cc) {a : Nat} (hdg : decode cc pc = .ok (.iadd, 1)) (k : W p l e R s m args below meth c H locs cells slots Q (F0 m (pc + 1) ls (.int (nI a) :: rest))) : W p l e R s m args below meth c H locs cells slots Q (F0 m pc ls (.int (nI 1) :: .int (mI a) :: rest)) :=
  lv_iadd hexec hb hdg (by rw [mI_add1]; exact k)
theorem nn_ald (hexec : p.tables.exec = Jvm.exec) (hb : c.code = cc) (hK : zK D cA s) (hP : va_P D vwCl ws H) (q0 : Nat) {a N k : Nat} {f : Nat → Nat} (ha : ws[q0]? = some (a, .inl (cA, N, .inl (aN f)))) (hk : k < N) (hN : N < 2 ^ 31) (hdg : decode cc pc = .ok (.iaload, 1))
    (kk : W p l e R s m args below meth c H locs cells slots Q (F0 m (pc + 1) ls (.int (nI (f k)) :: rest))) : W p l e R s m args below meth c H locs cells slots Q (F0 m pc ls (.int (nI k) :: .ref a :: rest)) := by
  refine va_iald hexec hb hK.1 hP q0 0 ha rfl (vp_in_nI hk hN) hdg ?_
  rw [nI_clamp (Nat.lt_trans hk hN)]
  exact kk
theorem mm_ald (hexec : p.tables.exec = Jvm.exec) (hb : c.code = cc) (hK : zK D cA s) (hP : va_P D vwCl ws H) (q0 : Nat) {a N k : Nat} {f : Nat → Nat} (ha : ws[q0]? = some (a, .inl (cA, N, .inl (aM f)))) (hk : k < N) (hN : N < 2 ^ 31) (hdg : decode cc pc = .ok (.iaload, 1))
    (kk : W p l e R s m args below meth c H locs cells slots Q (F0 m (pc + 1) ls (.int (mI (f k)) :: rest))) : W p l e R s m args below meth c H locs cells slots Q (F0 m pc ls (.int (nI k) :: .ref a :: rest)) := by
  refine va_iald hexec hb hK.1 hP q0 0 ha rfl (vp_in_nI hk hN) hdg ?_
  rw [nI_clamp (Nat.lt_trans hk hN)]
  exact kk
theorem nn_ast (hexec : p.tables.exec = Jvm.exec) (hb : c.code = cc) (hK : zK D cA s) (hP : va_P D vwCl ws H) (hD : va_D A ws) (hS : va_S A H0 H locs) (q0 : Nat) {a N k x : Nat} {f : Nat → Nat} (ha : ws[q0]? = some (a, .inl (cA, N, .inl (aN f)))) (hk : k < N) (hN : N < 2 ^ 31) (hdg : decode cc pc = .ok (.iastore, 1))
    (kk : ∀ (H1 : Heap) (locs1 : List Loc), va_P D vwCl (ws.set q0 (a, .inl (cA, N, .inl (aN (va_up f k x))))) H1 → va_D A (ws.set q0 (a, .inl (cA, N, .inl (aN (va_up f k x))))) → va_S A H0 H1 locs1 → W p l e R s m args below meth c H1 locs1 cells slots Q (F0 m (pc + 1) ls rest)) : W p l e R s m args below meth c H locs cells slots Q (F0 m pc ls (.int (nI x) :: .int (nI k) :: .ref a :: rest)) := by
  refine va_iast hexec hb hK.1 hP hD hS q0 0 ha rfl (vp_in_nI hk hN) hdg ?_
  rw [nI_clamp (Nat.lt_trans hk hN), aN_up]
  exact kk
theorem mm_ast (hexec : p.tables.exec = Jvm.exec) (hb : c.code = cc) (hK : zK D cA s) (hP : va_P D vwCl ws H) (hD : va_D A ws) (hS : va_S A H0 H locs) (q0 : Nat) {a N k x : Nat} {f : Nat → Nat} (ha : ws[q0]? = some (a, .inl (cA, N, .inl (aM f)))) (hk : k < N) (hN : N < 2 ^ 31) (hdg : decode cc pc = .ok (.iastore, 1))
    (kk : ∀ (H1 : Heap) (locs1 : List Loc), va_P D vwCl (ws.set q0 (a, .inl (cA, N, .inl (aM (va_up f k x))))) H1 → va_D A (ws.set q0 (a, .inl (cA, N, .inl (aM (va_up f k x))))) → va_S A H0 H1 locs1 → W p l e R s m args below meth c H1 locs1 cells slots Q (F0 m (pc + 1) ls rest)) : W p l e R s m args below meth c H locs cells slots Q (F0 m pc ls (.int (mI x) :: .int (nI k) :: .ref a :: rest)) := by
  refine va_iast hexec hb hK.1 hP hD hS q0 0 ha rfl (vp_in_nI hk hN) hdg ?_
  rw [nI_clamp (Nat.lt_trans hk hN), aM_up]
  exact kk
theorem nn_iadd (hexec : p.tables.exec = Jvm.exec) (hb : c.code = cc) {a b : Nat} (hdg : decode cc pc = .ok (.iadd, 1)) (k : W p l e R s m args below meth c H locs cells slots Q (F0 m (pc + 1) ls (.int (nI (a + b)) :: rest))) : W p l e R s m args below meth c H locs cells slots Q (F0 m pc ls (.int (nI b) :: .int (nI a) :: rest)) :=
  lv_iadd hexec hb hdg (by rw [nI_add]; exact k)
theorem nn_isub (hexec : p.tables.exec = Jvm.exec) (hb : c.code = cc) {a b : Nat} (h : b ≤ a) (hdg : decode cc pc = .ok (.isub, 1)) (k : W p l e R s m args below meth c H locs cells slots Q (F0 m (pc + 1) ls (.int (nI (a - b)) :: rest))) : W p l e R s m args below meth c H locs cells slots Q (F0 m pc ls (.int (nI b) :: .int (nI a) :: rest)) :=
  lv_isub hexec hb hdg (by rw [nI_sub h]; exact k)
theorem nm_isub (hexec : p.tables.exec = Jvm.exec) (hb : c.code = cc) {a : Nat} (hdg : decode cc pc = .ok (.isub, 1)) (k : W p l e R s m args below meth c H locs cells slots Q (F0 m (pc + 1) ls (.int (mI a) :: rest))) : W p l e R s m args below meth c H locs cells slots Q (F0 m pc ls (.int (nI 1) :: .int (nI a) :: rest)) :=
  lv_isub hexec hb hdg k
theorem nn_imul (hexec : p.tables.exec = Jvm.exec) (hb : c.code = cc) {a b : Nat} (hdg : decode cc pc = .ok (.imul, 1)) (k : W p l e R s m args below meth c H locs cells slots Q (F0 m (pc + 1) ls (.int (nI (a * b)) :: rest))) : W p l e R s m args below meth c H locs cells slots Q (F0 m pc ls (.int (nI b) :: .int (nI a) :: rest)) :=
  lv_imul hexec hb hdg (by rw [nI_mul]; exact k)
theorem nn_iand (hexec : p.tables.exec = Jvm.exec) (hb : c.code = cc) {a b : Nat} (hdg : decode cc pc = .ok (.iand, 1)) (k : W p l e R s m args below meth c H locs cells slots Q (F0 m (pc + 1) ls (.int (nI (a &&& b)) :: rest))) : W p l e R s m args below meth c H locs cells slots Q (F0 m pc ls (.int (nI b) :: .int (nI a) :: rest)) :=
  lv_iand hexec hb hdg (by rw [nI_and]; exact k)
theorem nn_ior (hexec : p.tables.exec = Jvm.exec) (hb : c.code = cc) {a b : Nat} (hdg : decode cc pc = .ok (.ior, 1)) (k : W p l e R s m args below meth c H locs cells slots Q (F0 m (pc + 1) ls (.int (nI (a ||| b)) :: rest))) : W p l e R s m args below meth c H locs cells slots Q (F0 m pc ls (.int (nI b) :: .int (nI a) :: rest)) :=
  lv_ior hexec hb hdg (by rw [nI_or]; exact k)
theorem nn_inot (hexec : p.tables.exec = Jvm.exec) (hb : c.code = cc) {a : Nat} (hdg : decode cc pc = .ok (.ixor, 1)) (k : W p l e R s m args below meth c H locs cells slots Q (F0 m (pc + 1) ls (.int (nI (a ^^^ 4294967295)) :: rest))) : W p l e R s m args below meth c H locs cells slots Q (F0 m pc ls (.int (-1) :: .int (nI a) :: rest)) :=
  lv_ixor hexec hb hdg (by rw [nI_not]; exact k)
theorem nn_ishl (hexec : p.tables.exec = Jvm.exec) (hb : c.code = cc) {a b : Nat} (h : b < 32) (hdg : decode cc pc = .ok (.ishl, 1)) (k : W p l e R s m args below meth c H locs cells slots Q (F0 m (pc + 1) ls (.int (nI (a <<< b)) :: rest))) : W p l e R s m args below meth c H locs cells slots Q (F0 m pc ls (.int (nI b) :: .int (nI a) :: rest)) :=
  lv_ishl hexec hb hdg (by rw [nI_shl h]; exact k)
theorem nn_ishr (hexec : p.tables.exec = Jvm.exec) (hb : c.code = cc) {a b : Nat} (ha : a < 2 ^ 31) (h : b < 32) (hdg : decode cc pc = .ok (.ishr, 1)) (k : W p l e R s m args below meth c H locs cells slots Q (F0 m (pc + 1) ls (.int (nI (a >>> b)) :: rest))) : W p l e R s m args below meth c H locs cells slots Q (F0 m pc ls (.int (nI b) :: .int (nI a) :: rest)) :=
  lv_ishr hexec hb hdg (by rw [nI_shr ha h]; exact k)
theorem nn_idiv (hexec : p.tables.exec = Jvm.exec) (hb : c.code = cc) {a b : Nat} (ha : a < 2 ^ 31) (h : b < 2 ^ 31) (h0 : 0 < b) (hdg : decode cc pc = .ok (.idiv, 1)) (k : W p l e R s m args below meth c H locs cells slots Q (F0 m (pc + 1) ls (.int (nI (a / b)) :: rest))) : W p l e R s m args below meth c H locs cells slots Q (F0 m pc ls (.int (nI b) :: .int (nI a) :: rest)) :=
  lv_idiv hexec hb hdg (nI_ne0 h0 h) (by rw [pk_div ha h0 h]; exact k)
theorem nn_icmp_eq (hexec : p.tables.exec = Jvm.exec) (hb : c.code = cc) {a b : Nat} {off : Int} {tgt : Nat} (hdg : decode cc pc = .ok (.if_icmp .eq off, 3)) (ht : (pc : Int) + off = (tgt : Int)) (ha : a < 2 ^ 31) (h : b < 2 ^ 31) (kt : a = b → W p l e R s m args below meth c H locs cells slots Q (F0 m tgt ls rest)) (kf : ¬ a = b → W p l e R s m args below meth c H locs cells slots Q (F0 m (pc + 3) ls rest)) : W p l e R s m args below meth c H locs cells slots Q (F0 m pc ls (.int (nI b) :: .int (nI a) :: rest)) :=
  lv_icmp_eq hexec hb hdg ht (fun q => kt ((nN_inj ha h).mp q)) (fun q => kf (fun z => q ((nN_inj ha h).mpr z)))
theorem nn_icmp_lt (hexec : p.tables.exec = Jvm.exec) (hb : c.code = cc) {a b : Nat} {off : Int} {tgt : Nat} (hdg : decode cc pc = .ok (.if_icmp .lt off, 3)) (ht : (pc : Int) + off = (tgt : Int)) (ha : a < 2 ^ 31) (h : b < 2 ^ 31) (kt : a < b → W p l e R s m args below meth c H locs cells slots Q (F0 m tgt ls rest)) (kf : ¬ a < b → W p l e R s m args below meth c H locs cells slots Q (F0 m (pc + 3) ls rest)) : W p l e R s m args below meth c H locs cells slots Q (F0 m pc ls (.int (nI b) :: .int (nI a) :: rest)) :=
  lv_icmp_lt hexec hb hdg ht (fun q => kt ((nI_ltI ha h).mp q)) (fun q => kf (fun z => q ((nI_ltI ha h).mpr z)))
theorem nn_icmp_ge (hexec : p.tables.exec = Jvm.exec) (hb : c.code = cc) {a b : Nat} {off : Int} {tgt : Nat} (hdg : decode cc pc = .ok (.if_icmp .ge off, 3)) (ht : (pc : Int) + off = (tgt : Int)) (ha : a < 2 ^ 31) (h : b < 2 ^ 31) (kt : b ≤ a → W p l e R s m args below meth c H locs cells slots Q (F0 m tgt ls rest)) (kf : ¬ b ≤ a → W p l e R s m args below meth c H locs cells slots Q (F0 m (pc + 3) ls rest)) : W p l e R s m args below meth c H locs cells slots Q (F0 m pc ls (.int (nI b) :: .int (nI a) :: rest)) :=
  lv_icmp_ge hexec hb hdg ht (fun q => kt ((nI_leI h ha).mp q)) (fun q => kf (fun z => q ((nI_leI h ha).mpr z)))
theorem nn_icmp_gt (hexec : p.tables.exec = Jvm.exec) (hb : c.code = cc) {a b : Nat} {off : Int} {tgt : Nat} (hdg : decode cc pc = .ok (.if_icmp .gt off, 3)) (ht : (pc : Int) + off = (tgt : Int)) (ha : a < 2 ^ 31) (h : b < 2 ^ 31) (kt : b < a → W p l e R s m args below meth c H locs cells slots Q (F0 m tgt ls rest)) (kf : ¬ b < a → W p l e R s m args below meth c H locs cells slots Q (F0 m (pc + 3) ls rest)) : W p l e R s m args below meth c H locs cells slots Q (F0 m pc ls (.int (nI b) :: .int (nI a) :: rest)) :=
  lv_icmp_gt hexec hb hdg ht (fun q => kt ((nI_ltI h ha).mp q)) (fun q => kf (fun z => q ((nI_ltI h ha).mpr z)))
theorem nn_icmp_le (hexec : p.tables.exec = Jvm.exec) (hb : c.code = cc) {a b : Nat} {off : Int} {tgt : Nat} (hdg : decode cc pc = .ok (.if_icmp .le off, 3)) (ht : (pc : Int) + off = (tgt : Int)) (ha : a < 2 ^ 31) (h : b < 2 ^ 31) (kt : a ≤ b → W p l e R s m args below meth c H locs cells slots Q (F0 m tgt ls rest)) (kf : ¬ a ≤ b → W p l e R s m args below meth c H locs cells slots Q (F0 m (pc + 3) ls rest)) : W p l e R s m args below meth c H locs cells slots Q (F0 m pc ls (.int (nI b) :: .int (nI a) :: rest)) :=
  lv_icmp_le hexec hb hdg ht (fun q => kt ((nI_leI ha h).mp q)) (fun q => kf (fun z => q ((nI_leI ha h).mpr z)))
theorem nn_icmp_ne (hexec : p.tables.exec = Jvm.exec) (hb : c.code = cc) {a b : Nat} {off : Int} {tgt : Nat} (hdg : decode cc pc = .ok (.if_icmp .ne off, 3)) (ht : (pc : Int) + off = (tgt : Int)) (ha : a < 2 ^ 31) (h : b < 2 ^ 31) (kt : ¬ a = b → W p l e R s m args below meth c H locs cells slots Q (F0 m tgt ls rest)) (kf : a = b → W p l e R s m args below meth c H locs cells slots Q (F0 m (pc + 3) ls rest)) : W p l e R s m args below meth c H locs cells slots Q (F0 m pc ls (.int (nI b) :: .int (nI a) :: rest)) :=
  lv_icmp_ne hexec hb hdg ht (fun q => kt (fun z => q ((nN_inj ha h).mpr z))) (fun q => kf ((nN_inj ha h).mp q))
theorem mm_icmp_eq (hexec : p.tables.exec = Jvm.exec) (hb : c.code = cc) {a b : Nat} {off : Int} {tgt : Nat} (hdg : decode cc pc = .ok (.if_icmp .eq off, 3)) (ht : (pc : Int) + off = (tgt : Int)) (ha : a < 2 ^ 31) (h : b < 2 ^ 31) (kt : a = b → W p l e R s m args below meth c H locs cells slots Q (F0 m tgt ls rest)) (kf : ¬ a = b → W p l e R s m args below meth c H locs cells slots Q (F0 m (pc + 3) ls rest)) : W p l e R s m args below meth c H locs cells slots Q (F0 m pc ls (.int (mI b) :: .int (mI a) :: rest)) :=
  lv_icmp_eq hexec hb hdg ht (fun q => kt ((mI_inj ha h).mp q)) (fun q => kf (fun z => q ((mI_inj ha h).mpr z)))
theorem mm_icmp_lt (hexec : p.tables.exec = Jvm.exec) (hb : c.code = cc) {a b : Nat} {off : Int} {tgt : Nat} (hdg : decode cc pc = .ok (.if_icmp .lt off, 3)) (ht : (pc : Int) + off = (tgt : Int)) (ha : a < 2 ^ 31) (h : b < 2 ^ 31) (kt : a < b → W p l e R s m args below meth c H locs cells slots Q (F0 m tgt ls rest)) (kf : ¬ a < b → W p l e R s m args below meth c H locs cells slots Q (F0 m (pc + 3) ls rest)) : W p l e R s m args below meth c H locs cells slots Q (F0 m pc ls (.int (mI b) :: .int (mI a) :: rest)) :=
  lv_icmp_lt hexec hb hdg ht (fun q => kt ((mI_lt ha h).mp q)) (fun q => kf (fun z => q ((mI_lt ha h).mpr z)))
theorem mm_icmp_ge (hexec : p.tables.exec = Jvm.exec) (hb : c.code = cc) {a b : Nat} {off : Int} {tgt : Nat} (hdg : decode cc pc = .ok (.if_icmp .ge off, 3)) (ht : (pc : Int) + off = (tgt : Int)) (ha : a < 2 ^ 31) (h : b < 2 ^ 31) (kt : b ≤ a → W p l e R s m args below meth c H locs cells slots Q (F0 m tgt ls rest)) (kf : ¬ b ≤ a → W p l e R s m args below meth c H locs cells slots Q (F0 m (pc + 3) ls rest)) : W p l e R s m args below meth c H locs cells slots Q (F0 m pc ls (.int (mI b) :: .int (mI a) :: rest)) :=
  lv_icmp_ge hexec hb hdg ht (fun q => kt ((mI_le h ha).mp q)) (fun q => kf (fun z => q ((mI_le h ha).mpr z)))
theorem mm_icmp_gt (hexec : p.tables.exec = Jvm.exec) (hb : c.code = cc) {a b : Nat} {off : Int} {tgt : Nat} (hdg : decode cc pc = .ok (.if_icmp .gt off, 3)) (ht : (pc : Int) + off = (tgt : Int)) (ha : a < 2 ^ 31) (h : b < 2 ^ 31) (kt : b < a → W p l e R s m args below meth c H locs cells slots Q (F0 m tgt ls rest)) (kf : ¬ b < a → W p l e R s m args below meth c H locs cells slots Q (F0 m (pc + 3) ls rest)) : W p l e R s m args below meth c H locs cells slots Q (F0 m pc ls (.int (mI b) :: .int (mI a) :: rest)) :=
  lv_icmp_gt hexec hb hdg ht (fun q => kt ((mI_lt h ha).mp q)) (fun q => kf (fun z => q ((mI_lt h ha).mpr z)))
theorem mm_icmp_le (hexec : p.tables.exec = Jvm.exec) (hb : c.code = cc) {a b : Nat} {off : Int} {tgt : Nat} (hdg : decode cc pc = .ok (.if_icmp .le off, 3)) (ht : (pc : Int) + off = (tgt : Int)) (ha : a < 2 ^ 31) (h : b < 2 ^ 31) (kt : a ≤ b → W p l e R s m args below meth c H locs cells slots Q (F0 m tgt ls rest)) (kf : ¬ a ≤ b → W p l e R s m args below meth c H locs cells slots Q (F0 m (pc + 3) ls rest)) : W p l e R s m args below meth c H locs cells slots Q (F0 m pc ls (.int (mI b) :: .int (mI a) :: rest)) :=
  lv_icmp_le hexec hb hdg ht (fun q => kt ((mI_le ha h).mp q)) (fun q => kf (fun z => q ((mI_le ha h).mpr z)))
theorem mm_icmp_ne (hexec : p.tables.exec = Jvm.exec) (hb : c.code = cc) {a b : Nat} {off : Int} {tgt : Nat} (hdg : decode cc pc = .ok (.if_icmp .ne off, 3)) (ht : (pc : Int) + off = (tgt : Int)) (ha : a < 2 ^ 31) (h : b < 2 ^ 31) (kt : ¬ a = b → W p l e R s m args below meth c H locs cells slots Q (F0 m tgt ls rest)) (kf : a = b → W p l e R s m args below meth c H locs cells slots Q (F0 m (pc + 3) ls rest)) : W p l e R s m args below meth c H locs cells slots Q (F0 m pc ls (.int (mI b) :: .int (mI a) :: rest)) :=
  lv_icmp_ne hexec hb hdg ht (fun q => kt (fun z => q ((mI_inj ha h).mpr z))) (fun q => kf ((mI_inj ha h).mp q))
theorem nn_if_eq (hexec : p.tables.exec = Jvm.exec) (hb : c.code = cc) {a : Nat} {off : Int} {tgt : Nat} (hdg : decode cc pc = .ok (.ifCond .eq off, 3)) (ht : (pc : Int) + off = (tgt : Int)) (ha : a < 2 ^ 31) (kt : a = 0 → W p l e R s m args below meth c H locs cells slots Q (F0 m tgt ls rest)) (kf : ¬ a = 0 → W p l e R s m args below meth c H locs cells slots Q (F0 m (pc + 3) ls rest)) : W p l e R s m args below meth c H locs cells slots Q (F0 m pc ls (.int (nI a) :: rest)) :=
  lv_if_eq hexec hb hdg ht (fun q => kt ((nI_z ha).mp q)) (fun q => kf (fun z => q ((nI_z ha).mpr z)))
theorem nn_if_ne (hexec : p.tables.exec = Jvm.exec) (hb : c.code = cc) {a : Nat} {off : Int} {tgt : Nat} (hdg : decode cc pc = .ok (.ifCond .ne off, 3)) (ht : (pc : Int) + off = (tgt : Int)) (ha : a < 2 ^ 31) (kt : ¬ a = 0 → W p l e R s m args below meth c H locs cells slots Q (F0 m tgt ls rest)) (kf : a = 0 → W p l e R s m args below meth c H locs cells slots Q (F0 m (pc + 3) ls rest)) : W p l e R s m args below meth c H locs cells slots Q (F0 m pc ls (.int (nI a) :: rest)) :=
  lv_if_ne hexec hb hdg ht (fun q => kt (fun z => q ((nI_z ha).mpr z))) (fun q => kf ((nI_z ha).mp q))
theorem nn_if_gt (hexec : p.tables.exec = Jvm.exec) (hb : c.code = cc) {a : Nat} {off : Int} {tgt : Nat} (hdg : decode cc pc = .ok (.ifCond .gt off, 3)) (ht : (pc : Int) + off = (tgt : Int)) (ha : a < 2 ^ 31) (kt : 0 < a → W p l e R s m args below meth c H locs cells slots Q (F0 m tgt ls rest)) (kf : a = 0 → W p l e R s m args below meth c H locs cells slots Q (F0 m (pc + 3) ls rest)) : W p l e R s m args below meth c H locs cells slots Q (F0 m pc ls (.int (nI a) :: rest)) :=
  lv_if_gt hexec hb hdg ht (fun q => kt (Nat.pos_of_ne_zero (fun z => by subst z; exact absurd q (by decide)))) (fun q => kf (Nat.eq_zero_of_not_pos (fun z => q (by rw [← nI_0]; exact nI_lt z ha))))
theorem nn_if_le (hexec : p.tables.exec = Jvm.exec) (hb : c.code = cc) {a : Nat} {off : Int} {tgt : Nat} (hdg : decode cc pc = .ok (.ifCond .le off, 3)) (ht : (pc : Int) + off = (tgt : Int)) (ha : a < 2 ^ 31) (kt : a = 0 → W p l e R s m args below meth c H locs cells slots Q (F0 m tgt ls rest)) (kf : 0 < a → W p l e R s m args below meth c H locs cells slots Q (F0 m (pc + 3) ls rest)) : W p l e R s m args below meth c H locs cells slots Q (F0 m pc ls (.int (nI a) :: rest)) :=
  lv_if_le hexec hb hdg ht (fun q => kt (Nat.eq_zero_of_not_pos (fun z => nI_nle z ha q))) (fun q => kf (Nat.pos_of_ne_zero (fun z => q (by subst z; decide))))
theorem nn_if_lt (hexec : p.tables.exec = Jvm.exec) (hb : c.code = cc) {a : Nat} {off : Int} {tgt : Nat} (hdg : decode cc pc = .ok (.ifCond .lt off, 3)) (ht : (pc : Int) + off = (tgt : Int)) (ha : a < 2 ^ 31) (kf : W p l e R s m args below meth c H locs cells slots Q (F0 m (pc + 3) ls rest)) : W p l e R s m args below meth c H locs cells slots Q (F0 m pc ls (.int (nI a) :: rest)) :=
  lv_if_lt hexec hb hdg ht (fun q => absurd q (nI_pos ha)) (fun _ => kf)
theorem nn_if_ge (hexec : p.tables.exec = Jvm.exec) (hb : c.code = cc) {a : Nat} {off : Int} {tgt : Nat} (hdg : decode cc pc = .ok (.ifCond .ge off, 3)) (ht : (pc : Int) + off = (tgt : Int)) (ha : a < 2 ^ 31) (kt : W p l e R s m args below meth c H locs cells slots Q (F0 m tgt ls rest)) : W p l e R s m args below meth c H locs cells slots Q (F0 m pc ls (.int (nI a) :: rest)) :=
  lv_if_ge hexec hb hdg ht (fun _ => kt) (fun q => absurd (nI_pos' ha) q)
theorem mz_if_lt (hexec : p.tables.exec = Jvm.exec) (hb : c.code = cc) {a : Nat} {off : Int} {tgt : Nat} (hdg : decode cc pc = .ok (.ifCond .lt off, 3)) (ht : (pc : Int) + off = (tgt : Int)) (ha : a < 2 ^ 31) (kt : a = 0 → W p l e R s m args below meth c H locs cells slots Q (F0 m tgt ls rest)) (kf : ¬ a = 0 → W p l e R s m args below meth c H locs cells slots Q (F0 m (pc + 3) ls rest)) : W p l e R s m args below meth c H locs cells slots Q (F0 m pc ls (.int (mI a) :: rest)) :=
  lv_if_lt hexec hb hdg ht (fun q => kt ((mz_lt ha).mp q)) (fun q => kf (fun z => q ((mz_lt ha).mpr z)))
theorem mz_if_ge (hexec : p.tables.exec = Jvm.exec) (hb : c.code = cc) {a : Nat} {off : Int} {tgt : Nat} (hdg : decode cc pc = .ok (.ifCond .ge off, 3)) (ht : (pc : Int) + off = (tgt : Int)) (ha : a < 2 ^ 31) (kt : ¬ a = 0 → W p l e R s m args below meth c H locs cells slots Q (F0 m tgt ls rest)) (kf : a = 0 → W p l e R s m args below meth c H locs cells slots Q (F0 m (pc + 3) ls rest)) : W p l e R s m args below meth c H locs cells slots Q (F0 m pc ls (.int (mI a) :: rest)) :=
  lv_if_ge hexec hb hdg ht (fun q => kt (fun z => absurd ((mz_lt ha).mpr z) (Int32.not_lt.mpr q))) (fun q => kf ((mz_lt ha).mp (Int32.not_le.mp q)))
end ZROWS
end
section
theorem nkX3_11 : Cond.methodLinkNest RX3 11 yX1_init "LeastChange" ∈ zNest := List.mem_of_getElem? (i := 0) rfl
theorem nkX2_46 : Cond.fieldLinkNest RX2 46 "LeastChange$Rules" "alone" "[I" "LeastChange" ∈ zNest := List.mem_of_getElem? (i := 1) rfl
theorem nkX2_74 : Cond.fieldLinkNest RX2 74 "LeastChange$Rules" "beside" "[I" "LeastChange" ∈ zNest := List.mem_of_getElem? (i := 2) rfl
theorem nkX3_18 : Cond.methodLinkNest RX3 18 yX2_init "LeastChange" ∈ zNest := List.mem_of_getElem? (i := 3) rfl
theorem nkX3_27 : Cond.methodLinkNest RX3 27 yX0_init "LeastChange" ∈ zNest := List.mem_of_getElem? (i := 4) rfl
theorem nkX3_107 : Cond.fieldLinkNest RX3 107 "LeastChange$Found" "codes" "[I" "LeastChange" ∈ zNest := List.mem_of_getElem? (i := 5) rfl
theorem nkX3_119 : Cond.fieldLinkNest RX3 119 "LeastChange$Found" "given" "I" "LeastChange" ∈ zNest := List.mem_of_getElem? (i := 6) rfl
theorem nkX3_128 : Cond.fieldLinkNest RX3 128 "LeastChange$Found" "changed" "I" "LeastChange" ∈ zNest := List.mem_of_getElem? (i := 7) rfl
theorem nkX3_113 : Cond.fieldLinkNest RX3 113 "LeastChange$Found" "down" "I" "LeastChange" ∈ zNest := List.mem_of_getElem? (i := 8) rfl
theorem nkX3_59 : Cond.methodLinkNest RX3 59 yX1_open "LeastChange" ∈ zNest := List.mem_of_getElem? (i := 9) rfl
theorem nkX3_71 : Cond.methodLinkNest RX3 71 yX1_tie "LeastChange" ∈ zNest := List.mem_of_getElem? (i := 10) rfl
theorem nkX3_148 : Cond.methodLinkNest RX3 148 yX1_narrow "LeastChange" ∈ zNest := List.mem_of_getElem? (i := 11) rfl
theorem nkX3_83 : Cond.methodLinkNest RX3 83 yX2_findBest "LeastChange" ∈ zNest := List.mem_of_getElem? (i := 12) rfl
theorem nkX2_80 : Cond.methodLinkNest RX2 80 yX3_isChanged "LeastChange" ∈ zNest := List.mem_of_getElem? (i := 13) rfl
theorem nkX2_84 : Cond.methodLinkNest RX2 84 yX3_isDown "LeastChange" ∈ zNest := List.mem_of_getElem? (i := 14) rfl
theorem nkX2_71 : Cond.methodLinkNest RX2 71 yX1_place "LeastChange" ∈ zNest := List.mem_of_getElem? (i := 15) rfl
theorem nkX3_87 : Cond.methodLinkNest RX3 87 yX2_changedCount "LeastChange" ∈ zNest := List.mem_of_getElem? (i := 16) rfl
theorem nkX3_100 : Cond.methodLinkNest RX3 100 yX2_findFirst "LeastChange" ∈ zNest := List.mem_of_getElem? (i := 17) rfl
theorem nkX3_103 : Cond.methodLinkNest RX3 103 yX0_keep "LeastChange" ∈ zNest := List.mem_of_getElem? (i := 18) rfl
theorem nkX0_25 : Cond.methodLinkNest RX0 25 yX2_keptCode "LeastChange" ∈ zNest := List.mem_of_getElem? (i := 19) rfl
theorem nkX0_31 : Cond.methodLinkNest RX0 31 yX3_isChanged "LeastChange" ∈ zNest := List.mem_of_getElem? (i := 20) rfl
theorem nkX0_35 : Cond.methodLinkNest RX0 35 yX3_isDown "LeastChange" ∈ zNest := List.mem_of_getElem? (i := 21) rfl

/-- six bits of a set -/
def lo6 (d : Int64) : Nat := d.toBitVec.toNat % 64
theorem lo6_lt (d : Int64) : lo6 d < 64 := Nat.mod_lt _ (by decide)
theorem even_and : ∀ y, y < 64 → 2 * y &&& 4294967294 = 2 * y := by decide +kernel
theorem csOf_eq (d : Int64) : ((d <<< ((nI 1).toInt64 &&& 63)).toInt32 &&& nI 127) &&& (-2) = nI (2 * lo6 d) := by
  have h1 : (d <<< ((nI 1).toInt64 &&& 63)).toInt32 = nI (2 * d.toBitVec.toNat) := by
    apply i32_ext
    apply BitVec.eq_of_toNat_eq
    rw [nI_bv, BitVec.toNat_ofNat]
    have : (d <<< ((nI 1).toInt64 &&& 63)) = d <<< (1 : Int64) := rfl
    rw [this, Int64.toBitVec_toInt32, BitVec.signExtend_eq_setWidth_of_le _ (by decide), BitVec.toNat_setWidth, Int64.toBitVec_shiftLeft]
    have h2 : ((1 : Int64).toBitVec.smod 64) = 1#64 := by decide
    rw [h2]
    rw [BitVec.shiftLeft_eq', BitVec.toNat_shiftLeft, Nat.shiftLeft_eq]
    have h3 : (1#64).toNat = 1 := rfl
    rw [h3]
    omega
  rw [h1, nI_and, show (-2 : Int32) = nI 4294967294 from rfl, nI_and]
  congr 1
  have h4 : 2 * d.toBitVec.toNat &&& 127 = 2 * lo6 d := by
    rw [show (127 : Nat) = 2 ^ 7 - 1 from rfl, Nat.and_two_pow_sub_one_eq_mod]
    unfold lo6
    omega
  rw [h4]
  exact even_and _ (lo6_lt d)
def dgN (n v : Int32) : Int64 := ((n + nI 1).toInt64 * 1000003 + v.toInt64 + 1) * 2654435761
def costN (c h : Nat) : Nat := (if c = h then 0 else 16) + (if c ≠ 0 ∧ c < h then 1 else 0)
def lcost (cs h : Nat) : Nat := if cs = 0 then 144 else if (cs >>> h) &&& 1 = 0 then (if cs &&& 1 = 0 ∧ cs >>> h = 0 then 17 else 16) else 0
theorem shr_le (a k : Nat) : a >>> k ≤ a := by rw [Nat.shiftRight_eq_div_pow]; exact Nat.div_le_self _ _
theorem and1_lt (a : Nat) : a &&& 1 < 2147483648 := Nat.lt_of_le_of_lt Nat.and_le_right (by decide)
theorem if01_lt {P : Prop} [Decidable P] : (if P then 1 else 0 : Nat) < 2147483648 := by split <;> decide
theorem if01_eq {P : Prop} [Decidable P] (h : (if P then 1 else 0 : Nat) = 0) : ¬ P := fun q => by rw [if_pos q] at h; exact absurd h (by decide)
theorem if01_ne {P : Prop} [Decidable P] (h : ¬ (if P then 1 else 0 : Nat) = 0) : P := Classical.byContradiction fun q => h (if_neg q)
theorem if10_eq {P : Prop} [Decidable P] (h : (if P then 0 else 1 : Nat) = 0) : P := Classical.byContradiction fun q => by rw [if_neg q] at h; exact absurd h (by decide)
theorem if10_ne {P : Prop} [Decidable P] (h : ¬ (if P then 0 else 1 : Nat) = 0) : ¬ P := fun q => h (if_pos q)
theorem if10_lt {P : Prop} [Decidable P] : (if P then 0 else 1 : Nat) < 2147483648 := by split <;> decide

set_option maxHeartbeats 4000000 in
set_option maxRecDepth 100000 in
theorem kX3_isChanged (l : Launch) (D : va_G) (cA : ClassId) (sz : Nat) (cd : Nat) (hm : Nat) (hc : cd < 2147483648) (hh : hm < 2147483648) : zMi l yX3_isChanged wsX3_isChanged ({ frames := 0, cells := 0, slots := 0, locals := 0 }) D cA [.int (nI cd), .int (nI hm)] sz [] [] (nI (if cd = hm then 0 else 1)) := by
  refine Met.ofW (cc := cX3_isChanged) (maxL := 2) (ret := (some .boolean)) (by decide) rfl ?_
  intro p e s m args below meth c s₁ B hml hv
  obtain ⟨rfl, hsz, hP, hK, hD0⟩ := hv
  have hx := B.exec
  have hb := B.bytes
  have hr := B.returns
  have hts := atoms_spec (ws := wsX3_isChanged) B.pre
  have hown : s.vm.findClass RX3 = some m.cls := findClass_of_methodNamed B.named
  have hlocks := B.notSynchronized
  subst hsz
  have hD := hD0.self (sz := s.heap.size)
  generalize hAe : va_A [] s.heap.size = A at hD ⊢
  have hA : ∀ q : Nat, s.heap.size ≤ q → A q := fun q h => by rw [← hAe]; exact Or.inr h
  have hS : va_S A s.heap s.heap [] := va_S.rf
  have hP : va_P D vwCl [] s.heap := hP
  have hl := lv_entry ([.int (nI cd), .int (nI hm)]) (n := 2) (Nat.le_of_ble_eq_true rfl)
  rw [lg_entry_eq]
  generalize (lg_sl ([.int (nI cd), .int (nI hm)]) ++ List.replicate (2 - (lg_sl ([.int (nI cd), .int (nI hm)])).length) Slot.unset).toArray = ls at hl ⊢
  have hl : lv_has ls 2 [(0, .int (nI cd)), (1, .int (nI hm))] := hl
  refine lv_iload_n hx hb dX3_isChanged_0 rfl (lv_at hl 0 rfl) ?_
  refine lv_iload_n hx hb dX3_isChanged_1 rfl (lv_at hl 1 rfl) ?_
  refine nn_icmp_eq (tgt := 9) hx hb dX3_isChanged_2 (by decide) (by omega) (by omega) (fun c_2 => ?_) (fun c_2 => ?_)
  · refine lv_iconst (v := nI 0) hx hb dX3_isChanged_9 (by decide) ?_
    exact W.zret (v := (nI 0)) hx hb hr rfl (fun t ht hW => ⟨⟨(nI 0), (), rfl, (by simp [*]), by rw [ht]; exact hP, hD⟩, hS.F ht⟩) hS.2.2 dX3_isChanged_10
  · refine lv_iconst (v := nI 1) hx hb dX3_isChanged_5 (by decide) ?_
    refine lv_goto (tgt := 10) hx hb dX3_isChanged_6 (by decide) ?_
    exact W.zret (v := (nI 1)) hx hb hr rfl (fun t ht hW => ⟨⟨(nI 1), (), rfl, (by simp [*]), by rw [ht]; exact hP, hD⟩, hS.F ht⟩) hS.2.2 dX3_isChanged_10

set_option maxHeartbeats 4000000 in
set_option maxRecDepth 100000 in
theorem kX3_isDown (l : Launch) (D : va_G) (cA : ClassId) (sz : Nat) (cd : Nat) (hm : Nat) (hc : cd < 2147483648) (hh : hm < 2147483648) : zMi l yX3_isDown wsX3_isDown ({ frames := 0, cells := 0, slots := 0, locals := 0 }) D cA [.int (nI cd), .int (nI hm)] sz [] [] (nI (if cd ≠ 0 ∧ cd < hm then 1 else 0)) := by
  refine Met.ofW (cc := cX3_isDown) (maxL := 2) (ret := (some .boolean)) (by decide) rfl ?_
  intro p e s m args below meth c s₁ B hml hv
  obtain ⟨rfl, hsz, hP, hK, hD0⟩ := hv
  have hx := B.exec
  have hb := B.bytes
  have hr := B.returns
  have hts := atoms_spec (ws := wsX3_isDown) B.pre
  have hown : s.vm.findClass RX3 = some m.cls := findClass_of_methodNamed B.named
  have hlocks := B.notSynchronized
  subst hsz
  have hD := hD0.self (sz := s.heap.size)
  generalize hAe : va_A [] s.heap.size = A at hD ⊢
  have hA : ∀ q : Nat, s.heap.size ≤ q → A q := fun q h => by rw [← hAe]; exact Or.inr h
  have hS : va_S A s.heap s.heap [] := va_S.rf
  have hP : va_P D vwCl [] s.heap := hP
  have hl := lv_entry ([.int (nI cd), .int (nI hm)]) (n := 2) (Nat.le_of_ble_eq_true rfl)
  rw [lg_entry_eq]
  generalize (lg_sl ([.int (nI cd), .int (nI hm)]) ++ List.replicate (2 - (lg_sl ([.int (nI cd), .int (nI hm)])).length) Slot.unset).toArray = ls at hl ⊢
  have hl : lv_has ls 2 [(0, .int (nI cd)), (1, .int (nI hm))] := hl
  refine lv_iload_n hx hb dX3_isDown_0 rfl (lv_at hl 0 rfl) ?_
  refine nn_if_eq (tgt := 13) hx hb dX3_isDown_1 (by decide) (by omega) (fun c_1 => ?_) (fun c_1 => ?_)
  · refine lv_iconst (v := nI 0) hx hb dX3_isDown_13 (by decide) ?_
    exact W.zret (v := (nI 0)) hx hb hr rfl (fun t ht hW => ⟨⟨(nI 0), (), rfl, (by first | (rw [if_pos (by omega)]; done) | (rw [if_neg (by omega)]; done)), by rw [ht]; exact hP, hD⟩, hS.F ht⟩) hS.2.2 dX3_isDown_14
  · refine lv_iload_n hx hb dX3_isDown_4 rfl (lv_at hl 0 rfl) ?_
    refine lv_iload_n hx hb dX3_isDown_5 rfl (lv_at hl 1 rfl) ?_
    refine nn_icmp_ge (tgt := 13) hx hb dX3_isDown_6 (by decide) (by omega) (by omega) (fun c_6 => ?_) (fun c_6 => ?_)
    · refine lv_iconst (v := nI 0) hx hb dX3_isDown_13 (by decide) ?_
      exact W.zret (v := (nI 0)) hx hb hr rfl (fun t ht hW => ⟨⟨(nI 0), (), rfl, (by first | (rw [if_pos (by omega)]; done) | (rw [if_neg (by omega)]; done)), by rw [ht]; exact hP, hD⟩, hS.F ht⟩) hS.2.2 dX3_isDown_14
    · refine lv_iconst (v := nI 1) hx hb dX3_isDown_9 (by decide) ?_
      refine lv_goto (tgt := 14) hx hb dX3_isDown_10 (by decide) ?_
      exact W.zret (v := (nI 1)) hx hb hr rfl (fun t ht hW => ⟨⟨(nI 1), (), rfl, (by first | (rw [if_pos (by omega)]; done) | (rw [if_neg (by omega)]; done)), by rw [ht]; exact hP, hD⟩, hS.F ht⟩) hS.2.2 dX3_isDown_14

theorem iniX2_costOf_X3 : Cond.initialized RX3 ∈ wsX2_costOf := by decide +kernel
theorem stX2_costOf_X3_isChanged : Cond.static yX3_isChanged ∈ wsX2_costOf := by decide +kernel
theorem stX2_costOf_X3_isDown : Cond.static yX3_isDown ∈ wsX2_costOf := by decide +kernel
set_option maxHeartbeats 4000000 in
set_option maxRecDepth 100000 in
theorem kX2_costOf (l : Launch) (D : va_G) (cA : ClassId) (sz : Nat) (cd : Nat) (hm : Nat) (hc : cd < 2147483648) (hh : hm < 2147483648) : zMi l yX2_costOf wsX2_costOf ({ frames := 1, cells := 0, slots := 0, locals := 21 }) D cA [.int (nI cd), .int (nI hm)] sz [] [] (nI (costN cd hm)) := by
  refine Met.ofW (cc := cX2_costOf) (maxL := 2) (ret := (some .int)) (by decide) rfl ?_
  intro p e s m args below meth c s₁ B hml hv
  obtain ⟨rfl, hsz, hP, hK, hD0⟩ := hv
  have hx := B.exec
  have hb := B.bytes
  have hr := B.returns
  have hts := atoms_spec (ws := wsX2_costOf) B.pre
  have hown : s.vm.findClass RX2 = some m.cls := findClass_of_methodNamed B.named
  have hlocks := B.notSynchronized
  subst hsz
  have hD := hD0.self (sz := s.heap.size)
  generalize hAe : va_A [] s.heap.size = A at hD ⊢
  have hA : ∀ q : Nat, s.heap.size ≤ q → A q := fun q h => by rw [← hAe]; exact Or.inr h
  have hS : va_S A s.heap s.heap [] := va_S.rf
  have hP : va_P D vwCl [] s.heap := hP
  have hl := lv_entry ([.int (nI cd), .int (nI hm)]) (n := 2) (Nat.le_of_ble_eq_true rfl)
  rw [lg_entry_eq]
  generalize (lg_sl ([.int (nI cd), .int (nI hm)]) ++ List.replicate (2 - (lg_sl ([.int (nI cd), .int (nI hm)])).length) Slot.unset).toArray = ls at hl ⊢
  have hl : lv_has ls 2 [(0, .int (nI cd)), (1, .int (nI hm))] := hl
  refine lv_iload_n hx hb dX2_costOf_0 rfl (lv_at hl 0 rfl) ?_
  refine lv_iload_n hx hb dX2_costOf_1 rfl (lv_at hl 1 rfl) ?_
  refine zz_callI (av := []) (wc := []) (wr := []) hS hA hP hD [] [] rfl rfl (by decide) (by decide) (va_runSN (As := [.int (nI cd), .int (nI hm)]) (rest := []) ⟨hx, hb, hml, hown, hts⟩ (kX3_isChanged l D cA s.heap.size cd hm (by omega) (by omega)) ⟨va_cnB 2 hts gX2_costOf_X3_isChanged_n80 rfl rfl rfl (hK.2 _ nkX2_80) (hts _ iniX2_costOf_X3) (by decide +kernel) ⟨Nat.le_of_ble_eq_true rfl, Nat.le_of_ble_eq_true rfl⟩, hts _ stX2_costOf_X3_isChanged, trivial⟩ (zPreS (av := [.int (nI cd), .int (nI hm)]) (wc := []) hK hP hD [] rfl (by decide) rfl) rfl rfl hl.1 rfl (lv_room (Nat.le_of_ble_eq_true rfl)) dX2_costOf_2 ⟨Nat.zero_le _, Nat.zero_le _⟩) (fun H locs hP hD hS => ?_)
  have hP : va_P D vwCl [] H := hP
  have hD : va_D A [] := hD
  refine nn_if_eq (tgt := 13) hx hb dX2_costOf_5 (by decide) if10_lt (fun c_5 => ?_) (fun c_5 => ?_)
  · have c_5 := if10_eq c_5
    refine lv_iconst (v := nI 0) hx hb dX2_costOf_13 (by decide) ?_
    refine lv_iload_n hx hb dX2_costOf_14 rfl (lv_at hl 0 rfl) ?_
    refine lv_iload_n hx hb dX2_costOf_15 rfl (lv_at hl 1 rfl) ?_
    refine zz_callI (av := []) (wc := []) (wr := []) hS hA hP hD [] [] rfl rfl (by decide) (by decide) (va_runSN (As := [.int (nI cd), .int (nI hm)]) (rest := [.int (nI 0)]) ⟨hx, hb, hml, hown, hts⟩ (kX3_isDown l D cA H.size cd hm (by omega) (by omega)) ⟨va_cnB 2 hts gX2_costOf_X3_isDown_n84 rfl rfl rfl (hK.2 _ nkX2_84) (hts _ iniX2_costOf_X3) (by decide +kernel) ⟨Nat.le_of_ble_eq_true rfl, Nat.le_of_ble_eq_true rfl⟩, hts _ stX2_costOf_X3_isDown, trivial⟩ (zPreS (av := [.int (nI cd), .int (nI hm)]) (wc := []) hK hP hD [] rfl (by decide) rfl) rfl rfl hl.1 rfl (lv_room (Nat.le_of_ble_eq_true rfl)) dX2_costOf_16 ⟨Nat.zero_le _, Nat.zero_le _⟩) (fun H locs hP hD hS => ?_)
    have hP : va_P D vwCl [] H := hP
    have hD : va_D A [] := hD
    refine nn_if_eq (tgt := 26) hx hb dX2_costOf_19 (by decide) if01_lt (fun c_19 => ?_) (fun c_19 => ?_)
    · have c_19 := if01_eq c_19
      refine lv_iconst (v := nI 0) hx hb dX2_costOf_26 (by decide) ?_
      refine nn_iadd hx hb dX2_costOf_27 ?_
      exact W.iret (v := (nI (0 + 0))) hx hb hr (fun t ht hW => ⟨⟨(nI (0 + 0)), (), rfl, (by unfold costN; (repeat' (first | rfl | contradiction | split))), by rw [ht]; exact hP, hD⟩, hS.F ht⟩) hS.2.2 dX2_costOf_28
    · have c_19 := if01_ne c_19
      refine lv_iconst (v := nI 1) hx hb dX2_costOf_22 (by decide) ?_
      refine lv_goto (tgt := 27) hx hb dX2_costOf_23 (by decide) ?_
      refine nn_iadd hx hb dX2_costOf_27 ?_
      exact W.iret (v := (nI (0 + 1))) hx hb hr (fun t ht hW => ⟨⟨(nI (0 + 1)), (), rfl, (by unfold costN; (repeat' (first | rfl | contradiction | split))), by rw [ht]; exact hP, hD⟩, hS.F ht⟩) hS.2.2 dX2_costOf_28
  · have c_5 := if10_ne c_5
    refine lv_bipush (v := nI 16) hx hb dX2_costOf_8 (by decide) ?_
    refine lv_goto (tgt := 14) hx hb dX2_costOf_10 (by decide) ?_
    refine lv_iload_n hx hb dX2_costOf_14 rfl (lv_at hl 0 rfl) ?_
    refine lv_iload_n hx hb dX2_costOf_15 rfl (lv_at hl 1 rfl) ?_
    refine zz_callI (av := []) (wc := []) (wr := []) hS hA hP hD [] [] rfl rfl (by decide) (by decide) (va_runSN (As := [.int (nI cd), .int (nI hm)]) (rest := [.int (nI 16)]) ⟨hx, hb, hml, hown, hts⟩ (kX3_isDown l D cA H.size cd hm (by omega) (by omega)) ⟨va_cnB 2 hts gX2_costOf_X3_isDown_n84 rfl rfl rfl (hK.2 _ nkX2_84) (hts _ iniX2_costOf_X3) (by decide +kernel) ⟨Nat.le_of_ble_eq_true rfl, Nat.le_of_ble_eq_true rfl⟩, hts _ stX2_costOf_X3_isDown, trivial⟩ (zPreS (av := [.int (nI cd), .int (nI hm)]) (wc := []) hK hP hD [] rfl (by decide) rfl) rfl rfl hl.1 rfl (lv_room (Nat.le_of_ble_eq_true rfl)) dX2_costOf_16 ⟨Nat.zero_le _, Nat.zero_le _⟩) (fun H locs hP hD hS => ?_)
    have hP : va_P D vwCl [] H := hP
    have hD : va_D A [] := hD
    refine nn_if_eq (tgt := 26) hx hb dX2_costOf_19 (by decide) if01_lt (fun c_19 => ?_) (fun c_19 => ?_)
    · have c_19 := if01_eq c_19
      refine lv_iconst (v := nI 0) hx hb dX2_costOf_26 (by decide) ?_
      refine nn_iadd hx hb dX2_costOf_27 ?_
      exact W.iret (v := (nI (16 + 0))) hx hb hr (fun t ht hW => ⟨⟨(nI (16 + 0)), (), rfl, (by unfold costN; (repeat' (first | rfl | contradiction | split))), by rw [ht]; exact hP, hD⟩, hS.F ht⟩) hS.2.2 dX2_costOf_28
    · have c_19 := if01_ne c_19
      refine lv_iconst (v := nI 1) hx hb dX2_costOf_22 (by decide) ?_
      refine lv_goto (tgt := 27) hx hb dX2_costOf_23 (by decide) ?_
      refine nn_iadd hx hb dX2_costOf_27 ?_
      exact W.iret (v := (nI (16 + 1))) hx hb hr (fun t ht hW => ⟨⟨(nI (16 + 1)), (), rfl, (by unfold costN; (repeat' (first | rfl | contradiction | split))), by rw [ht]; exact hP, hD⟩, hS.F ht⟩) hS.2.2 dX2_costOf_28

set_option maxHeartbeats 4000000 in
set_option maxRecDepth 100000 in
theorem kX2_leastCostOf (l : Launch) (D : va_G) (cA : ClassId) (sz : Nat) (cs : Nat) (hm : Nat) (hc : cs < 2147483648) (hh : hm < 32) : zMi l yX2_leastCostOf wsX2_leastCostOf ({ frames := 0, cells := 0, slots := 0, locals := 0 }) D cA [.int (nI cs), .int (nI hm)] sz [] [] (nI (lcost cs hm)) := by
  refine Met.ofW (cc := cX2_leastCostOf) (maxL := 3) (ret := (some .int)) (by decide) rfl ?_
  intro p e s m args below meth c s₁ B hml hv
  obtain ⟨rfl, hsz, hP, hK, hD0⟩ := hv
  have hx := B.exec
  have hb := B.bytes
  have hr := B.returns
  have hts := atoms_spec (ws := wsX2_leastCostOf) B.pre
  have hown : s.vm.findClass RX2 = some m.cls := findClass_of_methodNamed B.named
  have hlocks := B.notSynchronized
  subst hsz
  have hD := hD0.self (sz := s.heap.size)
  generalize hAe : va_A [] s.heap.size = A at hD ⊢
  have hA : ∀ q : Nat, s.heap.size ≤ q → A q := fun q h => by rw [← hAe]; exact Or.inr h
  have hS : va_S A s.heap s.heap [] := va_S.rf
  have hP : va_P D vwCl [] s.heap := hP
  have hl := lv_entry ([.int (nI cs), .int (nI hm)]) (n := 3) (Nat.le_of_ble_eq_true rfl)
  rw [lg_entry_eq]
  generalize (lg_sl ([.int (nI cs), .int (nI hm)]) ++ List.replicate (3 - (lg_sl ([.int (nI cs), .int (nI hm)])).length) Slot.unset).toArray = ls at hl ⊢
  have hl : lv_has ls 3 [(0, .int (nI cs)), (1, .int (nI hm))] := hl
  refine lv_iload_n hx hb dX2_leastCostOf_0 rfl (lv_at hl 0 rfl) ?_
  refine nn_if_ne (tgt := 8) hx hb dX2_leastCostOf_1 (by decide) (by omega) (fun c_1 => ?_) (fun c_1 => ?_)
  · refine lv_iload_n hx hb dX2_leastCostOf_8 rfl (lv_at hl 0 rfl) ?_
    refine lv_iload_n hx hb dX2_leastCostOf_9 rfl (lv_at hl 1 rfl) ?_
    refine nn_ishr hx hb (by omega) (by omega) dX2_leastCostOf_10 ?_
    refine lv_iconst (v := nI 1) hx hb dX2_leastCostOf_11 (by decide) ?_
    refine nn_iand hx hb dX2_leastCostOf_12 ?_
    refine nn_if_eq (tgt := 18) hx hb dX2_leastCostOf_13 (by decide) (and1_lt _) (fun c_13 => ?_) (fun c_13 => ?_)
    · refine lv_iload_n hx hb dX2_leastCostOf_18 rfl (lv_at hl 0 rfl) ?_
      refine lv_iconst (v := nI 1) hx hb dX2_leastCostOf_19 (by decide) ?_
      refine nn_iand hx hb dX2_leastCostOf_20 ?_
      refine nn_if_ne (tgt := 30) hx hb dX2_leastCostOf_21 (by decide) (and1_lt _) (fun c_21 => ?_) (fun c_21 => ?_)
      · refine lv_iconst (v := nI 1) hx hb dX2_leastCostOf_30 (by decide) ?_
        refine lv_goto (tgt := 35) hx hb dX2_leastCostOf_31 (by decide) ?_
        refine lv_istore_n (lv' := [(2, .int (nI 1)), (0, .int (nI cs)), (1, .int (nI hm))]) hx hb dX2_leastCostOf_35 rfl hl (by decide) rfl (fun ls hl => ?_)
        refine lv_iload_n hx hb dX2_leastCostOf_36 rfl (lv_at hl 0 rfl) ?_
        refine nn_if_eq (tgt := 45) hx hb dX2_leastCostOf_37 (by decide) (by decide) (fun c9 => absurd c9 (by decide)) (fun _ => ?_)
        refine lv_bipush (v := nI 16) hx hb dX2_leastCostOf_40 (by decide) ?_
        refine lv_goto (tgt := 47) hx hb dX2_leastCostOf_42 (by decide) ?_
        exact W.iret (v := (nI 16)) hx hb hr (fun t ht hW => ⟨⟨(nI 16), (), rfl, (by unfold lcost; simp_all), by rw [ht]; exact hP, hD⟩, hS.F ht⟩) hS.2.2 dX2_leastCostOf_47
      · refine lv_iload_n hx hb dX2_leastCostOf_24 rfl (lv_at hl 0 rfl) ?_
        refine lv_iload_n hx hb dX2_leastCostOf_25 rfl (lv_at hl 1 rfl) ?_
        refine nn_ishr hx hb (by omega) (by omega) dX2_leastCostOf_26 ?_
        refine nn_if_eq (tgt := 34) hx hb dX2_leastCostOf_27 (by decide) (Nat.lt_of_le_of_lt (shr_le _ _) hc) (fun c_27 => ?_) (fun c_27 => ?_)
        · refine lv_iconst (v := nI 0) hx hb dX2_leastCostOf_34 (by decide) ?_
          refine lv_istore_n (lv' := [(2, .int (nI 0)), (0, .int (nI cs)), (1, .int (nI hm))]) hx hb dX2_leastCostOf_35 rfl hl (by decide) rfl (fun ls hl => ?_)
          refine lv_iload_n hx hb dX2_leastCostOf_36 rfl (lv_at hl 0 rfl) ?_
          refine nn_if_eq (tgt := 45) hx hb dX2_leastCostOf_37 (by decide) (by decide) (fun _ => ?_) (fun c9 => absurd c9 (by decide))
          refine lv_bipush (v := nI 17) hx hb dX2_leastCostOf_45 (by decide) ?_
          exact W.iret (v := (nI 17)) hx hb hr (fun t ht hW => ⟨⟨(nI 17), (), rfl, (by unfold lcost; simp_all), by rw [ht]; exact hP, hD⟩, hS.F ht⟩) hS.2.2 dX2_leastCostOf_47
        · refine lv_iconst (v := nI 1) hx hb dX2_leastCostOf_30 (by decide) ?_
          refine lv_goto (tgt := 35) hx hb dX2_leastCostOf_31 (by decide) ?_
          refine lv_istore_n (lv' := [(2, .int (nI 1)), (0, .int (nI cs)), (1, .int (nI hm))]) hx hb dX2_leastCostOf_35 rfl hl (by decide) rfl (fun ls hl => ?_)
          refine lv_iload_n hx hb dX2_leastCostOf_36 rfl (lv_at hl 0 rfl) ?_
          refine nn_if_eq (tgt := 45) hx hb dX2_leastCostOf_37 (by decide) (by decide) (fun c9 => absurd c9 (by decide)) (fun _ => ?_)
          refine lv_bipush (v := nI 16) hx hb dX2_leastCostOf_40 (by decide) ?_
          refine lv_goto (tgt := 47) hx hb dX2_leastCostOf_42 (by decide) ?_
          exact W.iret (v := (nI 16)) hx hb hr (fun t ht hW => ⟨⟨(nI 16), (), rfl, (by unfold lcost; simp_all), by rw [ht]; exact hP, hD⟩, hS.F ht⟩) hS.2.2 dX2_leastCostOf_47
    · refine lv_iconst (v := nI 0) hx hb dX2_leastCostOf_16 (by decide) ?_
      exact W.iret (v := (nI 0)) hx hb hr (fun t ht hW => ⟨⟨(nI 0), (), rfl, (by unfold lcost; simp_all), by rw [ht]; exact hP, hD⟩, hS.F ht⟩) hS.2.2 dX2_leastCostOf_17
  · refine lv_sipush (v := nI 144) hx hb dX2_leastCostOf_4 (by decide) ?_
    exact W.iret (v := (nI 144)) hx hb hr (fun t ht hW => ⟨⟨(nI 144), (), rfl, (by unfold lcost; simp_all), by rw [ht]; exact hP, hD⟩, hS.F ht⟩) hS.2.2 dX2_leastCostOf_7

set_option maxHeartbeats 4000000 in
set_option maxRecDepth 100000 in
theorem kX1_place (l : Launch) (D : va_G) (cA : ClassId) (sz : Nat) (na : Nat) (cd : Nat) (ot : Nat)  : zMi l yX1_place wsX1_place ({ frames := 0, cells := 0, slots := 0, locals := 0 }) D cA [.int (nI na), .int (nI cd), .int (nI ot)] sz [] [] (nI ((na * 7 + cd) * 8 + ot)) := by
  refine Met.ofW (cc := cX1_place) (maxL := 3) (ret := (some .int)) (by decide) rfl ?_
  intro p e s m args below meth c s₁ B hml hv
  obtain ⟨rfl, hsz, hP, hK, hD0⟩ := hv
  have hx := B.exec
  have hb := B.bytes
  have hr := B.returns
  have hts := atoms_spec (ws := wsX1_place) B.pre
  have hown : s.vm.findClass RX1 = some m.cls := findClass_of_methodNamed B.named
  have hlocks := B.notSynchronized
  subst hsz
  have hD := hD0.self (sz := s.heap.size)
  generalize hAe : va_A [] s.heap.size = A at hD ⊢
  have hA : ∀ q : Nat, s.heap.size ≤ q → A q := fun q h => by rw [← hAe]; exact Or.inr h
  have hS : va_S A s.heap s.heap [] := va_S.rf
  have hP : va_P D vwCl [] s.heap := hP
  have hl := lv_entry ([.int (nI na), .int (nI cd), .int (nI ot)]) (n := 3) (Nat.le_of_ble_eq_true rfl)
  rw [lg_entry_eq]
  generalize (lg_sl ([.int (nI na), .int (nI cd), .int (nI ot)]) ++ List.replicate (3 - (lg_sl ([.int (nI na), .int (nI cd), .int (nI ot)])).length) Slot.unset).toArray = ls at hl ⊢
  have hl : lv_has ls 3 [(0, .int (nI na)), (1, .int (nI cd)), (2, .int (nI ot))] := hl
  refine lv_iload_n hx hb dX1_place_0 rfl (lv_at hl 0 rfl) ?_
  refine lv_bipush (v := nI 7) hx hb dX1_place_1 (by decide) ?_
  refine nn_imul hx hb dX1_place_3 ?_
  refine lv_iload_n hx hb dX1_place_4 rfl (lv_at hl 1 rfl) ?_
  refine nn_iadd hx hb dX1_place_5 ?_
  refine lv_bipush (v := nI 8) hx hb dX1_place_6 (by decide) ?_
  refine nn_imul hx hb dX1_place_8 ?_
  refine lv_iload_n hx hb dX1_place_9 rfl (lv_at hl 2 rfl) ?_
  refine nn_iadd hx hb dX1_place_10 ?_
  exact W.iret (v := (nI ((((na * 7) + cd) * 8) + ot))) hx hb hr (fun t ht hW => ⟨⟨(nI ((((na * 7) + cd) * 8) + ot)), (), rfl, (by simp_all), by rw [ht]; exact hP, hD⟩, hS.F ht⟩) hS.2.2 dX1_place_11

set_option maxHeartbeats 4000000 in
set_option maxRecDepth 100000 in
theorem kX3_codeOf (l : Launch) (D : va_G) (cA : ClassId) (sz : Nat) (xx : Int32)  : zMi l yX3_codeOf wsX3_codeOf ({ frames := 0, cells := 0, slots := 0, locals := 0 }) D cA [.int xx] sz [] [] (xx + nI 1) := by
  refine Met.ofW (cc := cX3_codeOf) (maxL := 1) (ret := (some .int)) (by decide) rfl ?_
  intro p e s m args below meth c s₁ B hml hv
  obtain ⟨rfl, hsz, hP, hK, hD0⟩ := hv
  have hx := B.exec
  have hb := B.bytes
  have hr := B.returns
  have hts := atoms_spec (ws := wsX3_codeOf) B.pre
  have hown : s.vm.findClass RX3 = some m.cls := findClass_of_methodNamed B.named
  have hlocks := B.notSynchronized
  subst hsz
  have hD := hD0.self (sz := s.heap.size)
  generalize hAe : va_A [] s.heap.size = A at hD ⊢
  have hA : ∀ q : Nat, s.heap.size ≤ q → A q := fun q h => by rw [← hAe]; exact Or.inr h
  have hS : va_S A s.heap s.heap [] := va_S.rf
  have hP : va_P D vwCl [] s.heap := hP
  have hl := lv_entry ([.int xx]) (n := 1) (Nat.le_of_ble_eq_true rfl)
  rw [lg_entry_eq]
  generalize (lg_sl ([.int xx]) ++ List.replicate (1 - (lg_sl ([.int xx])).length) Slot.unset).toArray = ls at hl ⊢
  have hl : lv_has ls 1 [(0, .int xx)] := hl
  refine lv_iload_n hx hb dX3_codeOf_0 rfl (lv_at hl 0 rfl) ?_
  refine lv_iconst (v := nI 1) hx hb dX3_codeOf_1 (by decide) ?_
  refine lv_iadd hx hb dX3_codeOf_2 ?_
  exact W.iret (v := (xx + (nI 1))) hx hb hr (fun t ht hW => ⟨⟨(xx + (nI 1)), (), rfl, (by simp_all), by rw [ht]; exact hP, hD⟩, hS.F ht⟩) hS.2.2 dX3_codeOf_3

set_option maxHeartbeats 4000000 in
set_option maxRecDepth 100000 in
theorem kX3_versionOf (l : Launch) (D : va_G) (cA : ClassId) (sz : Nat) (xx : Int32)  : zMi l yX3_versionOf wsX3_versionOf ({ frames := 0, cells := 0, slots := 0, locals := 0 }) D cA [.int xx] sz [] [] (xx - nI 1) := by
  refine Met.ofW (cc := cX3_versionOf) (maxL := 1) (ret := (some .int)) (by decide) rfl ?_
  intro p e s m args below meth c s₁ B hml hv
  obtain ⟨rfl, hsz, hP, hK, hD0⟩ := hv
  have hx := B.exec
  have hb := B.bytes
  have hr := B.returns
  have hts := atoms_spec (ws := wsX3_versionOf) B.pre
  have hown : s.vm.findClass RX3 = some m.cls := findClass_of_methodNamed B.named
  have hlocks := B.notSynchronized
  subst hsz
  have hD := hD0.self (sz := s.heap.size)
  generalize hAe : va_A [] s.heap.size = A at hD ⊢
  have hA : ∀ q : Nat, s.heap.size ≤ q → A q := fun q h => by rw [← hAe]; exact Or.inr h
  have hS : va_S A s.heap s.heap [] := va_S.rf
  have hP : va_P D vwCl [] s.heap := hP
  have hl := lv_entry ([.int xx]) (n := 1) (Nat.le_of_ble_eq_true rfl)
  rw [lg_entry_eq]
  generalize (lg_sl ([.int xx]) ++ List.replicate (1 - (lg_sl ([.int xx])).length) Slot.unset).toArray = ls at hl ⊢
  have hl : lv_has ls 1 [(0, .int xx)] := hl
  refine lv_iload_n hx hb dX3_versionOf_0 rfl (lv_at hl 0 rfl) ?_
  refine lv_iconst (v := nI 1) hx hb dX3_versionOf_1 (by decide) ?_
  refine lv_isub hx hb dX3_versionOf_2 ?_
  exact W.iret (v := (xx - (nI 1))) hx hb hr (fun t ht hW => ⟨⟨(xx - (nI 1)), (), rfl, (by simp_all), by rw [ht]; exact hP, hD⟩, hS.F ht⟩) hS.2.2 dX3_versionOf_3

set_option maxHeartbeats 4000000 in
set_option maxRecDepth 100000 in
theorem kX3_codesOf (l : Launch) (D : va_G) (cA : ClassId) (sz : Nat) (dd : Int64)  : zMi l yX3_codesOf wsX3_codesOf ({ frames := 0, cells := 0, slots := 0, locals := 0 }) D cA [.long dd] sz [] [] (nI (2 * lo6 dd)) := by
  refine Met.ofW (cc := cX3_codesOf) (maxL := 2) (ret := (some .int)) (by decide) rfl ?_
  intro p e s m args below meth c s₁ B hml hv
  obtain ⟨rfl, hsz, hP, hK, hD0⟩ := hv
  have hx := B.exec
  have hb := B.bytes
  have hr := B.returns
  have hts := atoms_spec (ws := wsX3_codesOf) B.pre
  have hown : s.vm.findClass RX3 = some m.cls := findClass_of_methodNamed B.named
  have hlocks := B.notSynchronized
  subst hsz
  have hD := hD0.self (sz := s.heap.size)
  generalize hAe : va_A [] s.heap.size = A at hD ⊢
  have hA : ∀ q : Nat, s.heap.size ≤ q → A q := fun q h => by rw [← hAe]; exact Or.inr h
  have hS : va_S A s.heap s.heap [] := va_S.rf
  have hP : va_P D vwCl [] s.heap := hP
  have hl := lv_entry ([.long dd]) (n := 2) (Nat.le_of_ble_eq_true rfl)
  rw [lg_entry_eq]
  generalize (lg_sl ([.long dd]) ++ List.replicate (2 - (lg_sl ([.long dd])).length) Slot.unset).toArray = ls at hl ⊢
  have hl : lv_has ls 2 [(0, .long dd)] := hl
  refine lv_lload_n hx hb dX3_codesOf_0 rfl (lv_at hl 0 rfl) ?_
  refine lv_iconst (v := nI 1) hx hb dX3_codesOf_1 (by decide) ?_
  refine lv_lshl hx hb dX3_codesOf_2 rfl ?_
  refine lv_l2i hx hb dX3_codesOf_3 rfl ?_
  refine lv_bipush (v := nI 127) hx hb dX3_codesOf_4 (by decide) ?_
  refine lv_iand hx hb dX3_codesOf_6 ?_
  refine lv_bipush (v := -2) hx hb dX3_codesOf_7 (by decide) ?_
  refine lv_iand hx hb dX3_codesOf_9 ?_
  exact W.iret (v := ((((dd <<< ((nI 1).toInt64 &&& 63)).toInt32) &&& (nI 127)) &&& (-2))) hx hb hr (fun t ht hW => ⟨⟨((((dd <<< ((nI 1).toInt64 &&& 63)).toInt32) &&& (nI 127)) &&& (-2)), (), rfl, (by exact csOf_eq dd), by rw [ht]; exact hP, hD⟩, hS.F ht⟩) hS.2.2 dX3_codesOf_10

theorem clX3_digestOf_151 : Cond.constantLong RX3 151 (1000003) ∈ wsX3_digestOf := by decide +kernel
theorem clX3_digestOf_153 : Cond.constantLong RX3 153 (2654435761) ∈ wsX3_digestOf := by decide +kernel
set_option maxHeartbeats 4000000 in
set_option maxRecDepth 100000 in
theorem kX3_digestOf (l : Launch) (D : va_G) (cA : ClassId) (sz : Nat) (na : Int32) (ve : Int32)  : zMl l yX3_digestOf wsX3_digestOf ({ frames := 0, cells := 0, slots := 0, locals := 0 }) D cA [.int na, .int ve] sz [] [] (dgN na ve) := by
  refine Met.ofW (cc := cX3_digestOf) (maxL := 2) (ret := (some .long)) (by decide) rfl ?_
  intro p e s m args below meth c s₁ B hml hv
  obtain ⟨rfl, hsz, hP, hK, hD0⟩ := hv
  have hx := B.exec
  have hb := B.bytes
  have hr := B.returns
  have hts := atoms_spec (ws := wsX3_digestOf) B.pre
  have hown : s.vm.findClass RX3 = some m.cls := findClass_of_methodNamed B.named
  have hlocks := B.notSynchronized
  subst hsz
  have hD := hD0.self (sz := s.heap.size)
  generalize hAe : va_A [] s.heap.size = A at hD ⊢
  have hA : ∀ q : Nat, s.heap.size ≤ q → A q := fun q h => by rw [← hAe]; exact Or.inr h
  have hS : va_S A s.heap s.heap [] := va_S.rf
  have hP : va_P D vwCl [] s.heap := hP
  have hl := lv_entry ([.int na, .int ve]) (n := 2) (Nat.le_of_ble_eq_true rfl)
  rw [lg_entry_eq]
  generalize (lg_sl ([.int na, .int ve]) ++ List.replicate (2 - (lg_sl ([.int na, .int ve])).length) Slot.unset).toArray = ls at hl ⊢
  have hl : lv_has ls 2 [(0, .int na), (1, .int ve)] := hl
  refine lv_iload_n hx hb dX3_digestOf_0 rfl (lv_at hl 0 rfl) ?_
  refine lv_iconst (v := nI 1) hx hb dX3_digestOf_1 (by decide) ?_
  refine lv_iadd hx hb dX3_digestOf_2 ?_
  refine lv_i2l hx hb dX3_digestOf_3 rfl ?_
  refine lv_ldc2 (v := 1000003) hx hb hown (hts _ clX3_digestOf_151) dX3_digestOf_4 ?_
  refine lv_lmul hx hb dX3_digestOf_7 ?_
  refine lv_iload_n hx hb dX3_digestOf_8 rfl (lv_at hl 1 rfl) ?_
  refine lv_i2l hx hb dX3_digestOf_9 rfl ?_
  refine lv_ladd hx hb dX3_digestOf_10 ?_
  refine lv_lconst (v := 1) hx hb dX3_digestOf_11 (by decide) ?_
  refine lv_ladd hx hb dX3_digestOf_12 ?_
  refine lv_ldc2 (v := 2654435761) hx hb hown (hts _ clX3_digestOf_153) dX3_digestOf_13 ?_
  refine lv_lmul hx hb dX3_digestOf_16 ?_
  exact W.lret (v := ((((((na + (nI 1)).toInt64) * (1000003 : Int64)) + ve.toInt64) + (1 : Int64)) * (2654435761 : Int64))) hx hb hr (fun t ht hW => ⟨⟨((((((na + (nI 1)).toInt64) * (1000003 : Int64)) + ve.toInt64) + (1 : Int64)) * (2654435761 : Int64)), (), rfl, (by rfl), by rw [ht]; exact hP, hD⟩, hS.F ht⟩) hS.2.2 dX3_digestOf_17

theorem clX4_digestOf_126 : Cond.constantLong RX4 126 (1000003) ∈ wsX4_digestOf := by decide +kernel
theorem clX4_digestOf_128 : Cond.constantLong RX4 128 (2654435761) ∈ wsX4_digestOf := by decide +kernel
set_option maxHeartbeats 4000000 in
set_option maxRecDepth 100000 in
theorem kX4_digestOf (l : Launch) (D : va_G) (cA : ClassId) (sz : Nat) (na : Int32) (ve : Int32)  : zMl l yX4_digestOf wsX4_digestOf ({ frames := 0, cells := 0, slots := 0, locals := 0 }) D cA [.int na, .int ve] sz [] [] (dgN na ve) := by
  refine Met.ofW (cc := cX4_digestOf) (maxL := 2) (ret := (some .long)) (by decide) rfl ?_
  intro p e s m args below meth c s₁ B hml hv
  obtain ⟨rfl, hsz, hP, hK, hD0⟩ := hv
  have hx := B.exec
  have hb := B.bytes
  have hr := B.returns
  have hts := atoms_spec (ws := wsX4_digestOf) B.pre
  have hown : s.vm.findClass RX4 = some m.cls := findClass_of_methodNamed B.named
  have hlocks := B.notSynchronized
  subst hsz
  have hD := hD0.self (sz := s.heap.size)
  generalize hAe : va_A [] s.heap.size = A at hD ⊢
  have hA : ∀ q : Nat, s.heap.size ≤ q → A q := fun q h => by rw [← hAe]; exact Or.inr h
  have hS : va_S A s.heap s.heap [] := va_S.rf
  have hP : va_P D vwCl [] s.heap := hP
  have hl := lv_entry ([.int na, .int ve]) (n := 2) (Nat.le_of_ble_eq_true rfl)
  rw [lg_entry_eq]
  generalize (lg_sl ([.int na, .int ve]) ++ List.replicate (2 - (lg_sl ([.int na, .int ve])).length) Slot.unset).toArray = ls at hl ⊢
  have hl : lv_has ls 2 [(0, .int na), (1, .int ve)] := hl
  refine lv_iload_n hx hb dX4_digestOf_0 rfl (lv_at hl 0 rfl) ?_
  refine lv_iconst (v := nI 1) hx hb dX4_digestOf_1 (by decide) ?_
  refine lv_iadd hx hb dX4_digestOf_2 ?_
  refine lv_i2l hx hb dX4_digestOf_3 rfl ?_
  refine lv_ldc2 (v := 1000003) hx hb hown (hts _ clX4_digestOf_126) dX4_digestOf_4 ?_
  refine lv_lmul hx hb dX4_digestOf_7 ?_
  refine lv_iload_n hx hb dX4_digestOf_8 rfl (lv_at hl 1 rfl) ?_
  refine lv_i2l hx hb dX4_digestOf_9 rfl ?_
  refine lv_ladd hx hb dX4_digestOf_10 ?_
  refine lv_lconst (v := 1) hx hb dX4_digestOf_11 (by decide) ?_
  refine lv_ladd hx hb dX4_digestOf_12 ?_
  refine lv_ldc2 (v := 2654435761) hx hb hown (hts _ clX4_digestOf_128) dX4_digestOf_13 ?_
  refine lv_lmul hx hb dX4_digestOf_16 ?_
  exact W.lret (v := ((((((na + (nI 1)).toInt64) * (1000003 : Int64)) + ve.toInt64) + (1 : Int64)) * (2654435761 : Int64))) hx hb hr (fun t ht hW => ⟨⟨((((((na + (nI 1)).toInt64) * (1000003 : Int64)) + ve.toInt64) + (1 : Int64)) * (2654435761 : Int64)), (), rfl, (by rfl), by rw [ht]; exact hP, hD⟩, hS.F ht⟩) hS.2.2 dX4_digestOf_17
end
section

/-- a loop that counts up: k rounds from i on -/
def zlp {σ : Type} (body : Nat → σ → σ) : Nat → Nat → σ → σ
  | 0, _, x => x
  | k + 1, i, x => zlp body k (i + 1) (body i x)
theorem shl1_pos (v : Nat) : 1 ≤ 2 <<< v := by rw [Nat.shiftLeft_eq]; exact Nat.le_trans (by decide) (Nat.mul_le_mul (show 1 ≤ 2 by decide) (Nat.one_le_two_pow (n := v)))

theorem lkX1_open_9 : Cond.fieldLink RX1 9 "LeastChange$Rules" "alone" "[I" ∈ wsX1_open := by decide +kernel
theorem inX1_open_X1 : ∀ w ∈ wsX10, w ∈ wsX1_open := by decide +kernel
set_option maxHeartbeats 4000000 in
set_option maxRecDepth 100000 in
theorem kX1_open (l : Launch) (D : va_G) (cA : ClassId) (sz : Nat) (ra : Nat) (al : Nat) (be : Nat) (fal : Nat → Nat) (fbe : Nat → Nat) (na : Nat) (vs : Nat) (hn : na < 8) (hv : vs < 32) : zMv l yX1_open wsX1_open ({ frames := 0, cells := 0, slots := 0, locals := 0 }) D cA [.ref ra, .int (nI na), .int (nI vs)] sz [(ra, .inr (3, [.ref al, .ref be])), (al, .inl (cA, 8, .inl (aN fal))), (be, .inl (cA, 448, .inl (aN fbe)))] [(ra, .inr (3, [.ref al, .ref be])), (al, .inl (cA, 8, .inl (aN (va_up fal na ((2 <<< vs) - 1))))), (be, .inl (cA, 448, .inl (aN fbe)))] := by
  refine Met.ofW (cc := cX1_open) (maxL := 3) (ret := none) (by decide) rfl ?_
  intro p e s m args below meth c s₁ B hml hv
  obtain ⟨rfl, hsz, hP, hK, hD0⟩ := hv
  have hx := B.exec
  have hb := B.bytes
  have hr := B.returns
  have hts := atoms_spec (ws := wsX1_open) B.pre
  have hown : s.vm.findClass RX1 = some m.cls := findClass_of_methodNamed B.named
  have hlocks := B.notSynchronized
  subst hsz
  have hD := hD0.self (sz := s.heap.size)
  generalize hAe : va_A [(ra, .inr (3, [.ref al, .ref be])), (al, .inl (cA, 8, .inl (aN fal))), (be, .inl (cA, 448, .inl (aN fbe)))] s.heap.size = A at hD ⊢
  have hA : ∀ q : Nat, s.heap.size ≤ q → A q := fun q h => by rw [← hAe]; exact Or.inr h
  have hS : va_S A s.heap s.heap [] := va_S.rf
  have hP : va_P D vwCl [(ra, .inr (3, [.ref al, .ref be])), (al, .inl (cA, 8, .inl (aN fal))), (be, .inl (cA, 448, .inl (aN fbe)))] s.heap := hP
  have hl := lv_entry ([.ref ra, .int (nI na), .int (nI vs)]) (n := 3) (Nat.le_of_ble_eq_true rfl)
  rw [lg_entry_eq]
  generalize (lg_sl ([.ref ra, .int (nI na), .int (nI vs)]) ++ List.replicate (3 - (lg_sl ([.ref ra, .int (nI na), .int (nI vs)])).length) Slot.unset).toArray = ls at hl ⊢
  have hl : lv_has ls 3 [(0, .ref ra), (1, .int (nI na)), (2, .int (nI vs))] := hl
  refine lv_aload_n hx hb dX1_open_0 rfl (lv_at hl 0 rfl) ?_
  refine va_get (D := D) (ci := 3) (v := .ref al) (C := RX1) (T := TX1) (N := 2) hx hb hts inX1_open_X1 hown hK.1 hP 0 rfl rfl 0 (by decide) (hts _ lkX1_open_9) (fun _ h9 => h9) rfl dX1_open_1 ?_
  refine lv_iload_n hx hb dX1_open_4 rfl (lv_at hl 1 rfl) ?_
  refine lv_iconst (v := nI 2) hx hb dX1_open_5 (by decide) ?_
  refine lv_iload_n hx hb dX1_open_6 rfl (lv_at hl 2 rfl) ?_
  refine nn_ishl hx hb (by omega) dX1_open_7 ?_
  refine lv_iconst (v := nI 1) hx hb dX1_open_8 (by decide) ?_
  refine nn_isub hx hb (shl1_pos vs) dX1_open_9 ?_
  refine nn_ast hx hb hK hP hD hS 1 rfl (by omega) (by decide) dX1_open_10 (fun H locs hP hD hS => ?_)
  have hP : va_P D vwCl [(ra, .inr (3, [.ref al, .ref be])), (al, .inl (cA, 8, .inl (aN (va_up fal na ((2 <<< vs) - 1))))), (be, .inl (cA, 448, .inl (aN fbe)))] H := hP
  have hD : va_D A [(ra, .inr (3, [.ref al, .ref be])), (al, .inl (cA, 8, .inl (aN (va_up fal na ((2 <<< vs) - 1))))), (be, .inl (cA, 448, .inl (aN fbe)))] := hD
  exact W.vret hx hb hr (fun t ht hW => ⟨⟨(), rfl, trivial, by rw [ht]; exact hP, hD⟩, hS.F ht⟩) hS.2.2 dX1_open_11

theorem lkX1_narrow_9 : Cond.fieldLink RX1 9 "LeastChange$Rules" "alone" "[I" ∈ wsX1_narrow := by decide +kernel
theorem inX1_narrow_X1 : ∀ w ∈ wsX10, w ∈ wsX1_narrow := by decide +kernel
set_option maxHeartbeats 4000000 in
set_option maxRecDepth 100000 in
theorem kX1_narrow (l : Launch) (D : va_G) (cA : ClassId) (sz : Nat) (ra : Nat) (al : Nat) (be : Nat) (fal : Nat → Nat) (fbe : Nat → Nat) (na : Nat) (cs : Nat) (hn : na < 8) : zMv l yX1_narrow wsX1_narrow ({ frames := 0, cells := 0, slots := 0, locals := 0 }) D cA [.ref ra, .int (nI na), .int (nI cs)] sz [(ra, .inr (3, [.ref al, .ref be])), (al, .inl (cA, 8, .inl (aN fal))), (be, .inl (cA, 448, .inl (aN fbe)))] [(ra, .inr (3, [.ref al, .ref be])), (al, .inl (cA, 8, .inl (aN (va_up fal na ((fal na) &&& cs))))), (be, .inl (cA, 448, .inl (aN fbe)))] := by
  refine Met.ofW (cc := cX1_narrow) (maxL := 3) (ret := none) (by decide) rfl ?_
  intro p e s m args below meth c s₁ B hml hv
  obtain ⟨rfl, hsz, hP, hK, hD0⟩ := hv
  have hx := B.exec
  have hb := B.bytes
  have hr := B.returns
  have hts := atoms_spec (ws := wsX1_narrow) B.pre
  have hown : s.vm.findClass RX1 = some m.cls := findClass_of_methodNamed B.named
  have hlocks := B.notSynchronized
  subst hsz
  have hD := hD0.self (sz := s.heap.size)
  generalize hAe : va_A [(ra, .inr (3, [.ref al, .ref be])), (al, .inl (cA, 8, .inl (aN fal))), (be, .inl (cA, 448, .inl (aN fbe)))] s.heap.size = A at hD ⊢
  have hA : ∀ q : Nat, s.heap.size ≤ q → A q := fun q h => by rw [← hAe]; exact Or.inr h
  have hS : va_S A s.heap s.heap [] := va_S.rf
  have hP : va_P D vwCl [(ra, .inr (3, [.ref al, .ref be])), (al, .inl (cA, 8, .inl (aN fal))), (be, .inl (cA, 448, .inl (aN fbe)))] s.heap := hP
  have hl := lv_entry ([.ref ra, .int (nI na), .int (nI cs)]) (n := 3) (Nat.le_of_ble_eq_true rfl)
  rw [lg_entry_eq]
  generalize (lg_sl ([.ref ra, .int (nI na), .int (nI cs)]) ++ List.replicate (3 - (lg_sl ([.ref ra, .int (nI na), .int (nI cs)])).length) Slot.unset).toArray = ls at hl ⊢
  have hl : lv_has ls 3 [(0, .ref ra), (1, .int (nI na)), (2, .int (nI cs))] := hl
  refine lv_aload_n hx hb dX1_narrow_0 rfl (lv_at hl 0 rfl) ?_
  refine va_get (D := D) (ci := 3) (v := .ref al) (C := RX1) (T := TX1) (N := 2) hx hb hts inX1_narrow_X1 hown hK.1 hP 0 rfl rfl 0 (by decide) (hts _ lkX1_narrow_9) (fun _ h9 => h9) rfl dX1_narrow_1 ?_
  refine lv_iload_n hx hb dX1_narrow_4 rfl (lv_at hl 1 rfl) ?_
  refine lv_dup2_11 hx hb dX1_narrow_5 rfl rfl ?_
  refine nn_ald hx hb hK hP 1 rfl (by omega) (by decide) dX1_narrow_6 ?_
  refine lv_iload_n hx hb dX1_narrow_7 rfl (lv_at hl 2 rfl) ?_
  refine nn_iand hx hb dX1_narrow_8 ?_
  refine nn_ast hx hb hK hP hD hS 1 rfl (by omega) (by decide) dX1_narrow_9 (fun H locs hP hD hS => ?_)
  have hP : va_P D vwCl [(ra, .inr (3, [.ref al, .ref be])), (al, .inl (cA, 8, .inl (aN (va_up fal na ((fal na) &&& cs))))), (be, .inl (cA, 448, .inl (aN fbe)))] H := hP
  have hD : va_D A [(ra, .inr (3, [.ref al, .ref be])), (al, .inl (cA, 8, .inl (aN (va_up fal na ((fal na) &&& cs))))), (be, .inl (cA, 448, .inl (aN fbe)))] := hD
  exact W.vret hx hb hr (fun t ht hW => ⟨⟨(), rfl, trivial, by rw [ht]; exact hP, hD⟩, hS.F ht⟩) hS.2.2 dX1_narrow_10


/-- without the bit cd -/
def offB (x cd : Nat) : Nat := x &&& ((1 <<< cd) ^^^ 4294967295)
def plc (na cd ot : Nat) : Nat := (na * 7 + cd) * 8 + ot
def tieBody (na cd ot cs : Nat) : Nat → (Nat → Nat) → Nat → Nat := fun oc f => if (cs >>> oc) &&& 1 = 0 then va_up f ((ot * 7 + oc) * 8 + na) ((f ((ot * 7 + oc) * 8 + na)) &&& ((1 <<< cd) ^^^ 4294967295)) else f
def tieBe (na cd ot cs : Nat) (fbe : Nat → Nat) : Nat → Nat := if na = ot then fbe else zlp (tieBody na cd ot cs) 7 0 (va_up fbe ((na * 7 + cd) * 8 + ot) ((fbe ((na * 7 + cd) * 8 + ot)) &&& cs))
def tieAl (na cd ot cs : Nat) (fal : Nat → Nat) : Nat → Nat := if na = ot then (if (cs >>> cd) &&& 1 = 0 then va_up fal na ((fal na) &&& ((1 <<< cd) ^^^ 4294967295)) else fal) else fal

theorem lkX1_tie_15 : Cond.fieldLink RX1 15 "LeastChange$Rules" "beside" "[I" ∈ wsX1_tie := by decide +kernel
theorem inX1_tie_X1 : ∀ w ∈ wsX10, w ∈ wsX1_tie := by decide +kernel
set_option maxHeartbeats 4000000 in
set_option maxRecDepth 100000 in
theorem bX1_tie {p : Program} {l : Launch} {e : Env} {R : Room} {s : State} {m : MethodId} {args : Array Value} {below : List Frame} {meth : Method} {c : Code} {Q : State → Prop} {A : Nat → Prop} {H0 : Heap} {D : va_G} {cA : ClassId} (hx : p.tables.exec = Jvm.exec) (hb : c.code = cX1_tie) (hml : c.maxLocals = 6) (hown : s.vm.findClass RX1 = some m.cls) (hts : ∀ w ∈ wsX1_tie, w.before args s = true) (hK : zK D cA s) (hA : ∀ q, H0.size ≤ q → A q) (ra : Nat) (al : Nat) (be : Nat) (fal : Nat → Nat) (na : Nat) (cd : Nat) (ot : Nat) (cs : Nat) (hn : na < 8) (hc : cd < 7) (ho : ot < 8) (hs : cs < 2147483648) (hRf : 1 ≤ R.frames) (hRl : 22 ≤ R.locals)  : ∀ (k : Nat) (i : Nat) (x : Nat → Nat), (i + k = 7) → ∀ (H : Heap) (locs : List Loc) (ls : Array Slot), va_P D vwCl [(ra, .inr (3, [.ref al, .ref be])), (al, .inl (cA, 8, .inl (aN fal))), (be, .inl (cA, 448, .inl (aN x)))] H → va_D A [(ra, .inr (3, [.ref al, .ref be])), (al, .inl (cA, 8, .inl (aN fal))), (be, .inl (cA, 448, .inl (aN x)))] → va_S A H0 H locs → lv_has ls 6 [(0, .ref ra), (1, .int (nI na)), (2, .int (nI cd)), (3, .int (nI ot)), (4, .int (nI cs)), (5, .int (nI i))] → (∀ (H : Heap) (locs : List Loc) (ls : Array Slot), va_P D vwCl [(ra, .inr (3, [.ref al, .ref be])), (al, .inl (cA, 8, .inl (aN fal))), (be, .inl (cA, 448, .inl (aN (zlp (tieBody na cd ot cs) k i x))))] H → va_D A [(ra, .inr (3, [.ref al, .ref be])), (al, .inl (cA, 8, .inl (aN fal))), (be, .inl (cA, 448, .inl (aN (zlp (tieBody na cd ot cs) k i x))))] → va_S A H0 H locs → lv_has ls 6 [(0, .ref ra)] → W p l e R s m args below meth c H locs 0 0 Q (F0 m 87 ls [])) → W p l e R s m args below meth c H locs 0 0 Q (F0 m 44 ls []) := by
  intro k
  induction k with
  | zero =>
    intro i x hi H locs ls hP hD hS hl kk
    refine lv_iload hx hb dX1_tie_44 (lv_at hl 5 rfl) ?_
    refine lv_bipush (v := nI 7) hx hb dX1_tie_46 (by decide) ?_
    refine nn_icmp_ge (tgt := 87) hx hb dX1_tie_48 (by decide) (by omega) (by omega) (fun c_48 => ?_) (fun c_48 => ?_)
    · exact kk _ _ _ hP hD hS (lv_sub hl [0] rfl)
    · exfalso; omega
  | succ k ih =>
    intro i x hi H locs ls hP hD hS hl kk
    refine lv_iload hx hb dX1_tie_44 (lv_at hl 5 rfl) ?_
    refine lv_bipush (v := nI 7) hx hb dX1_tie_46 (by decide) ?_
    refine nn_icmp_ge (tgt := 87) hx hb dX1_tie_48 (by decide) (by omega) (by omega) (fun c_48 => ?_) (fun c_48 => ?_)
    · exfalso; omega
    · refine lv_iload hx hb dX1_tie_51 (lv_at hl 4 rfl) ?_
      refine lv_iload hx hb dX1_tie_53 (lv_at hl 5 rfl) ?_
      refine nn_ishr hx hb (by omega) (by omega) dX1_tie_55 ?_
      refine lv_iconst (v := nI 1) hx hb dX1_tie_56 (by decide) ?_
      refine nn_iand hx hb dX1_tie_57 ?_
      refine nn_if_ne (tgt := 81) hx hb dX1_tie_58 (by decide) (and1_lt _) (fun c_58 => ?_) (fun c_58 => ?_)
      · refine lv_iinc (v := (nI (i + 1))) (lv' := [(5, .int (nI (i + 1))), (0, .ref ra), (1, .int (nI na)), (2, .int (nI cd)), (3, .int (nI ot)), (4, .int (nI cs))]) hx hb dX1_tie_81 hl (k := 5) rfl (nI_add _ _) (by decide) rfl (fun ls hl => ?_)
        refine lv_goto (tgt := 44) hx hb dX1_tie_84 (by decide) ?_
        have eB0 : tieBody na cd ot cs i x = x := by unfold tieBody; first | exact if_pos c_58 | exact if_neg c_58
        have hP : va_P D vwCl [(ra, .inr (3, [.ref al, .ref be])), (al, .inl (cA, 8, .inl (aN fal))), (be, .inl (cA, 448, .inl (aN (tieBody na cd ot cs i x))))] H := by rw [eB0]; exact hP
        have hD : va_D A [(ra, .inr (3, [.ref al, .ref be])), (al, .inl (cA, 8, .inl (aN fal))), (be, .inl (cA, 448, .inl (aN (tieBody na cd ot cs i x))))] := by rw [eB0]; exact hD
        exact ih (i + 1) (tieBody na cd ot cs i x) (by omega) _ _ _ hP hD hS (lv_sub hl [1, 2, 3, 4, 5, 0] rfl) kk
      · refine lv_aload_n hx hb dX1_tie_61 rfl (lv_at hl 0 rfl) ?_
        refine va_get (D := D) (ci := 3) (v := .ref be) (C := RX1) (T := TX1) (N := 2) hx hb hts inX1_tie_X1 hown hK.1 hP 0 rfl rfl 1 (by decide) (hts _ lkX1_tie_15) (fun _ h9 => h9) rfl dX1_tie_62 ?_
        refine lv_iload_n hx hb dX1_tie_65 rfl (lv_at hl 3 rfl) ?_
        refine lv_iload hx hb dX1_tie_66 (lv_at hl 5 rfl) ?_
        refine lv_iload_n hx hb dX1_tie_68 rfl (lv_at hl 1 rfl) ?_
        refine zz_callI (av := []) (wc := []) (wr := [(ra, .inr (3, [.ref al, .ref be])), (al, .inl (cA, 8, .inl (aN fal))), (be, .inl (cA, 448, .inl (aN x)))]) hS hA hP hD [] [0, 1, 2] rfl rfl (by decide) (by decide) (va_runS (As := [.int (nI ot), .int (nI i), .int (nI na)]) (rest := [.ref be]) ⟨hx, hb, hml, hown, hts⟩ (kX1_place l D cA H.size ot i na ) (va_cwS 3 hts gX1_tie_X1_place rfl rfl rfl (by decide +kernel) ⟨Nat.le_trans (by decide) hRf, Nat.le_trans (by decide) hRl⟩) (zPreS (av := [.int (nI ot), .int (nI i), .int (nI na)]) (wc := []) hK hP hD [] rfl (by decide) rfl) rfl rfl hl.1 rfl (lv_room (Nat.le_of_ble_eq_true rfl)) dX1_tie_69 ⟨Nat.zero_le _, Nat.zero_le _⟩) (fun H locs hP hD hS => ?_)
        have hP : va_P D vwCl [(ra, .inr (3, [.ref al, .ref be])), (al, .inl (cA, 8, .inl (aN fal))), (be, .inl (cA, 448, .inl (aN x)))] H := hP
        have hD : va_D A [(ra, .inr (3, [.ref al, .ref be])), (al, .inl (cA, 8, .inl (aN fal))), (be, .inl (cA, 448, .inl (aN x)))] := hD
        refine lv_dup2_11 hx hb dX1_tie_72 rfl rfl ?_
        refine nn_ald hx hb hK hP 2 rfl (by omega) (by decide) dX1_tie_73 ?_
        refine lv_iconst (v := nI 1) hx hb dX1_tie_74 (by decide) ?_
        refine lv_iload_n hx hb dX1_tie_75 rfl (lv_at hl 2 rfl) ?_
        refine nn_ishl hx hb (by omega) dX1_tie_76 ?_
        refine lv_iconst (v := -1) hx hb dX1_tie_77 (by decide) ?_
        refine nn_inot hx hb dX1_tie_78 ?_
        refine nn_iand hx hb dX1_tie_79 ?_
        refine nn_ast hx hb hK hP hD hS 2 rfl (by omega) (by decide) dX1_tie_80 (fun H locs hP hD hS => ?_)
        have hP : va_P D vwCl [(ra, .inr (3, [.ref al, .ref be])), (al, .inl (cA, 8, .inl (aN fal))), (be, .inl (cA, 448, .inl (aN (va_up x ((ot * 7 + i) * 8 + na) ((x ((ot * 7 + i) * 8 + na)) &&& ((1 <<< cd) ^^^ 4294967295))))))] H := hP
        have hD : va_D A [(ra, .inr (3, [.ref al, .ref be])), (al, .inl (cA, 8, .inl (aN fal))), (be, .inl (cA, 448, .inl (aN (va_up x ((ot * 7 + i) * 8 + na) ((x ((ot * 7 + i) * 8 + na)) &&& ((1 <<< cd) ^^^ 4294967295))))))] := hD
        refine lv_iinc (v := (nI (i + 1))) (lv' := [(5, .int (nI (i + 1))), (0, .ref ra), (1, .int (nI na)), (2, .int (nI cd)), (3, .int (nI ot)), (4, .int (nI cs))]) hx hb dX1_tie_81 hl (k := 5) rfl (nI_add _ _) (by decide) rfl (fun ls hl => ?_)
        refine lv_goto (tgt := 44) hx hb dX1_tie_84 (by decide) ?_
        have eB0 : tieBody na cd ot cs i x = va_up x ((ot * 7 + i) * 8 + na) ((x ((ot * 7 + i) * 8 + na)) &&& ((1 <<< cd) ^^^ 4294967295)) := by unfold tieBody; first | exact if_pos c_58 | exact if_neg c_58
        have hP : va_P D vwCl [(ra, .inr (3, [.ref al, .ref be])), (al, .inl (cA, 8, .inl (aN fal))), (be, .inl (cA, 448, .inl (aN (tieBody na cd ot cs i x))))] H := by rw [eB0]; exact hP
        have hD : va_D A [(ra, .inr (3, [.ref al, .ref be])), (al, .inl (cA, 8, .inl (aN fal))), (be, .inl (cA, 448, .inl (aN (tieBody na cd ot cs i x))))] := by rw [eB0]; exact hD
        exact ih (i + 1) (tieBody na cd ot cs i x) (by omega) _ _ _ hP hD hS (lv_sub hl [1, 2, 3, 4, 5, 0] rfl) kk

set_option maxHeartbeats 4000000 in
set_option maxRecDepth 100000 in
theorem kX1_tie (l : Launch) (D : va_G) (cA : ClassId) (sz : Nat) (ra : Nat) (al : Nat) (be : Nat) (fal : Nat → Nat) (fbe : Nat → Nat) (na : Nat) (cd : Nat) (ot : Nat) (cs : Nat) (hn : na < 8) (hc : cd < 7) (ho : ot < 8) (hs : cs < 2147483648) : zMv l yX1_tie wsX1_tie ({ frames := 1, cells := 0, slots := 0, locals := 22 }) D cA [.ref ra, .int (nI na), .int (nI cd), .int (nI ot), .int (nI cs)] sz [(ra, .inr (3, [.ref al, .ref be])), (al, .inl (cA, 8, .inl (aN fal))), (be, .inl (cA, 448, .inl (aN fbe)))] [(ra, .inr (3, [.ref al, .ref be])), (al, .inl (cA, 8, .inl (aN (tieAl na cd ot cs fal)))), (be, .inl (cA, 448, .inl (aN (tieBe na cd ot cs fbe))))] := by
  refine Met.ofW (cc := cX1_tie) (maxL := 6) (ret := none) (by decide) rfl ?_
  intro p e s m args below meth c s₁ B hml hv
  obtain ⟨rfl, hsz, hP, hK, hD0⟩ := hv
  have hx := B.exec
  have hb := B.bytes
  have hr := B.returns
  have hts := atoms_spec (ws := wsX1_tie) B.pre
  have hown : s.vm.findClass RX1 = some m.cls := findClass_of_methodNamed B.named
  have hlocks := B.notSynchronized
  subst hsz
  have hD := hD0.self (sz := s.heap.size)
  generalize hAe : va_A [(ra, .inr (3, [.ref al, .ref be])), (al, .inl (cA, 8, .inl (aN fal))), (be, .inl (cA, 448, .inl (aN fbe)))] s.heap.size = A at hD ⊢
  have hA : ∀ q : Nat, s.heap.size ≤ q → A q := fun q h => by rw [← hAe]; exact Or.inr h
  have hS : va_S A s.heap s.heap [] := va_S.rf
  have hP : va_P D vwCl [(ra, .inr (3, [.ref al, .ref be])), (al, .inl (cA, 8, .inl (aN fal))), (be, .inl (cA, 448, .inl (aN fbe)))] s.heap := hP
  have hl := lv_entry ([.ref ra, .int (nI na), .int (nI cd), .int (nI ot), .int (nI cs)]) (n := 6) (Nat.le_of_ble_eq_true rfl)
  rw [lg_entry_eq]
  generalize (lg_sl ([.ref ra, .int (nI na), .int (nI cd), .int (nI ot), .int (nI cs)]) ++ List.replicate (6 - (lg_sl ([.ref ra, .int (nI na), .int (nI cd), .int (nI ot), .int (nI cs)])).length) Slot.unset).toArray = ls at hl ⊢
  have hl : lv_has ls 6 [(0, .ref ra), (1, .int (nI na)), (2, .int (nI cd)), (3, .int (nI ot)), (4, .int (nI cs))] := hl
  refine lv_iload_n hx hb dX1_tie_0 rfl (lv_at hl 1 rfl) ?_
  refine lv_iload_n hx hb dX1_tie_1 rfl (lv_at hl 3 rfl) ?_
  refine nn_icmp_ne (tgt := 25) hx hb dX1_tie_2 (by decide) (by omega) (by omega) (fun c_2 => ?_) (fun c_2 => ?_)
  · refine lv_aload_n hx hb dX1_tie_25 rfl (lv_at hl 0 rfl) ?_
    refine va_get (D := D) (ci := 3) (v := .ref be) (C := RX1) (T := TX1) (N := 2) hx hb hts inX1_tie_X1 hown hK.1 hP 0 rfl rfl 1 (by decide) (hts _ lkX1_tie_15) (fun _ h9 => h9) rfl dX1_tie_26 ?_
    refine lv_iload_n hx hb dX1_tie_29 rfl (lv_at hl 1 rfl) ?_
    refine lv_iload_n hx hb dX1_tie_30 rfl (lv_at hl 2 rfl) ?_
    refine lv_iload_n hx hb dX1_tie_31 rfl (lv_at hl 3 rfl) ?_
    refine zz_callI (av := []) (wc := []) (wr := [(ra, .inr (3, [.ref al, .ref be])), (al, .inl (cA, 8, .inl (aN fal))), (be, .inl (cA, 448, .inl (aN fbe)))]) hS hA hP hD [] [0, 1, 2] rfl rfl (by decide) (by decide) (va_runS (As := [.int (nI na), .int (nI cd), .int (nI ot)]) (rest := [.ref be]) ⟨hx, hb, hml, hown, hts⟩ (kX1_place l D cA s.heap.size na cd ot ) (va_cwS 3 hts gX1_tie_X1_place rfl rfl rfl (by decide +kernel) ⟨Nat.le_of_ble_eq_true rfl, Nat.le_of_ble_eq_true rfl⟩) (zPreS (av := [.int (nI na), .int (nI cd), .int (nI ot)]) (wc := []) hK hP hD [] rfl (by decide) rfl) rfl rfl hl.1 rfl (lv_room (Nat.le_of_ble_eq_true rfl)) dX1_tie_32 ⟨Nat.zero_le _, Nat.zero_le _⟩) (fun H locs hP hD hS => ?_)
    have hP : va_P D vwCl [(ra, .inr (3, [.ref al, .ref be])), (al, .inl (cA, 8, .inl (aN fal))), (be, .inl (cA, 448, .inl (aN fbe)))] H := hP
    have hD : va_D A [(ra, .inr (3, [.ref al, .ref be])), (al, .inl (cA, 8, .inl (aN fal))), (be, .inl (cA, 448, .inl (aN fbe)))] := hD
    refine lv_dup2_11 hx hb dX1_tie_35 rfl rfl ?_
    refine nn_ald hx hb hK hP 2 rfl (by omega) (by decide) dX1_tie_36 ?_
    refine lv_iload hx hb dX1_tie_37 (lv_at hl 4 rfl) ?_
    refine nn_iand hx hb dX1_tie_39 ?_
    refine nn_ast hx hb hK hP hD hS 2 rfl (by omega) (by decide) dX1_tie_40 (fun H locs hP hD hS => ?_)
    have hP : va_P D vwCl [(ra, .inr (3, [.ref al, .ref be])), (al, .inl (cA, 8, .inl (aN fal))), (be, .inl (cA, 448, .inl (aN (va_up fbe ((na * 7 + cd) * 8 + ot) ((fbe ((na * 7 + cd) * 8 + ot)) &&& cs)))))] H := hP
    have hD : va_D A [(ra, .inr (3, [.ref al, .ref be])), (al, .inl (cA, 8, .inl (aN fal))), (be, .inl (cA, 448, .inl (aN (va_up fbe ((na * 7 + cd) * 8 + ot) ((fbe ((na * 7 + cd) * 8 + ot)) &&& cs)))))] := hD
    refine lv_iconst (v := nI 0) hx hb dX1_tie_41 (by decide) ?_
    refine lv_istore (lv' := [(5, .int (nI 0)), (0, .ref ra), (1, .int (nI na)), (2, .int (nI cd)), (3, .int (nI ot)), (4, .int (nI cs))]) hx hb dX1_tie_42 hl (by decide) rfl (fun ls hl => ?_)
    refine bX1_tie hx hb hml hown hts hK hA ra al be fal na cd ot cs hn hc ho hs (Nat.le_of_ble_eq_true rfl) (Nat.le_of_ble_eq_true rfl) 7 0 (va_up fbe ((na * 7 + cd) * 8 + ot) ((fbe ((na * 7 + cd) * 8 + ot)) &&& cs)) (by omega) _ _ ls hP hD hS (lv_sub hl [1, 2, 3, 4, 5, 0] rfl) (fun H locs ls hP hD hS hl => ?_)
    have eW : ([(ra, .inr (3, [.ref al, .ref be])), (al, .inl (cA, 8, .inl (aN fal))), (be, .inl (cA, 448, .inl (aN (zlp (tieBody na cd ot cs) 7 0 (va_up fbe ((na * 7 + cd) * 8 + ot) ((fbe ((na * 7 + cd) * 8 + ot)) &&& cs))))))] : va_W) = [(ra, .inr (3, [.ref al, .ref be])), (al, .inl (cA, 8, .inl (aN (tieAl na cd ot cs fal)))), (be, .inl (cA, 448, .inl (aN (tieBe na cd ot cs fbe))))] := by unfold tieAl tieBe; (repeat' (first | rfl | (exfalso; omega) | contradiction | split))
    rw [eW] at hP hD
    exact W.vret hx hb hr (fun t ht hW => ⟨⟨(), rfl, trivial, by rw [ht]; exact hP, hD⟩, hS.F ht⟩) hS.2.2 dX1_tie_87
  · refine lv_iload hx hb dX1_tie_5 (lv_at hl 4 rfl) ?_
    refine lv_iload_n hx hb dX1_tie_7 rfl (lv_at hl 2 rfl) ?_
    refine nn_ishr hx hb (by omega) (by omega) dX1_tie_8 ?_
    refine lv_iconst (v := nI 1) hx hb dX1_tie_9 (by decide) ?_
    refine nn_iand hx hb dX1_tie_10 ?_
    refine nn_if_ne (tgt := 24) hx hb dX1_tie_11 (by decide) (and1_lt _) (fun c_11 => ?_) (fun c_11 => ?_)
    · have eW : ([(ra, .inr (3, [.ref al, .ref be])), (al, .inl (cA, 8, .inl (aN fal))), (be, .inl (cA, 448, .inl (aN fbe)))] : va_W) = [(ra, .inr (3, [.ref al, .ref be])), (al, .inl (cA, 8, .inl (aN (tieAl na cd ot cs fal)))), (be, .inl (cA, 448, .inl (aN (tieBe na cd ot cs fbe))))] := by unfold tieAl tieBe; (repeat' (first | rfl | (exfalso; omega) | contradiction | split))
      rw [eW] at hP hD
      exact W.vret hx hb hr (fun t ht hW => ⟨⟨(), rfl, trivial, by rw [ht]; exact hP, hD⟩, hS.F ht⟩) hS.2.2 dX1_tie_24
    · refine lv_aload_n hx hb dX1_tie_14 rfl (lv_at hl 0 rfl) ?_
      refine lv_iload_n hx hb dX1_tie_15 rfl (lv_at hl 1 rfl) ?_
      refine lv_iconst (v := nI 1) hx hb dX1_tie_16 (by decide) ?_
      refine lv_iload_n hx hb dX1_tie_17 rfl (lv_at hl 2 rfl) ?_
      refine nn_ishl hx hb (by omega) dX1_tie_18 ?_
      refine lv_iconst (v := -1) hx hb dX1_tie_19 (by decide) ?_
      refine nn_inot hx hb dX1_tie_20 ?_
      refine zz_callV (av := []) (wc := [(ra, .inr (3, [.ref al, .ref be])), (al, .inl (cA, 8, .inl (aN fal))), (be, .inl (cA, 448, .inl (aN fbe)))]) (wr := []) hS hA hP hD [0, 1, 2] [] rfl rfl (by decide) (by decide) (va_runV (As := [.int (nI na), .int (nI ((1 <<< cd) ^^^ 4294967295))]) (rest := []) ⟨hx, hb, hml, hown, hts⟩ (kX1_narrow l D cA s.heap.size ra al be fal fbe na ((1 <<< cd) ^^^ 4294967295) (by omega)) (cwV 2 hts gX1_tie_X1_narrow rfl rfl rfl (by decide +kernel) ⟨Nat.le_of_ble_eq_true rfl, Nat.le_of_ble_eq_true rfl⟩) ⟨(zPreS (av := [.ref ra, .int (nI na), .int (nI ((1 <<< cd) ^^^ 4294967295))]) (wc := [(ra, .inr (3, [.ref al, .ref be])), (al, .inl (cA, 8, .inl (aN fal))), (be, .inl (cA, 448, .inl (aN fbe)))]) hK hP hD [0, 1, 2] rfl (by decide) rfl).1, (va_recv hK.1 hP (ci := 3) (q0 := 0) rfl rfl), (zPreS (av := [.ref ra, .int (nI na), .int (nI ((1 <<< cd) ^^^ 4294967295))]) (wc := [(ra, .inr (3, [.ref al, .ref be])), (al, .inl (cA, 8, .inl (aN fal))), (be, .inl (cA, 448, .inl (aN fbe)))]) hK hP hD [0, 1, 2] rfl (by decide) rfl).2⟩ rfl rfl hl.1 rfl (lv_room (Nat.le_of_ble_eq_true rfl)) dX1_tie_21 ⟨Nat.zero_le _, Nat.zero_le _⟩) (fun H locs hP hD hS => ?_)
      have hP : va_P D vwCl [(ra, .inr (3, [.ref al, .ref be])), (al, .inl (cA, 8, .inl (aN (va_up fal na ((fal na) &&& ((1 <<< cd) ^^^ 4294967295)))))), (be, .inl (cA, 448, .inl (aN fbe)))] H := hP
      have hD : va_D A [(ra, .inr (3, [.ref al, .ref be])), (al, .inl (cA, 8, .inl (aN (va_up fal na ((fal na) &&& ((1 <<< cd) ^^^ 4294967295)))))), (be, .inl (cA, 448, .inl (aN fbe)))] := hD
      have eW : ([(ra, .inr (3, [.ref al, .ref be])), (al, .inl (cA, 8, .inl (aN (va_up fal na ((fal na) &&& ((1 <<< cd) ^^^ 4294967295)))))), (be, .inl (cA, 448, .inl (aN fbe)))] : va_W) = [(ra, .inr (3, [.ref al, .ref be])), (al, .inl (cA, 8, .inl (aN (tieAl na cd ot cs fal)))), (be, .inl (cA, 448, .inl (aN (tieBe na cd ot cs fbe))))] := by unfold tieAl tieBe; (repeat' (first | rfl | (exfalso; omega) | contradiction | split))
      rw [eW] at hP hD
      exact W.vret hx hb hr (fun t ht hW => ⟨⟨(), rfl, trivial, by rw [ht]; exact hP, hD⟩, hS.F ht⟩) hS.2.2 dX1_tie_24
end
section
theorem lkX2_keptCode_21 : Cond.fieldLink RX2 21 "LeastChange$Search" "kept" "[I" ∈ wsX2_keptCode := by decide +kernel
theorem inX2_keptCode_X2 : ∀ w ∈ wsX20, w ∈ wsX2_keptCode := by decide +kernel
set_option maxHeartbeats 4000000 in
set_option maxRecDepth 100000 in
theorem kX2_keptCode (l : Launch) (D : va_G) (cA : ClassId) (sz : Nat) (sa : Nat) (le : Nat) (ho : Nat) (tr : Nat) (ke : Nat) (ra : Nat) (fke : Nat → Nat) (nm : Nat) (kc : Nat) (cb : Nat) (ef : Nat) (na : Nat) (hn : na < 8) : zMi l yX2_keptCode wsX2_keptCode ({ frames := 0, cells := 0, slots := 0, locals := 0 }) D cA [.ref sa, .int (nI na)] sz [(sa, .inr (4, [.ref ra, .ref le, .ref ho, .ref tr, .ref ke, .int (nI nm), .int (nI kc), .int (nI cb), .int (nI ef)])), (ke, .inl (cA, 8, .inl (aN fke)))] [(sa, .inr (4, [.ref ra, .ref le, .ref ho, .ref tr, .ref ke, .int (nI nm), .int (nI kc), .int (nI cb), .int (nI ef)])), (ke, .inl (cA, 8, .inl (aN fke)))] (nI (fke na)) := by
  refine Met.ofW (cc := cX2_keptCode) (maxL := 2) (ret := (some .int)) (by decide) rfl ?_
  intro p e s m args below meth c s₁ B hml hv
  obtain ⟨rfl, hsz, hP, hK, hD0⟩ := hv
  have hx := B.exec
  have hb := B.bytes
  have hr := B.returns
  have hts := atoms_spec (ws := wsX2_keptCode) B.pre
  have hown : s.vm.findClass RX2 = some m.cls := findClass_of_methodNamed B.named
  have hlocks := B.notSynchronized
  subst hsz
  have hD := hD0.self (sz := s.heap.size)
  generalize hAe : va_A [(sa, .inr (4, [.ref ra, .ref le, .ref ho, .ref tr, .ref ke, .int (nI nm), .int (nI kc), .int (nI cb), .int (nI ef)])), (ke, .inl (cA, 8, .inl (aN fke)))] s.heap.size = A at hD ⊢
  have hA : ∀ q : Nat, s.heap.size ≤ q → A q := fun q h => by rw [← hAe]; exact Or.inr h
  have hS : va_S A s.heap s.heap [] := va_S.rf
  have hP : va_P D vwCl [(sa, .inr (4, [.ref ra, .ref le, .ref ho, .ref tr, .ref ke, .int (nI nm), .int (nI kc), .int (nI cb), .int (nI ef)])), (ke, .inl (cA, 8, .inl (aN fke)))] s.heap := hP
  have hl := lv_entry ([.ref sa, .int (nI na)]) (n := 2) (Nat.le_of_ble_eq_true rfl)
  rw [lg_entry_eq]
  generalize (lg_sl ([.ref sa, .int (nI na)]) ++ List.replicate (2 - (lg_sl ([.ref sa, .int (nI na)])).length) Slot.unset).toArray = ls at hl ⊢
  have hl : lv_has ls 2 [(0, .ref sa), (1, .int (nI na))] := hl
  refine lv_aload_n hx hb dX2_keptCode_0 rfl (lv_at hl 0 rfl) ?_
  refine va_get (D := D) (ci := 4) (v := .ref ke) (C := RX2) (T := TX2) (N := 9) hx hb hts inX2_keptCode_X2 hown hK.1 hP 0 rfl rfl 4 (by decide) (hts _ lkX2_keptCode_21) (fun _ h9 => h9) rfl dX2_keptCode_1 ?_
  refine lv_iload_n hx hb dX2_keptCode_4 rfl (lv_at hl 1 rfl) ?_
  refine nn_ald hx hb hK hP 1 rfl (by omega) (by decide) dX2_keptCode_5 ?_
  exact W.iret (v := (nI (fke na))) hx hb hr (fun t ht hW => ⟨⟨(nI (fke na)), (), rfl, rfl, by rw [ht]; exact hP, hD⟩, hS.F ht⟩) hS.2.2 dX2_keptCode_6

theorem lkX2_changedCount_28 : Cond.fieldLink RX2 28 "LeastChange$Search" "keptCost" "I" ∈ wsX2_changedCount := by decide +kernel
theorem inX2_changedCount_X2 : ∀ w ∈ wsX20, w ∈ wsX2_changedCount := by decide +kernel
set_option maxHeartbeats 4000000 in
set_option maxRecDepth 100000 in
theorem kX2_changedCount (l : Launch) (D : va_G) (cA : ClassId) (sz : Nat) (sa : Nat) (le : Nat) (ho : Nat) (tr : Nat) (ke : Nat) (ra : Nat) (nm : Nat) (kc : Nat) (cb : Nat) (ef : Nat) (hk : kc < 2147483648) : zMi l yX2_changedCount wsX2_changedCount ({ frames := 0, cells := 0, slots := 0, locals := 0 }) D cA [.ref sa] sz [(sa, .inr (4, [.ref ra, .ref le, .ref ho, .ref tr, .ref ke, .int (nI nm), .int (nI kc), .int (nI cb), .int (nI ef)]))] [(sa, .inr (4, [.ref ra, .ref le, .ref ho, .ref tr, .ref ke, .int (nI nm), .int (nI kc), .int (nI cb), .int (nI ef)]))] (nI (kc / 16)) := by
  refine Met.ofW (cc := cX2_changedCount) (maxL := 1) (ret := (some .int)) (by decide) rfl ?_
  intro p e s m args below meth c s₁ B hml hv
  obtain ⟨rfl, hsz, hP, hK, hD0⟩ := hv
  have hx := B.exec
  have hb := B.bytes
  have hr := B.returns
  have hts := atoms_spec (ws := wsX2_changedCount) B.pre
  have hown : s.vm.findClass RX2 = some m.cls := findClass_of_methodNamed B.named
  have hlocks := B.notSynchronized
  subst hsz
  have hD := hD0.self (sz := s.heap.size)
  generalize hAe : va_A [(sa, .inr (4, [.ref ra, .ref le, .ref ho, .ref tr, .ref ke, .int (nI nm), .int (nI kc), .int (nI cb), .int (nI ef)]))] s.heap.size = A at hD ⊢
  have hA : ∀ q : Nat, s.heap.size ≤ q → A q := fun q h => by rw [← hAe]; exact Or.inr h
  have hS : va_S A s.heap s.heap [] := va_S.rf
  have hP : va_P D vwCl [(sa, .inr (4, [.ref ra, .ref le, .ref ho, .ref tr, .ref ke, .int (nI nm), .int (nI kc), .int (nI cb), .int (nI ef)]))] s.heap := hP
  have hl := lv_entry ([.ref sa]) (n := 1) (Nat.le_of_ble_eq_true rfl)
  rw [lg_entry_eq]
  generalize (lg_sl ([.ref sa]) ++ List.replicate (1 - (lg_sl ([.ref sa])).length) Slot.unset).toArray = ls at hl ⊢
  have hl : lv_has ls 1 [(0, .ref sa)] := hl
  refine lv_aload_n hx hb dX2_changedCount_0 rfl (lv_at hl 0 rfl) ?_
  refine va_get (D := D) (ci := 4) (v := .int (nI kc)) (C := RX2) (T := TX2) (N := 9) hx hb hts inX2_changedCount_X2 hown hK.1 hP 0 rfl rfl 6 (by decide) (hts _ lkX2_changedCount_28) (fun _ h9 => h9) rfl dX2_changedCount_1 ?_
  refine lv_bipush (v := nI 16) hx hb dX2_changedCount_4 (by decide) ?_
  refine nn_idiv hx hb (by omega) (by omega) (by omega) dX2_changedCount_6 ?_
  exact W.iret (v := (nI (kc / 16))) hx hb hr (fun t ht hW => ⟨⟨(nI (kc / 16)), (), rfl, rfl, by rw [ht]; exact hP, hD⟩, hS.F ht⟩) hS.2.2 dX2_changedCount_7


def kpBody (ftr : Nat → Nat) : Nat → (Nat → Nat) → Nat → Nat := fun i f => va_up f i (ftr i)

theorem lkX2_keep_18 : Cond.fieldLink RX2 18 "LeastChange$Search" "tried" "[I" ∈ wsX2_keep := by decide +kernel
theorem lkX2_keep_21 : Cond.fieldLink RX2 21 "LeastChange$Search" "kept" "[I" ∈ wsX2_keep := by decide +kernel
theorem lkX2_keep_24 : Cond.fieldLink RX2 24 "LeastChange$Search" "names" "I" ∈ wsX2_keep := by decide +kernel
theorem inX2_keep_X2 : ∀ w ∈ wsX20, w ∈ wsX2_keep := by decide +kernel
set_option maxHeartbeats 4000000 in
set_option maxRecDepth 100000 in
theorem bX2_keep {p : Program} {l : Launch} {e : Env} {R : Room} {s : State} {m : MethodId} {args : Array Value} {below : List Frame} {meth : Method} {c : Code} {Q : State → Prop} {A : Nat → Prop} {H0 : Heap} {D : va_G} {cA : ClassId} (hx : p.tables.exec = Jvm.exec) (hb : c.code = cX2_keep) (hml : c.maxLocals = 3) (hown : s.vm.findClass RX2 = some m.cls) (hts : ∀ w ∈ wsX2_keep, w.before args s = true) (hK : zK D cA s) (hA : ∀ q, H0.size ≤ q → A q) (sa : Nat) (le : Nat) (ho : Nat) (tr : Nat) (ke : Nat) (ra : Nat) (ftr : Nat → Nat) (nm : Nat) (kc : Nat) (cb : Nat) (ef : Nat) (co : Nat) (hn : nm ≤ 8) : ∀ (k : Nat) (i : Nat) (x : Nat → Nat), (i + k = nm) → ∀ (H : Heap) (locs : List Loc) (ls : Array Slot), va_P D vwCl [(sa, .inr (4, [.ref ra, .ref le, .ref ho, .ref tr, .ref ke, .int (nI nm), .int (nI kc), .int (nI cb), .int (nI ef)])), (tr, .inl (cA, 8, .inl (aN ftr))), (ke, .inl (cA, 8, .inl (aN x)))] H → va_D A [(sa, .inr (4, [.ref ra, .ref le, .ref ho, .ref tr, .ref ke, .int (nI nm), .int (nI kc), .int (nI cb), .int (nI ef)])), (tr, .inl (cA, 8, .inl (aN ftr))), (ke, .inl (cA, 8, .inl (aN x)))] → va_S A H0 H locs → lv_has ls 3 [(0, .ref sa), (1, .int (nI co)), (2, .int (nI i))] → (∀ (H : Heap) (locs : List Loc) (ls : Array Slot), va_P D vwCl [(sa, .inr (4, [.ref ra, .ref le, .ref ho, .ref tr, .ref ke, .int (nI nm), .int (nI kc), .int (nI cb), .int (nI ef)])), (tr, .inl (cA, 8, .inl (aN ftr))), (ke, .inl (cA, 8, .inl (aN (zlp (kpBody ftr) k i x))))] H → va_D A [(sa, .inr (4, [.ref ra, .ref le, .ref ho, .ref tr, .ref ke, .int (nI nm), .int (nI kc), .int (nI cb), .int (nI ef)])), (tr, .inl (cA, 8, .inl (aN ftr))), (ke, .inl (cA, 8, .inl (aN (zlp (kpBody ftr) k i x))))] → va_S A H0 H locs → lv_has ls 3 [(0, .ref sa), (1, .int (nI co))] → W p l e R s m args below meth c H locs 0 0 Q (F0 m 28 ls [])) → W p l e R s m args below meth c H locs 0 0 Q (F0 m 2 ls []) := by
  intro k
  induction k with
  | zero =>
    intro i x hi H locs ls hP hD hS hl kk
    refine lv_iload_n hx hb dX2_keep_2 rfl (lv_at hl 2 rfl) ?_
    refine lv_aload_n hx hb dX2_keep_3 rfl (lv_at hl 0 rfl) ?_
    refine va_get (D := D) (ci := 4) (v := .int (nI nm)) (C := RX2) (T := TX2) (N := 9) hx hb hts inX2_keep_X2 hown hK.1 hP 0 rfl rfl 5 (by decide) (hts _ lkX2_keep_24) (fun _ h9 => h9) rfl dX2_keep_4 ?_
    refine nn_icmp_ge (tgt := 28) hx hb dX2_keep_7 (by decide) (by omega) (by omega) (fun c_7 => ?_) (fun c_7 => ?_)
    · exact kk _ _ _ hP hD hS (lv_sub hl [0, 1] rfl)
    · exfalso; omega
  | succ k ih =>
    intro i x hi H locs ls hP hD hS hl kk
    refine lv_iload_n hx hb dX2_keep_2 rfl (lv_at hl 2 rfl) ?_
    refine lv_aload_n hx hb dX2_keep_3 rfl (lv_at hl 0 rfl) ?_
    refine va_get (D := D) (ci := 4) (v := .int (nI nm)) (C := RX2) (T := TX2) (N := 9) hx hb hts inX2_keep_X2 hown hK.1 hP 0 rfl rfl 5 (by decide) (hts _ lkX2_keep_24) (fun _ h9 => h9) rfl dX2_keep_4 ?_
    refine nn_icmp_ge (tgt := 28) hx hb dX2_keep_7 (by decide) (by omega) (by omega) (fun c_7 => ?_) (fun c_7 => ?_)
    · exfalso; omega
    · refine lv_aload_n hx hb dX2_keep_10 rfl (lv_at hl 0 rfl) ?_
      refine va_get (D := D) (ci := 4) (v := .ref ke) (C := RX2) (T := TX2) (N := 9) hx hb hts inX2_keep_X2 hown hK.1 hP 0 rfl rfl 4 (by decide) (hts _ lkX2_keep_21) (fun _ h9 => h9) rfl dX2_keep_11 ?_
      refine lv_iload_n hx hb dX2_keep_14 rfl (lv_at hl 2 rfl) ?_
      refine lv_aload_n hx hb dX2_keep_15 rfl (lv_at hl 0 rfl) ?_
      refine va_get (D := D) (ci := 4) (v := .ref tr) (C := RX2) (T := TX2) (N := 9) hx hb hts inX2_keep_X2 hown hK.1 hP 0 rfl rfl 3 (by decide) (hts _ lkX2_keep_18) (fun _ h9 => h9) rfl dX2_keep_16 ?_
      refine lv_iload_n hx hb dX2_keep_19 rfl (lv_at hl 2 rfl) ?_
      refine nn_ald hx hb hK hP 1 rfl (by omega) (by decide) dX2_keep_20 ?_
      refine nn_ast hx hb hK hP hD hS 2 rfl (by omega) (by decide) dX2_keep_21 (fun H locs hP hD hS => ?_)
      have hP : va_P D vwCl [(sa, .inr (4, [.ref ra, .ref le, .ref ho, .ref tr, .ref ke, .int (nI nm), .int (nI kc), .int (nI cb), .int (nI ef)])), (tr, .inl (cA, 8, .inl (aN ftr))), (ke, .inl (cA, 8, .inl (aN (va_up x i (ftr i)))))] H := hP
      have hD : va_D A [(sa, .inr (4, [.ref ra, .ref le, .ref ho, .ref tr, .ref ke, .int (nI nm), .int (nI kc), .int (nI cb), .int (nI ef)])), (tr, .inl (cA, 8, .inl (aN ftr))), (ke, .inl (cA, 8, .inl (aN (va_up x i (ftr i)))))] := hD
      refine lv_iinc (v := (nI (i + 1))) (lv' := [(2, .int (nI (i + 1))), (0, .ref sa), (1, .int (nI co))]) hx hb dX2_keep_22 hl (k := 2) rfl (nI_add _ _) (by decide) rfl (fun ls hl => ?_)
      refine lv_goto (tgt := 2) hx hb dX2_keep_25 (by decide) ?_
      exact ih (i + 1) (kpBody ftr i x) (by omega) _ _ _ hP hD hS (lv_sub hl [1, 2, 0] rfl) kk

theorem lkX2_keep_28 : Cond.fieldLink RX2 28 "LeastChange$Search" "keptCost" "I" ∈ wsX2_keep := by decide +kernel
theorem lkX2_keep_31 : Cond.fieldLink RX2 31 "LeastChange$Search" "costBound" "I" ∈ wsX2_keep := by decide +kernel
theorem lkX2_keep_34 : Cond.fieldLink RX2 34 "LeastChange$Search" "endsWithFirst" "Z" ∈ wsX2_keep := by decide +kernel
set_option maxHeartbeats 4000000 in
set_option maxRecDepth 100000 in
theorem kX2_keep (l : Launch) (D : va_G) (cA : ClassId) (sz : Nat) (sa : Nat) (le : Nat) (ho : Nat) (tr : Nat) (ke : Nat) (ra : Nat) (ftr : Nat → Nat) (fke : Nat → Nat) (nm : Nat) (kc : Nat) (cb : Nat) (ef : Nat) (co : Nat) (hn : nm ≤ 8) (he : ef < 2) : zMv l yX2_keep wsX2_keep ({ frames := 0, cells := 0, slots := 0, locals := 0 }) D cA [.ref sa, .int (nI co)] sz [(sa, .inr (4, [.ref ra, .ref le, .ref ho, .ref tr, .ref ke, .int (nI nm), .int (nI kc), .int (nI cb), .int (nI ef)])), (tr, .inl (cA, 8, .inl (aN ftr))), (ke, .inl (cA, 8, .inl (aN fke)))] [(sa, .inr (4, [.ref ra, .ref le, .ref ho, .ref tr, .ref ke, .int (nI nm), .int (nI co), .int (nI (if ef = 0 then co else 0)), .int (nI ef)])), (tr, .inl (cA, 8, .inl (aN ftr))), (ke, .inl (cA, 8, .inl (aN (zlp (kpBody ftr) nm 0 fke))))] := by
  refine Met.ofW (cc := cX2_keep) (maxL := 3) (ret := none) (by decide) rfl ?_
  intro p e s m args below meth c s₁ B hml hv
  obtain ⟨rfl, hsz, hP, hK, hD0⟩ := hv
  have hx := B.exec
  have hb := B.bytes
  have hr := B.returns
  have hts := atoms_spec (ws := wsX2_keep) B.pre
  have hown : s.vm.findClass RX2 = some m.cls := findClass_of_methodNamed B.named
  have hlocks := B.notSynchronized
  subst hsz
  have hD := hD0.self (sz := s.heap.size)
  generalize hAe : va_A [(sa, .inr (4, [.ref ra, .ref le, .ref ho, .ref tr, .ref ke, .int (nI nm), .int (nI kc), .int (nI cb), .int (nI ef)])), (tr, .inl (cA, 8, .inl (aN ftr))), (ke, .inl (cA, 8, .inl (aN fke)))] s.heap.size = A at hD ⊢
  have hA : ∀ q : Nat, s.heap.size ≤ q → A q := fun q h => by rw [← hAe]; exact Or.inr h
  have hS : va_S A s.heap s.heap [] := va_S.rf
  have hP : va_P D vwCl [(sa, .inr (4, [.ref ra, .ref le, .ref ho, .ref tr, .ref ke, .int (nI nm), .int (nI kc), .int (nI cb), .int (nI ef)])), (tr, .inl (cA, 8, .inl (aN ftr))), (ke, .inl (cA, 8, .inl (aN fke)))] s.heap := hP
  have hl := lv_entry ([.ref sa, .int (nI co)]) (n := 3) (Nat.le_of_ble_eq_true rfl)
  rw [lg_entry_eq]
  generalize (lg_sl ([.ref sa, .int (nI co)]) ++ List.replicate (3 - (lg_sl ([.ref sa, .int (nI co)])).length) Slot.unset).toArray = ls at hl ⊢
  have hl : lv_has ls 3 [(0, .ref sa), (1, .int (nI co))] := hl
  refine lv_iconst (v := nI 0) hx hb dX2_keep_0 (by decide) ?_
  refine lv_istore_n (lv' := [(2, .int (nI 0)), (0, .ref sa), (1, .int (nI co))]) hx hb dX2_keep_1 rfl hl (by decide) rfl (fun ls hl => ?_)
  refine bX2_keep hx hb hml hown hts hK hA sa le ho tr ke ra ftr nm kc cb ef co hn  nm 0 fke (by omega) _ _ ls hP hD hS (lv_sub hl [1, 2, 0] rfl) (fun H locs ls hP hD hS hl => ?_)
  refine lv_aload_n hx hb dX2_keep_28 rfl (lv_at hl 0 rfl) ?_
  refine lv_iload_n hx hb dX2_keep_29 rfl (lv_at hl 1 rfl) ?_
  refine va_put (D := D) (ci := 4) (v := .int (nI co)) (ty := .int) (C := RX2) (T := TX2) (N := 9) hx hb hts inX2_keep_X2 tyX2 tyX2_ok nmX2 hown hK.1 hP hD hS 0 rfl rfl 6 (by decide) (hts _ lkX2_keep_28) (fun _ h9 => h9) rfl (by decide +kernel) rfl rfl (Nat.le_of_ble_eq_true rfl) dX2_keep_30 (fun H locs hP hD hS => ?_)
  have hP : va_P D vwCl [(sa, .inr (4, [.ref ra, .ref le, .ref ho, .ref tr, .ref ke, .int (nI nm), .int (nI co), .int (nI cb), .int (nI ef)])), (tr, .inl (cA, 8, .inl (aN ftr))), (ke, .inl (cA, 8, .inl (aN (zlp (kpBody ftr) nm 0 fke))))] H := hP
  have hD : va_D A [(sa, .inr (4, [.ref ra, .ref le, .ref ho, .ref tr, .ref ke, .int (nI nm), .int (nI co), .int (nI cb), .int (nI ef)])), (tr, .inl (cA, 8, .inl (aN ftr))), (ke, .inl (cA, 8, .inl (aN (zlp (kpBody ftr) nm 0 fke))))] := hD
  refine lv_aload_n hx hb dX2_keep_33 rfl (lv_at hl 0 rfl) ?_
  refine lv_aload_n hx hb dX2_keep_34 rfl (lv_at hl 0 rfl) ?_
  refine va_get (D := D) (ci := 4) (v := .int (nI ef)) (C := RX2) (T := TX2) (N := 9) hx hb hts inX2_keep_X2 hown hK.1 hP 0 rfl rfl 8 (by decide) (hts _ lkX2_keep_34) (fun _ h9 => h9) rfl dX2_keep_35 ?_
  refine nn_if_eq (tgt := 45) hx hb dX2_keep_38 (by decide) (by omega) (fun c_38 => ?_) (fun c_38 => ?_)
  · refine lv_iload_n hx hb dX2_keep_45 rfl (lv_at hl 1 rfl) ?_
    refine va_put (D := D) (ci := 4) (v := .int (nI co)) (ty := .int) (C := RX2) (T := TX2) (N := 9) hx hb hts inX2_keep_X2 tyX2 tyX2_ok nmX2 hown hK.1 hP hD hS 0 rfl rfl 7 (by decide) (hts _ lkX2_keep_31) (fun _ h9 => h9) rfl (by decide +kernel) rfl rfl (Nat.le_of_ble_eq_true rfl) dX2_keep_46 (fun H locs hP hD hS => ?_)
    have hP : va_P D vwCl [(sa, .inr (4, [.ref ra, .ref le, .ref ho, .ref tr, .ref ke, .int (nI nm), .int (nI co), .int (nI co), .int (nI ef)])), (tr, .inl (cA, 8, .inl (aN ftr))), (ke, .inl (cA, 8, .inl (aN (zlp (kpBody ftr) nm 0 fke))))] H := hP
    have hD : va_D A [(sa, .inr (4, [.ref ra, .ref le, .ref ho, .ref tr, .ref ke, .int (nI nm), .int (nI co), .int (nI co), .int (nI ef)])), (tr, .inl (cA, 8, .inl (aN ftr))), (ke, .inl (cA, 8, .inl (aN (zlp (kpBody ftr) nm 0 fke))))] := hD
    have eW : ([(sa, .inr (4, [.ref ra, .ref le, .ref ho, .ref tr, .ref ke, .int (nI nm), .int (nI co), .int (nI co), .int (nI ef)])), (tr, .inl (cA, 8, .inl (aN ftr))), (ke, .inl (cA, 8, .inl (aN (zlp (kpBody ftr) nm 0 fke))))] : va_W) = [(sa, .inr (4, [.ref ra, .ref le, .ref ho, .ref tr, .ref ke, .int (nI nm), .int (nI co), .int (nI (if ef = 0 then co else 0)), .int (nI ef)])), (tr, .inl (cA, 8, .inl (aN ftr))), (ke, .inl (cA, 8, .inl (aN (zlp (kpBody ftr) nm 0 fke))))] := by first | rw [if_pos c_38] | rw [if_neg c_38]
    rw [eW] at hP hD
    exact W.vret hx hb hr (fun t ht hW => ⟨⟨(), rfl, trivial, by rw [ht]; exact hP, hD⟩, hS.F ht⟩) hS.2.2 dX2_keep_49
  · refine lv_iconst (v := nI 0) hx hb dX2_keep_41 (by decide) ?_
    refine lv_goto (tgt := 46) hx hb dX2_keep_42 (by decide) ?_
    refine va_put (D := D) (ci := 4) (v := .int (nI 0)) (ty := .int) (C := RX2) (T := TX2) (N := 9) hx hb hts inX2_keep_X2 tyX2 tyX2_ok nmX2 hown hK.1 hP hD hS 0 rfl rfl 7 (by decide) (hts _ lkX2_keep_31) (fun _ h9 => h9) rfl (by decide +kernel) rfl rfl (Nat.le_of_ble_eq_true rfl) dX2_keep_46 (fun H locs hP hD hS => ?_)
    have hP : va_P D vwCl [(sa, .inr (4, [.ref ra, .ref le, .ref ho, .ref tr, .ref ke, .int (nI nm), .int (nI co), .int (nI 0), .int (nI ef)])), (tr, .inl (cA, 8, .inl (aN ftr))), (ke, .inl (cA, 8, .inl (aN (zlp (kpBody ftr) nm 0 fke))))] H := hP
    have hD : va_D A [(sa, .inr (4, [.ref ra, .ref le, .ref ho, .ref tr, .ref ke, .int (nI nm), .int (nI co), .int (nI 0), .int (nI ef)])), (tr, .inl (cA, 8, .inl (aN ftr))), (ke, .inl (cA, 8, .inl (aN (zlp (kpBody ftr) nm 0 fke))))] := hD
    have eW : ([(sa, .inr (4, [.ref ra, .ref le, .ref ho, .ref tr, .ref ke, .int (nI nm), .int (nI co), .int (nI 0), .int (nI ef)])), (tr, .inl (cA, 8, .inl (aN ftr))), (ke, .inl (cA, 8, .inl (aN (zlp (kpBody ftr) nm 0 fke))))] : va_W) = [(sa, .inr (4, [.ref ra, .ref le, .ref ho, .ref tr, .ref ke, .int (nI nm), .int (nI co), .int (nI (if ef = 0 then co else 0)), .int (nI ef)])), (tr, .inl (cA, 8, .inl (aN ftr))), (ke, .inl (cA, 8, .inl (aN (zlp (kpBody ftr) nm 0 fke))))] := by first | rw [if_pos c_38] | rw [if_neg c_38]
    rw [eW] at hP hD
    exact W.vret hx hb hr (fun t ht hW => ⟨⟨(), rfl, trivial, by rw [ht]; exact hP, hD⟩, hS.F ht⟩) hS.2.2 dX2_keep_49


theorem up_lt {f : Nat → Nat} {B k v : Nat} (h : ∀ j, f j < B) (hv : v < B) : ∀ j, va_up f k v j < B := fun j => by
  unfold va_up
  split
  · exact hv
  · exact h j
theorem and_lt128 {a b : Nat} (h : a < 128) : a &&& b < 128 := Nat.lt_of_le_of_lt Nat.and_le_left h
theorem lcost_le (cs h : Nat) : lcost cs h ≤ 144 := by
  unfold lcost
  repeat' split
  all_goals omega
theorem costN_le (cd h : Nat) : costN cd h ≤ 17 := by
  unfold costN
  repeat' split
  all_goals omega
theorem room_le {cb nw co : Nat} (h1 : cb < 1000000) (h2 : nw < 1000000) (h3 : co < 1000000) : (nI cb - nI nw) ≤ nI co ↔ cb ≤ co + nw := by
  rw [Int32.le_iff_toInt_le, pk_sub_toInt (by omega) (by omega), nI_toInt (by omega)]
  omega
/-- what later names may be given, narrowed, and the least that they must cost -/
def nrLoop (fbe fho : Nat → Nat) (fr to bs nw cb : Nat) : Nat → Nat → Nat → (Nat → Nat) → Nat × (Nat → Nat)
  | 0, _, co, x => (co, x)
  | k + 1, o, co, x => if co + nw < cb then nrLoop fbe fho fr to bs nw cb k (o + 1) (co + lcost ((x (fr + o)) &&& (fbe (bs + o))) (fho o)) (va_up x (to + o) ((x (fr + o)) &&& (fbe (bs + o)))) else (co, x)
theorem nrLoop_le (fbe fho : Nat → Nat) (fr to bs nw cb : Nat) : ∀ k o co x, (nrLoop fbe fho fr to bs nw cb k o co x).1 ≤ co + 144 * k := by
  intro k
  induction k with
  | zero => intro o co x; exact Nat.le_refl _
  | succ k ih =>
    intro o co x
    rw [nrLoop]
    split
    · have h1 := ih (o + 1) (co + lcost ((x (fr + o)) &&& (fbe (bs + o))) (fho o)) (va_up x (to + o) ((x (fr + o)) &&& (fbe (bs + o))))
      have h2 := lcost_le ((x (fr + o)) &&& (fbe (bs + o))) (fho o)
      omega
    · show co ≤ _
      omega
theorem nrLoop_lt (fbe fho : Nat → Nat) (fr to bs nw cb : Nat) : ∀ k o co x, (∀ j, x j < 128) → ∀ j, (nrLoop fbe fho fr to bs nw cb k o co x).2 j < 128 := by
  intro k
  induction k with
  | zero => intro o co x h; exact h
  | succ k ih =>
    intro o co x h
    rw [nrLoop]
    split
    · exact ih _ _ _ (up_lt h (and_lt128 (h _)))
    · exact h
def nrF (nm : Nat) (fbe fho : Nat → Nat) (na cd cb nw : Nat) (x : Nat → Nat) : Nat × (Nat → Nat) := nrLoop fbe fho (na * 8) (na * 8 + 8) ((na * 7 + cd) * 8 + 0) nw cb (nm - (na + 1)) (na + 1) 0 x
theorem nrF_le {nm : Nat} {fbe fho : Nat → Nat} {na cd cb nw : Nat} {x : Nat → Nat} (h : nm ≤ 8) : (nrF nm fbe fho na cd cb nw x).1 ≤ 1152 := by
  have := nrLoop_le fbe fho (na * 8) (na * 8 + 8) ((na * 7 + cd) * 8 + 0) nw cb (nm - (na + 1)) (na + 1) 0 x
  unfold nrF
  omega
theorem nrF_lt {nm : Nat} {fbe fho : Nat → Nat} {na cd cb nw : Nat} {x : Nat → Nat} (h : ∀ j, x j < 128) : ∀ j, (nrF nm fbe fho na cd cb nw x).2 j < 128 := nrLoop_lt _ _ _ _ _ _ _ _ _ _ _ h

theorem lkX2_narrowRest_11 : Cond.fieldLink RX2 11 "LeastChange$Search" "left" "[I" ∈ wsX2_narrowRest := by decide +kernel
theorem lkX2_narrowRest_15 : Cond.fieldLink RX2 15 "LeastChange$Search" "home" "[I" ∈ wsX2_narrowRest := by decide +kernel
theorem lkX2_narrowRest_24 : Cond.fieldLink RX2 24 "LeastChange$Search" "names" "I" ∈ wsX2_narrowRest := by decide +kernel
theorem lkX2_narrowRest_38 : Cond.fieldLink RX2 38 "LeastChange$Search" "rules" "LLeastChange$Rules;" ∈ wsX2_narrowRest := by decide +kernel
theorem inX2_narrowRest_X1 : ∀ w ∈ wsX10, w ∈ wsX2_narrowRest := by decide +kernel
theorem inX2_narrowRest_X2 : ∀ w ∈ wsX20, w ∈ wsX2_narrowRest := by decide +kernel
set_option maxHeartbeats 4000000 in
set_option maxRecDepth 100000 in
theorem bX2_nr {p : Program} {l : Launch} {e : Env} {R : Room} {s : State} {m : MethodId} {args : Array Value} {below : List Frame} {meth : Method} {c : Code} {Q : State → Prop} {A : Nat → Prop} {H0 : Heap} {D : va_G} {cA : ClassId} (hx : p.tables.exec = Jvm.exec) (hb : c.code = cX2_narrowRest) (hml : c.maxLocals = 10) (hown : s.vm.findClass RX2 = some m.cls) (hts : ∀ w ∈ wsX2_narrowRest, w.before args s = true) (hK : zK D cA s) (hA : ∀ q, H0.size ≤ q → A q) (sa : Nat) (le : Nat) (ho : Nat) (tr : Nat) (ke : Nat) (ra : Nat) (al : Nat) (be : Nat) (fho : Nat → Nat) (ftr : Nat → Nat) (fke : Nat → Nat) (fal : Nat → Nat) (fbe : Nat → Nat) (nm : Nat) (kc : Nat) (cbf : Nat) (ef : Nat) (na : Nat) (cd : Nat) (cb : Nat) (nw : Nat) (hn : nm ≤ 8) (hna : na < nm) (hc : cd < 7) (hcb : cb < 1000) (hnw : nw < 1000) (hho : ∀ j, fho j < 32) (hRf : 1 ≤ R.frames) (hRl : 22 ≤ R.locals)  : ∀ (k : Nat) (o : Nat) (co : Nat) (x : Nat → Nat), (o + k = nm) → (∀ j, x j < 128) → (co + 144 * k ≤ 2000) → ∀ (H : Heap) (locs : List Loc) (ls : Array Slot), va_P D vwCl [(sa, .inr (4, [.ref ra, .ref le, .ref ho, .ref tr, .ref ke, .int (nI nm), .int (nI kc), .int (nI cbf), .int (nI ef)])), (le, .inl (cA, 72, .inl (aN x))), (ho, .inl (cA, 8, .inl (aN fho))), (tr, .inl (cA, 8, .inl (aN ftr))), (ke, .inl (cA, 8, .inl (aN fke))), (ra, .inr (3, [.ref al, .ref be])), (al, .inl (cA, 8, .inl (aN fal))), (be, .inl (cA, 448, .inl (aN fbe)))] H → va_D A [(sa, .inr (4, [.ref ra, .ref le, .ref ho, .ref tr, .ref ke, .int (nI nm), .int (nI kc), .int (nI cbf), .int (nI ef)])), (le, .inl (cA, 72, .inl (aN x))), (ho, .inl (cA, 8, .inl (aN fho))), (tr, .inl (cA, 8, .inl (aN ftr))), (ke, .inl (cA, 8, .inl (aN fke))), (ra, .inr (3, [.ref al, .ref be])), (al, .inl (cA, 8, .inl (aN fal))), (be, .inl (cA, 448, .inl (aN fbe)))] → va_S A H0 H locs → lv_has ls 10 [(0, .ref sa), (1, .int (nI na)), (2, .int (nI cd)), (3, .int (nI cb - nI nw)), (4, .int (nI (na * 8))), (5, .int (nI (na * 8 + 8))), (6, .int (nI ((na * 7 + cd) * 8 + 0))), (7, .int (nI co)), (8, .int (nI o))] → (∀ (H : Heap) (locs : List Loc) (ls : Array Slot), va_P D vwCl [(sa, .inr (4, [.ref ra, .ref le, .ref ho, .ref tr, .ref ke, .int (nI nm), .int (nI kc), .int (nI cbf), .int (nI ef)])), (le, .inl (cA, 72, .inl (aN ((nrLoop fbe fho (na * 8) (na * 8 + 8) ((na * 7 + cd) * 8 + 0) nw cb k o co x).2)))), (ho, .inl (cA, 8, .inl (aN fho))), (tr, .inl (cA, 8, .inl (aN ftr))), (ke, .inl (cA, 8, .inl (aN fke))), (ra, .inr (3, [.ref al, .ref be])), (al, .inl (cA, 8, .inl (aN fal))), (be, .inl (cA, 448, .inl (aN fbe)))] H → va_D A [(sa, .inr (4, [.ref ra, .ref le, .ref ho, .ref tr, .ref ke, .int (nI nm), .int (nI kc), .int (nI cbf), .int (nI ef)])), (le, .inl (cA, 72, .inl (aN ((nrLoop fbe fho (na * 8) (na * 8 + 8) ((na * 7 + cd) * 8 + 0) nw cb k o co x).2)))), (ho, .inl (cA, 8, .inl (aN fho))), (tr, .inl (cA, 8, .inl (aN ftr))), (ke, .inl (cA, 8, .inl (aN fke))), (ra, .inr (3, [.ref al, .ref be])), (al, .inl (cA, 8, .inl (aN fal))), (be, .inl (cA, 448, .inl (aN fbe)))] → va_S A H0 H locs → lv_has ls 10 [(0, .ref sa), (7, .int (nI ((nrLoop fbe fho (na * 8) (na * 8 + 8) ((na * 7 + cd) * 8 + 0) nw cb k o co x).1)))] → W p l e R s m args below meth c H locs 0 0 Q (F0 m 105 ls [])) → W p l e R s m args below meth c H locs 0 0 Q (F0 m 29 ls []) := by
  intro k
  induction k with
  | zero =>
    intro o co x hi hx9 hco H locs ls hP hD hS hl kk
    refine lv_iload hx hb dX2_narrowRest_29 (lv_at hl 8 rfl) ?_
    refine lv_aload_n hx hb dX2_narrowRest_31 rfl (lv_at hl 0 rfl) ?_
    refine va_get (D := D) (ci := 4) (v := .int (nI nm)) (C := RX2) (T := TX2) (N := 9) hx hb hts inX2_narrowRest_X2 hown hK.1 hP 0 rfl rfl 5 (by decide) (hts _ lkX2_narrowRest_24) (fun _ h9 => h9) rfl dX2_narrowRest_32 ?_
    refine nn_icmp_ge (tgt := 105) hx hb dX2_narrowRest_35 (by decide) (by omega) (by omega) (fun c_35 => ?_) (fun c_35 => ?_)
    · exact kk _ _ _ hP hD hS (lv_sub hl [0, 7] rfl)
    · exfalso; omega
  | succ k ih =>
    intro o co x hi hx9 hco H locs ls hP hD hS hl kk
    refine lv_iload hx hb dX2_narrowRest_29 (lv_at hl 8 rfl) ?_
    refine lv_aload_n hx hb dX2_narrowRest_31 rfl (lv_at hl 0 rfl) ?_
    refine va_get (D := D) (ci := 4) (v := .int (nI nm)) (C := RX2) (T := TX2) (N := 9) hx hb hts inX2_narrowRest_X2 hown hK.1 hP 0 rfl rfl 5 (by decide) (hts _ lkX2_narrowRest_24) (fun _ h9 => h9) rfl dX2_narrowRest_32 ?_
    refine nn_icmp_ge (tgt := 105) hx hb dX2_narrowRest_35 (by decide) (by omega) (by omega) (fun c_35 => ?_) (fun c_35 => ?_)
    · exfalso; omega
    · refine lv_iload hx hb dX2_narrowRest_38 (lv_at hl 7 rfl) ?_
      refine lv_iload_n hx hb dX2_narrowRest_40 rfl (lv_at hl 3 rfl) ?_
      refine lv_icmp_ge (tgt := 105) hx hb dX2_narrowRest_41 (by decide) (fun c_41 => ?_) (fun c_41 => ?_)
      · have c_41 : cb ≤ co + nw := (room_le (by omega) (by omega) (by omega)).mp c_41
        have eN : nrLoop fbe fho (na * 8) (na * 8 + 8) ((na * 7 + cd) * 8 + 0) nw cb (k + 1) o co x = (co, x) := by rw [nrLoop]; exact if_neg (by omega)
        rw [eN] at kk
        exact kk _ _ _ hP hD hS (lv_sub hl [0, 7] rfl)
      · have c_41 : ¬ cb ≤ co + nw := fun z => c_41 ((room_le (by omega) (by omega) (by omega)).mpr z)
        refine lv_aload_n hx hb dX2_narrowRest_44 rfl (lv_at hl 0 rfl) ?_
        refine va_get (D := D) (ci := 4) (v := .ref le) (C := RX2) (T := TX2) (N := 9) hx hb hts inX2_narrowRest_X2 hown hK.1 hP 0 rfl rfl 1 (by decide) (hts _ lkX2_narrowRest_11) (fun _ h9 => h9) rfl dX2_narrowRest_45 ?_
        refine lv_iload hx hb dX2_narrowRest_48 (lv_at hl 4 rfl) ?_
        refine lv_iload hx hb dX2_narrowRest_50 (lv_at hl 8 rfl) ?_
        refine nn_iadd hx hb dX2_narrowRest_52 ?_
        refine nn_ald hx hb hK hP 1 rfl (by omega) (by decide) dX2_narrowRest_53 ?_
        refine lv_aload_n hx hb dX2_narrowRest_54 rfl (lv_at hl 0 rfl) ?_
        refine va_get (D := D) (ci := 4) (v := .ref ra) (C := RX2) (T := TX2) (N := 9) hx hb hts inX2_narrowRest_X2 hown hK.1 hP 0 rfl rfl 0 (by decide) (hts _ lkX2_narrowRest_38) (fun _ h9 => h9) rfl dX2_narrowRest_55 ?_
        refine va_getN (D := D) (ci := 3) (v := .ref be) (C := RX1) (T := TX1) (N := 2) hx hb hts inX2_narrowRest_X1 hown hK.1 hP 5 rfl rfl 1 (by decide) (va_Nw.use rfl (hK.2 _ nkX2_74)) (fun _ h9 => h9) rfl dX2_narrowRest_58 ?_
        refine lv_iload hx hb dX2_narrowRest_61 (lv_at hl 6 rfl) ?_
        refine lv_iload hx hb dX2_narrowRest_63 (lv_at hl 8 rfl) ?_
        refine nn_iadd hx hb dX2_narrowRest_65 ?_
        refine nn_ald hx hb hK hP 7 rfl (by omega) (by decide) dX2_narrowRest_66 ?_
        refine nn_iand hx hb dX2_narrowRest_67 ?_
        refine lv_istore (lv' := [(9, .int (nI ((x ((na * 8) + o)) &&& (fbe (((na * 7 + cd) * 8 + 0) + o))))), (0, .ref sa), (1, .int (nI na)), (2, .int (nI cd)), (3, .int (nI cb - nI nw)), (4, .int (nI (na * 8))), (5, .int (nI (na * 8 + 8))), (6, .int (nI ((na * 7 + cd) * 8 + 0))), (7, .int (nI co)), (8, .int (nI o))]) hx hb dX2_narrowRest_68 hl (by decide) rfl (fun ls hl => ?_)
        refine lv_aload_n hx hb dX2_narrowRest_70 rfl (lv_at hl 1 rfl) ?_
        refine va_get (D := D) (ci := 4) (v := .ref le) (C := RX2) (T := TX2) (N := 9) hx hb hts inX2_narrowRest_X2 hown hK.1 hP 0 rfl rfl 1 (by decide) (hts _ lkX2_narrowRest_11) (fun _ h9 => h9) rfl dX2_narrowRest_71 ?_
        refine lv_iload hx hb dX2_narrowRest_74 (lv_at hl 6 rfl) ?_
        refine lv_iload hx hb dX2_narrowRest_76 (lv_at hl 9 rfl) ?_
        refine nn_iadd hx hb dX2_narrowRest_78 ?_
        refine lv_iload hx hb dX2_narrowRest_79 (lv_at hl 0 rfl) ?_
        refine nn_ast hx hb hK hP hD hS 1 rfl (by omega) (by decide) dX2_narrowRest_81 (fun H locs hP hD hS => ?_)
        have hP : va_P D vwCl [(sa, .inr (4, [.ref ra, .ref le, .ref ho, .ref tr, .ref ke, .int (nI nm), .int (nI kc), .int (nI cbf), .int (nI ef)])), (le, .inl (cA, 72, .inl (aN (va_up x ((na * 8 + 8) + o) ((x ((na * 8) + o)) &&& (fbe (((na * 7 + cd) * 8 + 0) + o))))))), (ho, .inl (cA, 8, .inl (aN fho))), (tr, .inl (cA, 8, .inl (aN ftr))), (ke, .inl (cA, 8, .inl (aN fke))), (ra, .inr (3, [.ref al, .ref be])), (al, .inl (cA, 8, .inl (aN fal))), (be, .inl (cA, 448, .inl (aN fbe)))] H := hP
        have hD : va_D A [(sa, .inr (4, [.ref ra, .ref le, .ref ho, .ref tr, .ref ke, .int (nI nm), .int (nI kc), .int (nI cbf), .int (nI ef)])), (le, .inl (cA, 72, .inl (aN (va_up x ((na * 8 + 8) + o) ((x ((na * 8) + o)) &&& (fbe (((na * 7 + cd) * 8 + 0) + o))))))), (ho, .inl (cA, 8, .inl (aN fho))), (tr, .inl (cA, 8, .inl (aN ftr))), (ke, .inl (cA, 8, .inl (aN fke))), (ra, .inr (3, [.ref al, .ref be])), (al, .inl (cA, 8, .inl (aN fal))), (be, .inl (cA, 448, .inl (aN fbe)))] := hD
        refine lv_iload hx hb dX2_narrowRest_82 (lv_at hl 8 rfl) ?_
        refine lv_iload hx hb dX2_narrowRest_84 (lv_at hl 0 rfl) ?_
        refine lv_aload_n hx hb dX2_narrowRest_86 rfl (lv_at hl 1 rfl) ?_
        refine va_get (D := D) (ci := 4) (v := .ref ho) (C := RX2) (T := TX2) (N := 9) hx hb hts inX2_narrowRest_X2 hown hK.1 hP 0 rfl rfl 2 (by decide) (hts _ lkX2_narrowRest_15) (fun _ h9 => h9) rfl dX2_narrowRest_87 ?_
        refine lv_iload hx hb dX2_narrowRest_90 (lv_at hl 9 rfl) ?_
        refine nn_ald hx hb hK hP 2 rfl (by omega) (by decide) dX2_narrowRest_92 ?_
        refine zz_callI (av := []) (wc := []) (wr := [(sa, .inr (4, [.ref ra, .ref le, .ref ho, .ref tr, .ref ke, .int (nI nm), .int (nI kc), .int (nI cbf), .int (nI ef)])), (le, .inl (cA, 72, .inl (aN (va_up x ((na * 8 + 8) + o) ((x ((na * 8) + o)) &&& (fbe (((na * 7 + cd) * 8 + 0) + o))))))), (ho, .inl (cA, 8, .inl (aN fho))), (tr, .inl (cA, 8, .inl (aN ftr))), (ke, .inl (cA, 8, .inl (aN fke))), (ra, .inr (3, [.ref al, .ref be])), (al, .inl (cA, 8, .inl (aN fal))), (be, .inl (cA, 448, .inl (aN fbe)))]) hS hA hP hD [] [0, 1, 2, 3, 4, 5, 6, 7] rfl rfl (by decide) (by decide) (va_runS (As := [.int (nI ((x ((na * 8) + o)) &&& (fbe (((na * 7 + cd) * 8 + 0) + o)))), .int (nI (fho o))]) (rest := [.int (nI co)]) ⟨hx, hb, hml, hown, hts⟩ (kX2_leastCostOf l D cA H.size ((x ((na * 8) + o)) &&& (fbe (((na * 7 + cd) * 8 + 0) + o))) (fho o) (Nat.lt_trans (and_lt128 (hx9 _)) (by decide)) (hho _)) (va_cwS 2 hts gX2_narrowRest_X2_leastCostOf rfl rfl rfl (by decide +kernel) ⟨Nat.le_trans (by decide) hRf, Nat.le_trans (by decide) hRl⟩) (zPreS (av := [.int (nI ((x ((na * 8) + o)) &&& (fbe (((na * 7 + cd) * 8 + 0) + o)))), .int (nI (fho o))]) (wc := []) hK hP hD [] rfl (by decide) rfl) rfl rfl hl.1 rfl (lv_room (Nat.le_of_ble_eq_true rfl)) dX2_narrowRest_93 ⟨Nat.zero_le _, Nat.zero_le _⟩) (fun H locs hP hD hS => ?_)
        have hP : va_P D vwCl [(sa, .inr (4, [.ref ra, .ref le, .ref ho, .ref tr, .ref ke, .int (nI nm), .int (nI kc), .int (nI cbf), .int (nI ef)])), (le, .inl (cA, 72, .inl (aN (va_up x ((na * 8 + 8) + o) ((x ((na * 8) + o)) &&& (fbe (((na * 7 + cd) * 8 + 0) + o))))))), (ho, .inl (cA, 8, .inl (aN fho))), (tr, .inl (cA, 8, .inl (aN ftr))), (ke, .inl (cA, 8, .inl (aN fke))), (ra, .inr (3, [.ref al, .ref be])), (al, .inl (cA, 8, .inl (aN fal))), (be, .inl (cA, 448, .inl (aN fbe)))] H := hP
        have hD : va_D A [(sa, .inr (4, [.ref ra, .ref le, .ref ho, .ref tr, .ref ke, .int (nI nm), .int (nI kc), .int (nI cbf), .int (nI ef)])), (le, .inl (cA, 72, .inl (aN (va_up x ((na * 8 + 8) + o) ((x ((na * 8) + o)) &&& (fbe (((na * 7 + cd) * 8 + 0) + o))))))), (ho, .inl (cA, 8, .inl (aN fho))), (tr, .inl (cA, 8, .inl (aN ftr))), (ke, .inl (cA, 8, .inl (aN fke))), (ra, .inr (3, [.ref al, .ref be])), (al, .inl (cA, 8, .inl (aN fal))), (be, .inl (cA, 448, .inl (aN fbe)))] := hD
        refine nn_iadd hx hb dX2_narrowRest_96 ?_
        refine lv_istore (lv' := [(7, .int (nI (co + (lcost ((x ((na * 8) + o)) &&& (fbe (((na * 7 + cd) * 8 + 0) + o))) (fho o))))), (9, .int (nI ((x ((na * 8) + o)) &&& (fbe (((na * 7 + cd) * 8 + 0) + o))))), (0, .ref sa), (1, .int (nI na)), (2, .int (nI cd)), (3, .int (nI cb - nI nw)), (4, .int (nI (na * 8))), (5, .int (nI (na * 8 + 8))), (6, .int (nI ((na * 7 + cd) * 8 + 0))), (8, .int (nI o))]) hx hb dX2_narrowRest_97 hl (by decide) rfl (fun ls hl => ?_)
        refine lv_iinc (v := (nI (o + 1))) (lv' := [(8, .int (nI (o + 1))), (7, .int (nI (co + (lcost ((x ((na * 8) + o)) &&& (fbe (((na * 7 + cd) * 8 + 0) + o))) (fho o))))), (9, .int (nI ((x ((na * 8) + o)) &&& (fbe (((na * 7 + cd) * 8 + 0) + o))))), (0, .ref sa), (1, .int (nI na)), (2, .int (nI cd)), (3, .int (nI cb - nI nw)), (4, .int (nI (na * 8))), (5, .int (nI (na * 8 + 8))), (6, .int (nI ((na * 7 + cd) * 8 + 0)))]) hx hb dX2_narrowRest_99 hl (k := 9) rfl (nI_add _ _) (by decide) rfl (fun ls hl => ?_)
        refine lv_goto (tgt := 29) hx hb dX2_narrowRest_102 (by decide) ?_
        have eN : nrLoop fbe fho (na * 8) (na * 8 + 8) ((na * 7 + cd) * 8 + 0) nw cb (k + 1) o co x = nrLoop fbe fho (na * 8) (na * 8 + 8) ((na * 7 + cd) * 8 + 0) nw cb k (o + 1) (co + lcost ((x ((na * 8) + o)) &&& (fbe (((na * 7 + cd) * 8 + 0) + o))) (fho o)) (va_up x ((na * 8 + 8) + o) ((x ((na * 8) + o)) &&& (fbe (((na * 7 + cd) * 8 + 0) + o)))) := by rw [nrLoop]; exact if_pos (by omega)
        rw [eN] at kk
        have hlc := lcost_le ((x ((na * 8) + o)) &&& (fbe (((na * 7 + cd) * 8 + 0) + o))) (fho o)
        exact ih (o + 1) (co + (lcost ((x ((na * 8) + o)) &&& (fbe (((na * 7 + cd) * 8 + 0) + o))) (fho o))) (va_up x ((na * 8 + 8) + o) ((x ((na * 8) + o)) &&& (fbe (((na * 7 + cd) * 8 + 0) + o)))) (by omega) (up_lt hx9 (and_lt128 (hx9 _))) (by omega) _ _ _ hP hD hS (lv_sub hl [3, 4, 5, 6, 7, 8, 9, 1, 0] rfl) kk

theorem iniX2_narrowRest_X1 : Cond.initialized RX1 ∈ wsX2_narrowRest := by decide +kernel
theorem stX2_narrowRest_X1_place : Cond.static yX1_place ∈ wsX2_narrowRest := by decide +kernel
set_option maxHeartbeats 4000000 in
set_option maxRecDepth 100000 in
theorem kX2_narrowRest (l : Launch) (D : va_G) (cA : ClassId) (sz : Nat) (sa : Nat) (le : Nat) (ho : Nat) (tr : Nat) (ke : Nat) (ra : Nat) (al : Nat) (be : Nat) (fle : Nat → Nat) (fho : Nat → Nat) (ftr : Nat → Nat) (fke : Nat → Nat) (fal : Nat → Nat) (fbe : Nat → Nat) (nm : Nat) (kc : Nat) (cbf : Nat) (ef : Nat) (na : Nat) (cd : Nat) (cb : Nat) (nw : Nat) (hn : nm ≤ 8) (hna : na < nm) (hc : cd < 7) (hcb : cb < 1000) (hnw : nw < 1000) (hho : ∀ j, fho j < 32) (hle : ∀ j, fle j < 128) : zMi l yX2_narrowRest wsX2_narrowRest ({ frames := 1, cells := 0, slots := 0, locals := 22 }) D cA [.ref sa, .int (nI na), .int (nI cd), .int (nI cb - nI nw)] sz [(sa, .inr (4, [.ref ra, .ref le, .ref ho, .ref tr, .ref ke, .int (nI nm), .int (nI kc), .int (nI cbf), .int (nI ef)])), (le, .inl (cA, 72, .inl (aN fle))), (ho, .inl (cA, 8, .inl (aN fho))), (tr, .inl (cA, 8, .inl (aN ftr))), (ke, .inl (cA, 8, .inl (aN fke))), (ra, .inr (3, [.ref al, .ref be])), (al, .inl (cA, 8, .inl (aN fal))), (be, .inl (cA, 448, .inl (aN fbe)))] [(sa, .inr (4, [.ref ra, .ref le, .ref ho, .ref tr, .ref ke, .int (nI nm), .int (nI kc), .int (nI cbf), .int (nI ef)])), (le, .inl (cA, 72, .inl (aN ((nrF nm fbe fho na cd cb nw fle).2)))), (ho, .inl (cA, 8, .inl (aN fho))), (tr, .inl (cA, 8, .inl (aN ftr))), (ke, .inl (cA, 8, .inl (aN fke))), (ra, .inr (3, [.ref al, .ref be])), (al, .inl (cA, 8, .inl (aN fal))), (be, .inl (cA, 448, .inl (aN fbe)))] (nI ((nrF nm fbe fho na cd cb nw fle).1)) := by
  refine Met.ofW (cc := cX2_narrowRest) (maxL := 10) (ret := (some .int)) (by decide) rfl ?_
  intro p e s m args below meth c s₁ B hml hv
  obtain ⟨rfl, hsz, hP, hK, hD0⟩ := hv
  have hx := B.exec
  have hb := B.bytes
  have hr := B.returns
  have hts := atoms_spec (ws := wsX2_narrowRest) B.pre
  have hown : s.vm.findClass RX2 = some m.cls := findClass_of_methodNamed B.named
  have hlocks := B.notSynchronized
  subst hsz
  have hD := hD0.self (sz := s.heap.size)
  generalize hAe : va_A [(sa, .inr (4, [.ref ra, .ref le, .ref ho, .ref tr, .ref ke, .int (nI nm), .int (nI kc), .int (nI cbf), .int (nI ef)])), (le, .inl (cA, 72, .inl (aN fle))), (ho, .inl (cA, 8, .inl (aN fho))), (tr, .inl (cA, 8, .inl (aN ftr))), (ke, .inl (cA, 8, .inl (aN fke))), (ra, .inr (3, [.ref al, .ref be])), (al, .inl (cA, 8, .inl (aN fal))), (be, .inl (cA, 448, .inl (aN fbe)))] s.heap.size = A at hD ⊢
  have hA : ∀ q : Nat, s.heap.size ≤ q → A q := fun q h => by rw [← hAe]; exact Or.inr h
  have hS : va_S A s.heap s.heap [] := va_S.rf
  have hP : va_P D vwCl [(sa, .inr (4, [.ref ra, .ref le, .ref ho, .ref tr, .ref ke, .int (nI nm), .int (nI kc), .int (nI cbf), .int (nI ef)])), (le, .inl (cA, 72, .inl (aN fle))), (ho, .inl (cA, 8, .inl (aN fho))), (tr, .inl (cA, 8, .inl (aN ftr))), (ke, .inl (cA, 8, .inl (aN fke))), (ra, .inr (3, [.ref al, .ref be])), (al, .inl (cA, 8, .inl (aN fal))), (be, .inl (cA, 448, .inl (aN fbe)))] s.heap := hP
  have hl := lv_entry ([.ref sa, .int (nI na), .int (nI cd), .int (nI cb - nI nw)]) (n := 10) (Nat.le_of_ble_eq_true rfl)
  rw [lg_entry_eq]
  generalize (lg_sl ([.ref sa, .int (nI na), .int (nI cd), .int (nI cb - nI nw)]) ++ List.replicate (10 - (lg_sl ([.ref sa, .int (nI na), .int (nI cd), .int (nI cb - nI nw)])).length) Slot.unset).toArray = ls at hl ⊢
  have hl : lv_has ls 10 [(0, .ref sa), (1, .int (nI na)), (2, .int (nI cd)), (3, .int (nI cb - nI nw))] := hl
  refine lv_iload_n hx hb dX2_narrowRest_0 rfl (lv_at hl 1 rfl) ?_
  refine lv_bipush (v := nI 8) hx hb dX2_narrowRest_1 (by decide) ?_
  refine nn_imul hx hb dX2_narrowRest_3 ?_
  refine lv_istore (lv' := [(4, .int (nI (na * 8))), (0, .ref sa), (1, .int (nI na)), (2, .int (nI cd)), (3, .int (nI cb - nI nw))]) hx hb dX2_narrowRest_4 hl (by decide) rfl (fun ls hl => ?_)
  refine lv_iload hx hb dX2_narrowRest_6 (lv_at hl 0 rfl) ?_
  refine lv_bipush (v := nI 8) hx hb dX2_narrowRest_8 (by decide) ?_
  refine nn_iadd hx hb dX2_narrowRest_10 ?_
  refine lv_istore (lv' := [(5, .int (nI ((na * 8) + 8))), (4, .int (nI (na * 8))), (0, .ref sa), (1, .int (nI na)), (2, .int (nI cd)), (3, .int (nI cb - nI nw))]) hx hb dX2_narrowRest_11 hl (by decide) rfl (fun ls hl => ?_)
  refine lv_iload_n hx hb dX2_narrowRest_13 rfl (lv_at hl 3 rfl) ?_
  refine lv_iload_n hx hb dX2_narrowRest_14 rfl (lv_at hl 4 rfl) ?_
  refine lv_iconst (v := nI 0) hx hb dX2_narrowRest_15 (by decide) ?_
  refine zz_callI (av := []) (wc := []) (wr := [(sa, .inr (4, [.ref ra, .ref le, .ref ho, .ref tr, .ref ke, .int (nI nm), .int (nI kc), .int (nI cbf), .int (nI ef)])), (le, .inl (cA, 72, .inl (aN fle))), (ho, .inl (cA, 8, .inl (aN fho))), (tr, .inl (cA, 8, .inl (aN ftr))), (ke, .inl (cA, 8, .inl (aN fke))), (ra, .inr (3, [.ref al, .ref be])), (al, .inl (cA, 8, .inl (aN fal))), (be, .inl (cA, 448, .inl (aN fbe)))]) hS hA hP hD [] [0, 1, 2, 3, 4, 5, 6, 7] rfl rfl (by decide) (by decide) (va_runSN (As := [.int (nI na), .int (nI cd), .int (nI 0)]) (rest := []) ⟨hx, hb, hml, hown, hts⟩ (kX1_place l D cA s.heap.size na cd 0 ) ⟨va_cnB 3 hts gX2_narrowRest_X1_place_n71 rfl rfl rfl (hK.2 _ nkX2_71) (hts _ iniX2_narrowRest_X1) (by decide +kernel) ⟨Nat.le_of_ble_eq_true rfl, Nat.le_of_ble_eq_true rfl⟩, hts _ stX2_narrowRest_X1_place, trivial⟩ (zPreS (av := [.int (nI na), .int (nI cd), .int (nI 0)]) (wc := []) hK hP hD [] rfl (by decide) rfl) rfl rfl hl.1 rfl (lv_room (Nat.le_of_ble_eq_true rfl)) dX2_narrowRest_16 ⟨Nat.zero_le _, Nat.zero_le _⟩) (fun H locs hP hD hS => ?_)
  have hP : va_P D vwCl [(sa, .inr (4, [.ref ra, .ref le, .ref ho, .ref tr, .ref ke, .int (nI nm), .int (nI kc), .int (nI cbf), .int (nI ef)])), (le, .inl (cA, 72, .inl (aN fle))), (ho, .inl (cA, 8, .inl (aN fho))), (tr, .inl (cA, 8, .inl (aN ftr))), (ke, .inl (cA, 8, .inl (aN fke))), (ra, .inr (3, [.ref al, .ref be])), (al, .inl (cA, 8, .inl (aN fal))), (be, .inl (cA, 448, .inl (aN fbe)))] H := hP
  have hD : va_D A [(sa, .inr (4, [.ref ra, .ref le, .ref ho, .ref tr, .ref ke, .int (nI nm), .int (nI kc), .int (nI cbf), .int (nI ef)])), (le, .inl (cA, 72, .inl (aN fle))), (ho, .inl (cA, 8, .inl (aN fho))), (tr, .inl (cA, 8, .inl (aN ftr))), (ke, .inl (cA, 8, .inl (aN fke))), (ra, .inr (3, [.ref al, .ref be])), (al, .inl (cA, 8, .inl (aN fal))), (be, .inl (cA, 448, .inl (aN fbe)))] := hD
  refine lv_istore (lv' := [(6, .int (nI ((na * 7 + cd) * 8 + 0))), (5, .int (nI ((na * 8) + 8))), (4, .int (nI (na * 8))), (0, .ref sa), (1, .int (nI na)), (2, .int (nI cd)), (3, .int (nI cb - nI nw))]) hx hb dX2_narrowRest_19 hl (by decide) rfl (fun ls hl => ?_)
  refine lv_iconst (v := nI 0) hx hb dX2_narrowRest_21 (by decide) ?_
  refine lv_istore (lv' := [(7, .int (nI 0)), (6, .int (nI ((na * 7 + cd) * 8 + 0))), (5, .int (nI ((na * 8) + 8))), (4, .int (nI (na * 8))), (0, .ref sa), (1, .int (nI na)), (2, .int (nI cd)), (3, .int (nI cb - nI nw))]) hx hb dX2_narrowRest_22 hl (by decide) rfl (fun ls hl => ?_)
  refine lv_iload_n hx hb dX2_narrowRest_24 rfl (lv_at hl 5 rfl) ?_
  refine lv_iconst (v := nI 1) hx hb dX2_narrowRest_25 (by decide) ?_
  refine nn_iadd hx hb dX2_narrowRest_26 ?_
  refine lv_istore (lv' := [(8, .int (nI (na + 1))), (7, .int (nI 0)), (6, .int (nI ((na * 7 + cd) * 8 + 0))), (5, .int (nI ((na * 8) + 8))), (4, .int (nI (na * 8))), (0, .ref sa), (1, .int (nI na)), (2, .int (nI cd)), (3, .int (nI cb - nI nw))]) hx hb dX2_narrowRest_27 hl (by decide) rfl (fun ls hl => ?_)
  refine bX2_nr hx hb hml hown hts hK hA sa le ho tr ke ra al be fho ftr fke fal fbe nm kc cbf ef na cd cb nw hn hna hc hcb hnw hho (Nat.le_of_ble_eq_true rfl) (Nat.le_of_ble_eq_true rfl) (nm - (na + 1)) (na + 1) 0 fle (by omega) hle (by omega) _ _ ls hP hD hS (lv_sub hl [5, 6, 7, 8, 4, 3, 2, 1, 0] rfl) (fun H locs ls hP hD hS hl => ?_)
  refine lv_iload hx hb dX2_narrowRest_105 (lv_at hl 1 rfl) ?_
  have eW : ([(sa, .inr (4, [.ref ra, .ref le, .ref ho, .ref tr, .ref ke, .int (nI nm), .int (nI kc), .int (nI cbf), .int (nI ef)])), (le, .inl (cA, 72, .inl (aN ((nrLoop fbe fho (na * 8) (na * 8 + 8) ((na * 7 + cd) * 8 + 0) nw cb (nm - (na + 1)) (na + 1) 0 fle).2)))), (ho, .inl (cA, 8, .inl (aN fho))), (tr, .inl (cA, 8, .inl (aN ftr))), (ke, .inl (cA, 8, .inl (aN fke))), (ra, .inr (3, [.ref al, .ref be])), (al, .inl (cA, 8, .inl (aN fal))), (be, .inl (cA, 448, .inl (aN fbe)))] : va_W) = [(sa, .inr (4, [.ref ra, .ref le, .ref ho, .ref tr, .ref ke, .int (nI nm), .int (nI kc), .int (nI cbf), .int (nI ef)])), (le, .inl (cA, 72, .inl (aN ((nrF nm fbe fho na cd cb nw fle).2)))), (ho, .inl (cA, 8, .inl (aN fho))), (tr, .inl (cA, 8, .inl (aN ftr))), (ke, .inl (cA, 8, .inl (aN fke))), (ra, .inr (3, [.ref al, .ref be])), (al, .inl (cA, 8, .inl (aN fal))), (be, .inl (cA, 448, .inl (aN fbe)))] := by rfl
  rw [eW] at hP hD
  exact W.iret (v := (nI ((nrLoop fbe fho (na * 8) (na * 8 + 8) ((na * 7 + cd) * 8 + 0) nw cb (nm - (na + 1)) (na + 1) 0 fle).1))) hx hb hr (fun t ht hW => ⟨⟨(nI ((nrLoop fbe fho (na * 8) (na * 8 + 8) ((na * 7 + cd) * 8 + 0) nw cb (nm - (na + 1)) (na + 1) 0 fle).1)), (), rfl, (by rfl), by rw [ht]; exact hP, hD⟩, hS.F ht⟩) hS.2.2 dX2_narrowRest_107
end
section

/-- what a search changes: left, tried, kept, keptCost, costBound -/
abbrev Sg : Type := (Nat → Nat) × (Nat → Nat) × (Nat → Nat) × Nat × Nat
def GInv (x : Sg) : Prop := (∀ j, x.1 j < 128) ∧ x.2.2.2.2 ≤ 144
def keepF (nm ef co : Nat) (x : Sg) : Sg := (x.1, x.2.1, zlp (kpBody x.2.1) nm 0 x.2.2.1, co, if ef = 0 then co else 0)
def giveStep (rc : Nat → Nat → Sg → Sg) (nm : Nat) (fbe fho : Nat → Nat) (na cd co : Nat) (x : Sg) : Sg :=
  if (co + costN cd (fho na)) + (nrF nm fbe fho na cd x.2.2.2.2 (co + costN cd (fho na)) x.1).1 < x.2.2.2.2 then rc (na + 1) (co + costN cd (fho na)) ((nrF nm fbe fho na cd x.2.2.2.2 (co + costN cd (fho na)) x.1).2, va_up x.2.1 na cd, x.2.2)
  else ((nrF nm fbe fho na cd x.2.2.2.2 (co + costN cd (fho na)) x.1).2, x.2)
def gfLoop (g : Nat → Sg → Sg) (cs fi : Nat) : Nat → Sg → Sg
  | 0, x => x
  | k + 1, x => gfLoop g cs fi k (if k = fi then x else if (cs >>> k) &&& 1 = 0 then x else g k x)
def giveFromF (nm ef : Nat) (fbe fho : Nat → Nat) : Nat → Nat → Nat → Sg → Sg
  | 0, _, co, x => keepF nm ef co x
  | d + 1, na, co, x => gfLoop (fun cd y => giveStep (giveFromF nm ef fbe fho d) nm fbe fho na cd co y) (x.1 (na * 8 + na)) (fho na) 7 (if ((x.1 (na * 8 + na)) >>> (fho na)) &&& 1 = 0 then x else giveStep (giveFromF nm ef fbe fho d) nm fbe fho na (fho na) co x)
theorem giveStep_inv {rc : Nat → Nat → Sg → Sg} {nm : Nat} {fbe fho : Nat → Nat} {na cd co : Nat} {x : Sg} (hrc : ∀ co' y, co' ≤ 17 * (na + 1) → GInv y → GInv (rc (na + 1) co' y)) (hc : co ≤ 17 * na) (h : GInv x) : GInv (giveStep rc nm fbe fho na cd co x) := by
  unfold giveStep
  have h1 := costN_le cd (fho na)
  split
  · exact hrc _ _ (by omega) ⟨nrF_lt h.1, h.2⟩
  · exact ⟨nrF_lt h.1, h.2⟩
theorem gfLoop_inv {g : Nat → Sg → Sg} {cs fi : Nat} (hg : ∀ cd y, GInv y → GInv (g cd y)) : ∀ k x, GInv x → GInv (gfLoop g cs fi k x) := by
  intro k
  induction k with
  | zero => intro x h; exact h
  | succ k ih =>
    intro x h
    rw [gfLoop]
    refine ih _ ?_
    repeat' split
    · exact h
    · exact h
    · exact hg _ _ h
theorem giveFromF_inv {nm ef : Nat} {fbe fho : Nat → Nat} : ∀ d na co x, co ≤ 17 * na → na + d ≤ 8 → GInv x → GInv (giveFromF nm ef fbe fho d na co x) := by
  intro d
  induction d with
  | zero =>
    intro na co x hc hn h
    refine ⟨h.1, ?_⟩
    show (if ef = 0 then co else 0) ≤ 144
    split <;> omega
  | succ d ih =>
    intro na co x hc hn h
    rw [giveFromF]
    have hs : ∀ cd y, GInv y → GInv (giveStep (giveFromF nm ef fbe fho d) nm fbe fho na cd co y) := fun cd y hy => giveStep_inv (fun co' z h1 h2 => ih _ _ _ h1 (by omega) h2) hc hy
    refine gfLoop_inv hs _ _ ?_
    split
    · exact h
    · exact hs _ _ h
theorem bit_lt7 {cs k : Nat} (h : cs < 128) (hb : ¬ (cs >>> k) &&& 1 = 0) : k < 7 := by
  rcases Nat.lt_or_ge k 7 with q | q
  · exact q
  · exfalso
    apply hb
    have h1 : cs >>> k = 0 := by
      rw [Nat.shiftRight_eq_div_pow]
      apply Nat.div_eq_of_lt
      exact Nat.lt_of_lt_of_le h (show 2 ^ 7 ≤ 2 ^ k from Nat.pow_le_pow_right (by decide) q)
    rw [h1]
    rfl
theorem nI_decm (k : Nat) : nI k + (-1) = mI k := by
  unfold mI
  rw [Int32.sub_eq_add_neg]

theorem lkX2_give_15 : Cond.fieldLink RX2 15 "LeastChange$Search" "home" "[I" ∈ wsX2_give := by decide +kernel
theorem lkX2_give_18 : Cond.fieldLink RX2 18 "LeastChange$Search" "tried" "[I" ∈ wsX2_give := by decide +kernel
theorem lkX2_give_31 : Cond.fieldLink RX2 31 "LeastChange$Search" "costBound" "I" ∈ wsX2_give := by decide +kernel
theorem inX2_give_X2 : ∀ w ∈ wsX20, w ∈ wsX2_give := by decide +kernel
set_option maxHeartbeats 4000000 in
set_option maxRecDepth 100000 in
theorem kX2_give (l : Launch) (D : va_G) (cA : ClassId) (sz : Nat) (sa : Nat) (le : Nat) (ho : Nat) (tr : Nat) (ke : Nat) (ra : Nat) (al : Nat) (be : Nat) (fho : Nat → Nat) (fal : Nat → Nat) (fbe : Nat → Nat) (nm : Nat) (ef : Nat) (d : Nat) (na : Nat) (cd : Nat) (co : Nat) (x : Sg) (hn : nm ≤ 8) (hho : ∀ j, fho j < 32) (he : ef < 2) (ihg : ∀ (sz na co : Nat) (x : Sg), na + d = nm → co ≤ 17 * na → GInv x → zMv l yX2_giveFrom wsX2_giveFrom ({ frames := 2 * d + 2, cells := 0, slots := 0, locals := 49 * d + 30 }) D cA [.ref sa, .int (nI na), .int (nI co)] sz [(sa, .inr (4, [.ref ra, .ref le, .ref ho, .ref tr, .ref ke, .int (nI nm), .int (nI x.2.2.2.1), .int (nI x.2.2.2.2), .int (nI ef)])), (le, .inl (cA, 72, .inl (aN x.1))), (ho, .inl (cA, 8, .inl (aN fho))), (tr, .inl (cA, 8, .inl (aN x.2.1))), (ke, .inl (cA, 8, .inl (aN x.2.2.1))), (ra, .inr (3, [.ref al, .ref be])), (al, .inl (cA, 8, .inl (aN fal))), (be, .inl (cA, 448, .inl (aN fbe)))] [(sa, .inr (4, [.ref ra, .ref le, .ref ho, .ref tr, .ref ke, .int (nI nm), .int (nI ((giveFromF nm ef fbe fho d na co x).2.2.2.1)), .int (nI ((giveFromF nm ef fbe fho d na co x).2.2.2.2)), .int (nI ef)])), (le, .inl (cA, 72, .inl (aN ((giveFromF nm ef fbe fho d na co x).1)))), (ho, .inl (cA, 8, .inl (aN fho))), (tr, .inl (cA, 8, .inl (aN ((giveFromF nm ef fbe fho d na co x).2.1)))), (ke, .inl (cA, 8, .inl (aN ((giveFromF nm ef fbe fho d na co x).2.2.1)))), (ra, .inr (3, [.ref al, .ref be])), (al, .inl (cA, 8, .inl (aN fal))), (be, .inl (cA, 448, .inl (aN fbe)))]) (hna : na + (d + 1) = nm) (hcd : cd < 7) (hco : co ≤ 17 * na) (hg : GInv x) : zMv l yX2_give wsX2_give ({ frames := 2 * d + 3, cells := 0, slots := 0, locals := 49 * d + 55 }) D cA [.ref sa, .int (nI na), .int (nI cd), .int (nI co)] sz [(sa, .inr (4, [.ref ra, .ref le, .ref ho, .ref tr, .ref ke, .int (nI nm), .int (nI x.2.2.2.1), .int (nI x.2.2.2.2), .int (nI ef)])), (le, .inl (cA, 72, .inl (aN x.1))), (ho, .inl (cA, 8, .inl (aN fho))), (tr, .inl (cA, 8, .inl (aN x.2.1))), (ke, .inl (cA, 8, .inl (aN x.2.2.1))), (ra, .inr (3, [.ref al, .ref be])), (al, .inl (cA, 8, .inl (aN fal))), (be, .inl (cA, 448, .inl (aN fbe)))] [(sa, .inr (4, [.ref ra, .ref le, .ref ho, .ref tr, .ref ke, .int (nI nm), .int (nI ((giveStep (giveFromF nm ef fbe fho d) nm fbe fho na cd co x).2.2.2.1)), .int (nI ((giveStep (giveFromF nm ef fbe fho d) nm fbe fho na cd co x).2.2.2.2)), .int (nI ef)])), (le, .inl (cA, 72, .inl (aN ((giveStep (giveFromF nm ef fbe fho d) nm fbe fho na cd co x).1)))), (ho, .inl (cA, 8, .inl (aN fho))), (tr, .inl (cA, 8, .inl (aN ((giveStep (giveFromF nm ef fbe fho d) nm fbe fho na cd co x).2.1)))), (ke, .inl (cA, 8, .inl (aN ((giveStep (giveFromF nm ef fbe fho d) nm fbe fho na cd co x).2.2.1)))), (ra, .inr (3, [.ref al, .ref be])), (al, .inl (cA, 8, .inl (aN fal))), (be, .inl (cA, 448, .inl (aN fbe)))] := by
  refine Met.ofW (cc := cX2_give) (maxL := 5) (ret := none) (by decide) rfl ?_
  intro p e s m args below meth c s₁ B hml hv
  obtain ⟨rfl, hsz, hP, hK, hD0⟩ := hv
  have hx := B.exec
  have hb := B.bytes
  have hr := B.returns
  have hts := atoms_spec (ws := wsX2_give) B.pre
  have hown : s.vm.findClass RX2 = some m.cls := findClass_of_methodNamed B.named
  have hlocks := B.notSynchronized
  subst hsz
  have hD := hD0.self (sz := s.heap.size)
  generalize hAe : va_A [(sa, .inr (4, [.ref ra, .ref le, .ref ho, .ref tr, .ref ke, .int (nI nm), .int (nI x.2.2.2.1), .int (nI x.2.2.2.2), .int (nI ef)])), (le, .inl (cA, 72, .inl (aN x.1))), (ho, .inl (cA, 8, .inl (aN fho))), (tr, .inl (cA, 8, .inl (aN x.2.1))), (ke, .inl (cA, 8, .inl (aN x.2.2.1))), (ra, .inr (3, [.ref al, .ref be])), (al, .inl (cA, 8, .inl (aN fal))), (be, .inl (cA, 448, .inl (aN fbe)))] s.heap.size = A at hD ⊢
  have hA : ∀ q : Nat, s.heap.size ≤ q → A q := fun q h => by rw [← hAe]; exact Or.inr h
  have hS : va_S A s.heap s.heap [] := va_S.rf
  have hP : va_P D vwCl [(sa, .inr (4, [.ref ra, .ref le, .ref ho, .ref tr, .ref ke, .int (nI nm), .int (nI x.2.2.2.1), .int (nI x.2.2.2.2), .int (nI ef)])), (le, .inl (cA, 72, .inl (aN x.1))), (ho, .inl (cA, 8, .inl (aN fho))), (tr, .inl (cA, 8, .inl (aN x.2.1))), (ke, .inl (cA, 8, .inl (aN x.2.2.1))), (ra, .inr (3, [.ref al, .ref be])), (al, .inl (cA, 8, .inl (aN fal))), (be, .inl (cA, 448, .inl (aN fbe)))] s.heap := hP
  have hl := lv_entry ([.ref sa, .int (nI na), .int (nI cd), .int (nI co)]) (n := 5) (Nat.le_of_ble_eq_true rfl)
  rw [lg_entry_eq]
  generalize (lg_sl ([.ref sa, .int (nI na), .int (nI cd), .int (nI co)]) ++ List.replicate (5 - (lg_sl ([.ref sa, .int (nI na), .int (nI cd), .int (nI co)])).length) Slot.unset).toArray = ls at hl ⊢
  have hl : lv_has ls 5 [(0, .ref sa), (1, .int (nI na)), (2, .int (nI cd)), (3, .int (nI co))] := hl
  refine lv_iload_n hx hb dX2_give_0 rfl (lv_at hl 3 rfl) ?_
  refine lv_iload_n hx hb dX2_give_1 rfl (lv_at hl 2 rfl) ?_
  refine lv_aload_n hx hb dX2_give_2 rfl (lv_at hl 0 rfl) ?_
  refine va_get (D := D) (ci := 4) (v := .ref ho) (C := RX2) (T := TX2) (N := 9) hx hb hts inX2_give_X2 hown hK.1 hP 0 rfl rfl 2 (by decide) (hts _ lkX2_give_15) (fun _ h9 => h9) rfl dX2_give_3 ?_
  refine lv_iload_n hx hb dX2_give_6 rfl (lv_at hl 1 rfl) ?_
  refine nn_ald hx hb hK hP 2 rfl (by omega) (by decide) dX2_give_7 ?_
  refine zz_callI (av := []) (wc := []) (wr := [(sa, .inr (4, [.ref ra, .ref le, .ref ho, .ref tr, .ref ke, .int (nI nm), .int (nI x.2.2.2.1), .int (nI x.2.2.2.2), .int (nI ef)])), (le, .inl (cA, 72, .inl (aN x.1))), (ho, .inl (cA, 8, .inl (aN fho))), (tr, .inl (cA, 8, .inl (aN x.2.1))), (ke, .inl (cA, 8, .inl (aN x.2.2.1))), (ra, .inr (3, [.ref al, .ref be])), (al, .inl (cA, 8, .inl (aN fal))), (be, .inl (cA, 448, .inl (aN fbe)))]) hS hA hP hD [] [0, 1, 2, 3, 4, 5, 6, 7] rfl rfl (by decide) (by decide) (va_runS (As := [.int (nI cd), .int (nI (fho na))]) (rest := [.int (nI co)]) ⟨hx, hb, hml, hown, hts⟩ (kX2_costOf l D cA s.heap.size cd (fho na) (by omega) (Nat.lt_trans (hho _) (by decide))) (va_cwS 2 hts gX2_give_X2_costOf rfl rfl rfl (by decide +kernel) ⟨by show 1 + 1 ≤ 2 * d + 3; omega, by show 8 + (2 + 11) + 21 ≤ 49 * d + 55; omega⟩) (zPreS (av := [.int (nI cd), .int (nI (fho na))]) (wc := []) hK hP hD [] rfl (by decide) rfl) rfl rfl hl.1 rfl (lv_room (Nat.le_of_ble_eq_true rfl)) dX2_give_8 ⟨Nat.zero_le _, Nat.zero_le _⟩) (fun H locs hP hD hS => ?_)
  have hP : va_P D vwCl [(sa, .inr (4, [.ref ra, .ref le, .ref ho, .ref tr, .ref ke, .int (nI nm), .int (nI x.2.2.2.1), .int (nI x.2.2.2.2), .int (nI ef)])), (le, .inl (cA, 72, .inl (aN x.1))), (ho, .inl (cA, 8, .inl (aN fho))), (tr, .inl (cA, 8, .inl (aN x.2.1))), (ke, .inl (cA, 8, .inl (aN x.2.2.1))), (ra, .inr (3, [.ref al, .ref be])), (al, .inl (cA, 8, .inl (aN fal))), (be, .inl (cA, 448, .inl (aN fbe)))] H := hP
  have hD : va_D A [(sa, .inr (4, [.ref ra, .ref le, .ref ho, .ref tr, .ref ke, .int (nI nm), .int (nI x.2.2.2.1), .int (nI x.2.2.2.2), .int (nI ef)])), (le, .inl (cA, 72, .inl (aN x.1))), (ho, .inl (cA, 8, .inl (aN fho))), (tr, .inl (cA, 8, .inl (aN x.2.1))), (ke, .inl (cA, 8, .inl (aN x.2.2.1))), (ra, .inr (3, [.ref al, .ref be])), (al, .inl (cA, 8, .inl (aN fal))), (be, .inl (cA, 448, .inl (aN fbe)))] := hD
  refine nn_iadd hx hb dX2_give_11 ?_
  refine lv_istore (lv' := [(4, .int (nI (co + (costN cd (fho na))))), (0, .ref sa), (1, .int (nI na)), (2, .int (nI cd)), (3, .int (nI co))]) hx hb dX2_give_12 hl (by decide) rfl (fun ls hl => ?_)
  refine lv_iload hx hb dX2_give_14 (lv_at hl 0 rfl) ?_
  refine lv_aload_n hx hb dX2_give_16 rfl (lv_at hl 1 rfl) ?_
  refine lv_iload_n hx hb dX2_give_17 rfl (lv_at hl 2 rfl) ?_
  refine lv_iload_n hx hb dX2_give_18 rfl (lv_at hl 3 rfl) ?_
  refine lv_aload_n hx hb dX2_give_19 rfl (lv_at hl 1 rfl) ?_
  refine va_get (D := D) (ci := 4) (v := .int (nI x.2.2.2.2)) (C := RX2) (T := TX2) (N := 9) hx hb hts inX2_give_X2 hown hK.1 hP 0 rfl rfl 7 (by decide) (hts _ lkX2_give_31) (fun _ h9 => h9) rfl dX2_give_20 ?_
  refine lv_iload hx hb dX2_give_23 (lv_at hl 0 rfl) ?_
  refine lv_isub hx hb dX2_give_25 ?_
  refine zz_callI (av := []) (wc := [(sa, .inr (4, [.ref ra, .ref le, .ref ho, .ref tr, .ref ke, .int (nI nm), .int (nI x.2.2.2.1), .int (nI x.2.2.2.2), .int (nI ef)])), (le, .inl (cA, 72, .inl (aN x.1))), (ho, .inl (cA, 8, .inl (aN fho))), (tr, .inl (cA, 8, .inl (aN x.2.1))), (ke, .inl (cA, 8, .inl (aN x.2.2.1))), (ra, .inr (3, [.ref al, .ref be])), (al, .inl (cA, 8, .inl (aN fal))), (be, .inl (cA, 448, .inl (aN fbe)))]) (wr := []) hS hA hP hD [0, 1, 2, 3, 4, 5, 6, 7] [] rfl rfl (by decide) (by decide) (va_runV (As := [.int (nI na), .int (nI cd), .int ((nI x.2.2.2.2) - (nI (co + (costN cd (fho na)))))]) (rest := [.int (nI (co + (costN cd (fho na))))]) ⟨hx, hb, hml, hown, hts⟩ (kX2_narrowRest l D cA H.size sa le ho tr ke ra al be x.1 fho x.2.1 x.2.2.1 fal fbe nm x.2.2.2.1 x.2.2.2.2 ef na cd x.2.2.2.2 (co + costN cd (fho na)) (by omega) (by omega) (by omega) (Nat.lt_of_le_of_lt hg.2 (by decide)) (by have := costN_le cd (fho na); omega) hho hg.1) (cwV 3 hts gX2_give_X2_narrowRest rfl rfl rfl (by decide +kernel) ⟨by show 1 + 1 ≤ 2 * d + 3; omega, by show 8 + (10 + 11) + 22 ≤ 49 * d + 55; omega⟩) ⟨(zPreS (av := [.ref sa, .int (nI na), .int (nI cd), .int ((nI x.2.2.2.2) - (nI (co + (costN cd (fho na)))))]) (wc := [(sa, .inr (4, [.ref ra, .ref le, .ref ho, .ref tr, .ref ke, .int (nI nm), .int (nI x.2.2.2.1), .int (nI x.2.2.2.2), .int (nI ef)])), (le, .inl (cA, 72, .inl (aN x.1))), (ho, .inl (cA, 8, .inl (aN fho))), (tr, .inl (cA, 8, .inl (aN x.2.1))), (ke, .inl (cA, 8, .inl (aN x.2.2.1))), (ra, .inr (3, [.ref al, .ref be])), (al, .inl (cA, 8, .inl (aN fal))), (be, .inl (cA, 448, .inl (aN fbe)))]) hK hP hD [0, 1, 2, 3, 4, 5, 6, 7] rfl (by decide) rfl).1, (va_recv hK.1 hP (ci := 4) (q0 := 0) rfl rfl), (zPreS (av := [.ref sa, .int (nI na), .int (nI cd), .int ((nI x.2.2.2.2) - (nI (co + (costN cd (fho na)))))]) (wc := [(sa, .inr (4, [.ref ra, .ref le, .ref ho, .ref tr, .ref ke, .int (nI nm), .int (nI x.2.2.2.1), .int (nI x.2.2.2.2), .int (nI ef)])), (le, .inl (cA, 72, .inl (aN x.1))), (ho, .inl (cA, 8, .inl (aN fho))), (tr, .inl (cA, 8, .inl (aN x.2.1))), (ke, .inl (cA, 8, .inl (aN x.2.2.1))), (ra, .inr (3, [.ref al, .ref be])), (al, .inl (cA, 8, .inl (aN fal))), (be, .inl (cA, 448, .inl (aN fbe)))]) hK hP hD [0, 1, 2, 3, 4, 5, 6, 7] rfl (by decide) rfl).2⟩ rfl rfl hl.1 rfl (lv_room (Nat.le_of_ble_eq_true rfl)) dX2_give_26 ⟨Nat.zero_le _, Nat.zero_le _⟩) (fun H locs hP hD hS => ?_)
  have hP : va_P D vwCl [(sa, .inr (4, [.ref ra, .ref le, .ref ho, .ref tr, .ref ke, .int (nI nm), .int (nI x.2.2.2.1), .int (nI x.2.2.2.2), .int (nI ef)])), (le, .inl (cA, 72, .inl (aN ((nrF nm fbe fho na cd x.2.2.2.2 (co + costN cd (fho na)) x.1).2)))), (ho, .inl (cA, 8, .inl (aN fho))), (tr, .inl (cA, 8, .inl (aN x.2.1))), (ke, .inl (cA, 8, .inl (aN x.2.2.1))), (ra, .inr (3, [.ref al, .ref be])), (al, .inl (cA, 8, .inl (aN fal))), (be, .inl (cA, 448, .inl (aN fbe)))] H := hP
  have hD : va_D A [(sa, .inr (4, [.ref ra, .ref le, .ref ho, .ref tr, .ref ke, .int (nI nm), .int (nI x.2.2.2.1), .int (nI x.2.2.2.2), .int (nI ef)])), (le, .inl (cA, 72, .inl (aN ((nrF nm fbe fho na cd x.2.2.2.2 (co + costN cd (fho na)) x.1).2)))), (ho, .inl (cA, 8, .inl (aN fho))), (tr, .inl (cA, 8, .inl (aN x.2.1))), (ke, .inl (cA, 8, .inl (aN x.2.2.1))), (ra, .inr (3, [.ref al, .ref be])), (al, .inl (cA, 8, .inl (aN fal))), (be, .inl (cA, 448, .inl (aN fbe)))] := hD
  refine nn_iadd hx hb dX2_give_29 ?_
  refine lv_aload_n hx hb dX2_give_30 rfl (lv_at hl 1 rfl) ?_
  refine va_get (D := D) (ci := 4) (v := .int (nI x.2.2.2.2)) (C := RX2) (T := TX2) (N := 9) hx hb hts inX2_give_X2 hown hK.1 hP 0 rfl rfl 7 (by decide) (hts _ lkX2_give_31) (fun _ h9 => h9) rfl dX2_give_31 ?_
  have hr9 : (nrF nm fbe fho na cd x.2.2.2.2 (co + costN cd (fho na)) x.1).1 ≤ 1152 := nrF_le hn
  have hc9 := costN_le cd (fho na)
  have hg2 := hg.2
  refine nn_icmp_ge (tgt := 53) hx hb dX2_give_34 (by decide) (by omega) (by omega) (fun c_34 => ?_) (fun c_34 => ?_)
  · have eW : ([(sa, .inr (4, [.ref ra, .ref le, .ref ho, .ref tr, .ref ke, .int (nI nm), .int (nI x.2.2.2.1), .int (nI x.2.2.2.2), .int (nI ef)])), (le, .inl (cA, 72, .inl (aN ((nrF nm fbe fho na cd x.2.2.2.2 (co + costN cd (fho na)) x.1).2)))), (ho, .inl (cA, 8, .inl (aN fho))), (tr, .inl (cA, 8, .inl (aN x.2.1))), (ke, .inl (cA, 8, .inl (aN x.2.2.1))), (ra, .inr (3, [.ref al, .ref be])), (al, .inl (cA, 8, .inl (aN fal))), (be, .inl (cA, 448, .inl (aN fbe)))] : va_W) = [(sa, .inr (4, [.ref ra, .ref le, .ref ho, .ref tr, .ref ke, .int (nI nm), .int (nI ((giveStep (giveFromF nm ef fbe fho d) nm fbe fho na cd co x).2.2.2.1)), .int (nI ((giveStep (giveFromF nm ef fbe fho d) nm fbe fho na cd co x).2.2.2.2)), .int (nI ef)])), (le, .inl (cA, 72, .inl (aN ((giveStep (giveFromF nm ef fbe fho d) nm fbe fho na cd co x).1)))), (ho, .inl (cA, 8, .inl (aN fho))), (tr, .inl (cA, 8, .inl (aN ((giveStep (giveFromF nm ef fbe fho d) nm fbe fho na cd co x).2.1)))), (ke, .inl (cA, 8, .inl (aN ((giveStep (giveFromF nm ef fbe fho d) nm fbe fho na cd co x).2.2.1)))), (ra, .inr (3, [.ref al, .ref be])), (al, .inl (cA, 8, .inl (aN fal))), (be, .inl (cA, 448, .inl (aN fbe)))] := by unfold giveStep; first | (rw [if_pos (by omega)]; done) | (rw [if_neg (by omega)]; done)
    rw [eW] at hP hD
    exact W.vret hx hb hr (fun t ht hW => ⟨⟨(), rfl, trivial, by rw [ht]; exact hP, hD⟩, hS.F ht⟩) hS.2.2 dX2_give_53
  · refine lv_aload_n hx hb dX2_give_37 rfl (lv_at hl 1 rfl) ?_
    refine va_get (D := D) (ci := 4) (v := .ref tr) (C := RX2) (T := TX2) (N := 9) hx hb hts inX2_give_X2 hown hK.1 hP 0 rfl rfl 3 (by decide) (hts _ lkX2_give_18) (fun _ h9 => h9) rfl dX2_give_38 ?_
    refine lv_iload_n hx hb dX2_give_41 rfl (lv_at hl 2 rfl) ?_
    refine lv_iload_n hx hb dX2_give_42 rfl (lv_at hl 3 rfl) ?_
    refine nn_ast hx hb hK hP hD hS 3 rfl (by omega) (by decide) dX2_give_43 (fun H locs hP hD hS => ?_)
    have hP : va_P D vwCl [(sa, .inr (4, [.ref ra, .ref le, .ref ho, .ref tr, .ref ke, .int (nI nm), .int (nI x.2.2.2.1), .int (nI x.2.2.2.2), .int (nI ef)])), (le, .inl (cA, 72, .inl (aN ((nrF nm fbe fho na cd x.2.2.2.2 (co + costN cd (fho na)) x.1).2)))), (ho, .inl (cA, 8, .inl (aN fho))), (tr, .inl (cA, 8, .inl (aN (va_up x.2.1 na cd)))), (ke, .inl (cA, 8, .inl (aN x.2.2.1))), (ra, .inr (3, [.ref al, .ref be])), (al, .inl (cA, 8, .inl (aN fal))), (be, .inl (cA, 448, .inl (aN fbe)))] H := hP
    have hD : va_D A [(sa, .inr (4, [.ref ra, .ref le, .ref ho, .ref tr, .ref ke, .int (nI nm), .int (nI x.2.2.2.1), .int (nI x.2.2.2.2), .int (nI ef)])), (le, .inl (cA, 72, .inl (aN ((nrF nm fbe fho na cd x.2.2.2.2 (co + costN cd (fho na)) x.1).2)))), (ho, .inl (cA, 8, .inl (aN fho))), (tr, .inl (cA, 8, .inl (aN (va_up x.2.1 na cd)))), (ke, .inl (cA, 8, .inl (aN x.2.2.1))), (ra, .inr (3, [.ref al, .ref be])), (al, .inl (cA, 8, .inl (aN fal))), (be, .inl (cA, 448, .inl (aN fbe)))] := hD
    refine lv_aload_n hx hb dX2_give_44 rfl (lv_at hl 1 rfl) ?_
    refine lv_iload_n hx hb dX2_give_45 rfl (lv_at hl 2 rfl) ?_
    refine lv_iconst (v := nI 1) hx hb dX2_give_46 (by decide) ?_
    refine nn_iadd hx hb dX2_give_47 ?_
    refine lv_iload hx hb dX2_give_48 (lv_at hl 0 rfl) ?_
    refine zz_callV (av := []) (wc := [(sa, .inr (4, [.ref ra, .ref le, .ref ho, .ref tr, .ref ke, .int (nI nm), .int (nI (((nrF nm fbe fho na cd x.2.2.2.2 (co + costN cd (fho na)) x.1).2, va_up x.2.1 na cd, x.2.2).2.2.2.1)), .int (nI (((nrF nm fbe fho na cd x.2.2.2.2 (co + costN cd (fho na)) x.1).2, va_up x.2.1 na cd, x.2.2).2.2.2.2)), .int (nI ef)])), (le, .inl (cA, 72, .inl (aN (((nrF nm fbe fho na cd x.2.2.2.2 (co + costN cd (fho na)) x.1).2, va_up x.2.1 na cd, x.2.2).1)))), (ho, .inl (cA, 8, .inl (aN fho))), (tr, .inl (cA, 8, .inl (aN (((nrF nm fbe fho na cd x.2.2.2.2 (co + costN cd (fho na)) x.1).2, va_up x.2.1 na cd, x.2.2).2.1)))), (ke, .inl (cA, 8, .inl (aN (((nrF nm fbe fho na cd x.2.2.2.2 (co + costN cd (fho na)) x.1).2, va_up x.2.1 na cd, x.2.2).2.2.1)))), (ra, .inr (3, [.ref al, .ref be])), (al, .inl (cA, 8, .inl (aN fal))), (be, .inl (cA, 448, .inl (aN fbe)))]) (wr := []) hS hA hP hD [0, 1, 2, 3, 4, 5, 6, 7] [] rfl rfl (by decide) (by decide) (va_runV (As := [.int (nI (na + 1)), .int (nI (co + (costN cd (fho na))))]) (rest := []) ⟨hx, hb, hml, hown, hts⟩ (ihg H.size (na + 1) (co + costN cd (fho na)) ((nrF nm fbe fho na cd x.2.2.2.2 (co + costN cd (fho na)) x.1).2, va_up x.2.1 na cd, x.2.2) (by omega) (by have := costN_le cd (fho na); omega) ⟨nrF_lt hg.1, hg.2⟩) (cwV 2 hts gX2_give_X2_giveFrom rfl rfl rfl (by decide +kernel) ⟨by show (2 * d + 2) + 1 ≤ 2 * d + 3; omega, by show 8 + (6 + 11) + (49 * d + 30) ≤ 49 * d + 55; omega⟩) ⟨(zPreS (av := [.ref sa, .int (nI (na + 1)), .int (nI (co + (costN cd (fho na))))]) (wc := [(sa, .inr (4, [.ref ra, .ref le, .ref ho, .ref tr, .ref ke, .int (nI nm), .int (nI (((nrF nm fbe fho na cd x.2.2.2.2 (co + costN cd (fho na)) x.1).2, va_up x.2.1 na cd, x.2.2).2.2.2.1)), .int (nI (((nrF nm fbe fho na cd x.2.2.2.2 (co + costN cd (fho na)) x.1).2, va_up x.2.1 na cd, x.2.2).2.2.2.2)), .int (nI ef)])), (le, .inl (cA, 72, .inl (aN (((nrF nm fbe fho na cd x.2.2.2.2 (co + costN cd (fho na)) x.1).2, va_up x.2.1 na cd, x.2.2).1)))), (ho, .inl (cA, 8, .inl (aN fho))), (tr, .inl (cA, 8, .inl (aN (((nrF nm fbe fho na cd x.2.2.2.2 (co + costN cd (fho na)) x.1).2, va_up x.2.1 na cd, x.2.2).2.1)))), (ke, .inl (cA, 8, .inl (aN (((nrF nm fbe fho na cd x.2.2.2.2 (co + costN cd (fho na)) x.1).2, va_up x.2.1 na cd, x.2.2).2.2.1)))), (ra, .inr (3, [.ref al, .ref be])), (al, .inl (cA, 8, .inl (aN fal))), (be, .inl (cA, 448, .inl (aN fbe)))]) hK hP hD [0, 1, 2, 3, 4, 5, 6, 7] rfl (by decide) rfl).1, (va_recv hK.1 hP (ci := 4) (q0 := 0) rfl rfl), (zPreS (av := [.ref sa, .int (nI (na + 1)), .int (nI (co + (costN cd (fho na))))]) (wc := [(sa, .inr (4, [.ref ra, .ref le, .ref ho, .ref tr, .ref ke, .int (nI nm), .int (nI (((nrF nm fbe fho na cd x.2.2.2.2 (co + costN cd (fho na)) x.1).2, va_up x.2.1 na cd, x.2.2).2.2.2.1)), .int (nI (((nrF nm fbe fho na cd x.2.2.2.2 (co + costN cd (fho na)) x.1).2, va_up x.2.1 na cd, x.2.2).2.2.2.2)), .int (nI ef)])), (le, .inl (cA, 72, .inl (aN (((nrF nm fbe fho na cd x.2.2.2.2 (co + costN cd (fho na)) x.1).2, va_up x.2.1 na cd, x.2.2).1)))), (ho, .inl (cA, 8, .inl (aN fho))), (tr, .inl (cA, 8, .inl (aN (((nrF nm fbe fho na cd x.2.2.2.2 (co + costN cd (fho na)) x.1).2, va_up x.2.1 na cd, x.2.2).2.1)))), (ke, .inl (cA, 8, .inl (aN (((nrF nm fbe fho na cd x.2.2.2.2 (co + costN cd (fho na)) x.1).2, va_up x.2.1 na cd, x.2.2).2.2.1)))), (ra, .inr (3, [.ref al, .ref be])), (al, .inl (cA, 8, .inl (aN fal))), (be, .inl (cA, 448, .inl (aN fbe)))]) hK hP hD [0, 1, 2, 3, 4, 5, 6, 7] rfl (by decide) rfl).2⟩ rfl rfl hl.1 rfl (lv_room (Nat.le_of_ble_eq_true rfl)) dX2_give_50 ⟨Nat.zero_le _, Nat.zero_le _⟩) (fun H locs hP hD hS => ?_)
    have hP : va_P D vwCl [(sa, .inr (4, [.ref ra, .ref le, .ref ho, .ref tr, .ref ke, .int (nI nm), .int (nI ((giveFromF nm ef fbe fho d (na + 1) (co + (costN cd (fho na))) ((nrF nm fbe fho na cd x.2.2.2.2 (co + costN cd (fho na)) x.1).2, va_up x.2.1 na cd, x.2.2)).2.2.2.1)), .int (nI ((giveFromF nm ef fbe fho d (na + 1) (co + (costN cd (fho na))) ((nrF nm fbe fho na cd x.2.2.2.2 (co + costN cd (fho na)) x.1).2, va_up x.2.1 na cd, x.2.2)).2.2.2.2)), .int (nI ef)])), (le, .inl (cA, 72, .inl (aN ((giveFromF nm ef fbe fho d (na + 1) (co + (costN cd (fho na))) ((nrF nm fbe fho na cd x.2.2.2.2 (co + costN cd (fho na)) x.1).2, va_up x.2.1 na cd, x.2.2)).1)))), (ho, .inl (cA, 8, .inl (aN fho))), (tr, .inl (cA, 8, .inl (aN ((giveFromF nm ef fbe fho d (na + 1) (co + (costN cd (fho na))) ((nrF nm fbe fho na cd x.2.2.2.2 (co + costN cd (fho na)) x.1).2, va_up x.2.1 na cd, x.2.2)).2.1)))), (ke, .inl (cA, 8, .inl (aN ((giveFromF nm ef fbe fho d (na + 1) (co + (costN cd (fho na))) ((nrF nm fbe fho na cd x.2.2.2.2 (co + costN cd (fho na)) x.1).2, va_up x.2.1 na cd, x.2.2)).2.2.1)))), (ra, .inr (3, [.ref al, .ref be])), (al, .inl (cA, 8, .inl (aN fal))), (be, .inl (cA, 448, .inl (aN fbe)))] H := hP
    have hD : va_D A [(sa, .inr (4, [.ref ra, .ref le, .ref ho, .ref tr, .ref ke, .int (nI nm), .int (nI ((giveFromF nm ef fbe fho d (na + 1) (co + (costN cd (fho na))) ((nrF nm fbe fho na cd x.2.2.2.2 (co + costN cd (fho na)) x.1).2, va_up x.2.1 na cd, x.2.2)).2.2.2.1)), .int (nI ((giveFromF nm ef fbe fho d (na + 1) (co + (costN cd (fho na))) ((nrF nm fbe fho na cd x.2.2.2.2 (co + costN cd (fho na)) x.1).2, va_up x.2.1 na cd, x.2.2)).2.2.2.2)), .int (nI ef)])), (le, .inl (cA, 72, .inl (aN ((giveFromF nm ef fbe fho d (na + 1) (co + (costN cd (fho na))) ((nrF nm fbe fho na cd x.2.2.2.2 (co + costN cd (fho na)) x.1).2, va_up x.2.1 na cd, x.2.2)).1)))), (ho, .inl (cA, 8, .inl (aN fho))), (tr, .inl (cA, 8, .inl (aN ((giveFromF nm ef fbe fho d (na + 1) (co + (costN cd (fho na))) ((nrF nm fbe fho na cd x.2.2.2.2 (co + costN cd (fho na)) x.1).2, va_up x.2.1 na cd, x.2.2)).2.1)))), (ke, .inl (cA, 8, .inl (aN ((giveFromF nm ef fbe fho d (na + 1) (co + (costN cd (fho na))) ((nrF nm fbe fho na cd x.2.2.2.2 (co + costN cd (fho na)) x.1).2, va_up x.2.1 na cd, x.2.2)).2.2.1)))), (ra, .inr (3, [.ref al, .ref be])), (al, .inl (cA, 8, .inl (aN fal))), (be, .inl (cA, 448, .inl (aN fbe)))] := hD
    have eW : ([(sa, .inr (4, [.ref ra, .ref le, .ref ho, .ref tr, .ref ke, .int (nI nm), .int (nI ((giveFromF nm ef fbe fho d (na + 1) (co + (costN cd (fho na))) ((nrF nm fbe fho na cd x.2.2.2.2 (co + costN cd (fho na)) x.1).2, va_up x.2.1 na cd, x.2.2)).2.2.2.1)), .int (nI ((giveFromF nm ef fbe fho d (na + 1) (co + (costN cd (fho na))) ((nrF nm fbe fho na cd x.2.2.2.2 (co + costN cd (fho na)) x.1).2, va_up x.2.1 na cd, x.2.2)).2.2.2.2)), .int (nI ef)])), (le, .inl (cA, 72, .inl (aN ((giveFromF nm ef fbe fho d (na + 1) (co + (costN cd (fho na))) ((nrF nm fbe fho na cd x.2.2.2.2 (co + costN cd (fho na)) x.1).2, va_up x.2.1 na cd, x.2.2)).1)))), (ho, .inl (cA, 8, .inl (aN fho))), (tr, .inl (cA, 8, .inl (aN ((giveFromF nm ef fbe fho d (na + 1) (co + (costN cd (fho na))) ((nrF nm fbe fho na cd x.2.2.2.2 (co + costN cd (fho na)) x.1).2, va_up x.2.1 na cd, x.2.2)).2.1)))), (ke, .inl (cA, 8, .inl (aN ((giveFromF nm ef fbe fho d (na + 1) (co + (costN cd (fho na))) ((nrF nm fbe fho na cd x.2.2.2.2 (co + costN cd (fho na)) x.1).2, va_up x.2.1 na cd, x.2.2)).2.2.1)))), (ra, .inr (3, [.ref al, .ref be])), (al, .inl (cA, 8, .inl (aN fal))), (be, .inl (cA, 448, .inl (aN fbe)))] : va_W) = [(sa, .inr (4, [.ref ra, .ref le, .ref ho, .ref tr, .ref ke, .int (nI nm), .int (nI ((giveStep (giveFromF nm ef fbe fho d) nm fbe fho na cd co x).2.2.2.1)), .int (nI ((giveStep (giveFromF nm ef fbe fho d) nm fbe fho na cd co x).2.2.2.2)), .int (nI ef)])), (le, .inl (cA, 72, .inl (aN ((giveStep (giveFromF nm ef fbe fho d) nm fbe fho na cd co x).1)))), (ho, .inl (cA, 8, .inl (aN fho))), (tr, .inl (cA, 8, .inl (aN ((giveStep (giveFromF nm ef fbe fho d) nm fbe fho na cd co x).2.1)))), (ke, .inl (cA, 8, .inl (aN ((giveStep (giveFromF nm ef fbe fho d) nm fbe fho na cd co x).2.2.1)))), (ra, .inr (3, [.ref al, .ref be])), (al, .inl (cA, 8, .inl (aN fal))), (be, .inl (cA, 448, .inl (aN fbe)))] := by unfold giveStep; first | (rw [if_pos (by omega)]; done) | (rw [if_neg (by omega)]; done)
    rw [eW] at hP hD
    exact W.vret hx hb hr (fun t ht hW => ⟨⟨(), rfl, trivial, by rw [ht]; exact hP, hD⟩, hS.F ht⟩) hS.2.2 dX2_give_53

set_option maxHeartbeats 4000000 in
set_option maxRecDepth 100000 in
theorem bX2_gf {p : Program} {l : Launch} {e : Env} {R : Room} {s : State} {m : MethodId} {args : Array Value} {below : List Frame} {meth : Method} {c : Code} {Q : State → Prop} {A : Nat → Prop} {H0 : Heap} {D : va_G} {cA : ClassId} (hx : p.tables.exec = Jvm.exec) (hb : c.code = cX2_giveFrom) (hml : c.maxLocals = 6) (hown : s.vm.findClass RX2 = some m.cls) (hts : ∀ w ∈ wsX2_giveFrom, w.before args s = true) (hK : zK D cA s) (hA : ∀ q, H0.size ≤ q → A q) (sa : Nat) (le : Nat) (ho : Nat) (tr : Nat) (ke : Nat) (ra : Nat) (al : Nat) (be : Nat) (fho : Nat → Nat) (fal : Nat → Nat) (fbe : Nat → Nat) (nm : Nat) (ef : Nat) (hn : nm ≤ 8) (hho : ∀ j, fho j < 32) (he : ef < 2) (d : Nat) (ihg : ∀ (sz na co : Nat) (x : Sg), na + d = nm → co ≤ 17 * na → GInv x → zMv l yX2_giveFrom wsX2_giveFrom ({ frames := 2 * d + 2, cells := 0, slots := 0, locals := 49 * d + 30 }) D cA [.ref sa, .int (nI na), .int (nI co)] sz [(sa, .inr (4, [.ref ra, .ref le, .ref ho, .ref tr, .ref ke, .int (nI nm), .int (nI x.2.2.2.1), .int (nI x.2.2.2.2), .int (nI ef)])), (le, .inl (cA, 72, .inl (aN x.1))), (ho, .inl (cA, 8, .inl (aN fho))), (tr, .inl (cA, 8, .inl (aN x.2.1))), (ke, .inl (cA, 8, .inl (aN x.2.2.1))), (ra, .inr (3, [.ref al, .ref be])), (al, .inl (cA, 8, .inl (aN fal))), (be, .inl (cA, 448, .inl (aN fbe)))] [(sa, .inr (4, [.ref ra, .ref le, .ref ho, .ref tr, .ref ke, .int (nI nm), .int (nI ((giveFromF nm ef fbe fho d na co x).2.2.2.1)), .int (nI ((giveFromF nm ef fbe fho d na co x).2.2.2.2)), .int (nI ef)])), (le, .inl (cA, 72, .inl (aN ((giveFromF nm ef fbe fho d na co x).1)))), (ho, .inl (cA, 8, .inl (aN fho))), (tr, .inl (cA, 8, .inl (aN ((giveFromF nm ef fbe fho d na co x).2.1)))), (ke, .inl (cA, 8, .inl (aN ((giveFromF nm ef fbe fho d na co x).2.2.1)))), (ra, .inr (3, [.ref al, .ref be])), (al, .inl (cA, 8, .inl (aN fal))), (be, .inl (cA, 448, .inl (aN fbe)))]) (na : Nat) (co : Nat) (cs : Nat) (fi : Nat) (hna : na + (d + 1) = nm) (hco : co ≤ 17 * na) (hcs : cs < 128) (hfi : fi < 32) (hRf : 2 * d + 4 ≤ R.frames) (hRl : 49 * d + 79 ≤ R.locals)  : ∀ (k : Nat) (x : Sg), (k ≤ 7) → (GInv x) → ∀ (H : Heap) (locs : List Loc) (ls : Array Slot), va_P D vwCl [(sa, .inr (4, [.ref ra, .ref le, .ref ho, .ref tr, .ref ke, .int (nI nm), .int (nI x.2.2.2.1), .int (nI x.2.2.2.2), .int (nI ef)])), (le, .inl (cA, 72, .inl (aN x.1))), (ho, .inl (cA, 8, .inl (aN fho))), (tr, .inl (cA, 8, .inl (aN x.2.1))), (ke, .inl (cA, 8, .inl (aN x.2.2.1))), (ra, .inr (3, [.ref al, .ref be])), (al, .inl (cA, 8, .inl (aN fal))), (be, .inl (cA, 448, .inl (aN fbe)))] H → va_D A [(sa, .inr (4, [.ref ra, .ref le, .ref ho, .ref tr, .ref ke, .int (nI nm), .int (nI x.2.2.2.1), .int (nI x.2.2.2.2), .int (nI ef)])), (le, .inl (cA, 72, .inl (aN x.1))), (ho, .inl (cA, 8, .inl (aN fho))), (tr, .inl (cA, 8, .inl (aN x.2.1))), (ke, .inl (cA, 8, .inl (aN x.2.2.1))), (ra, .inr (3, [.ref al, .ref be])), (al, .inl (cA, 8, .inl (aN fal))), (be, .inl (cA, 448, .inl (aN fbe)))] → va_S A H0 H locs → lv_has ls 6 [(0, .ref sa), (1, .int (nI na)), (2, .int (nI co)), (3, .int (nI cs)), (4, .int (nI fi)), (5, .int (mI k))] → (∀ (H : Heap) (locs : List Loc) (ls : Array Slot), va_P D vwCl [(sa, .inr (4, [.ref ra, .ref le, .ref ho, .ref tr, .ref ke, .int (nI nm), .int (nI ((gfLoop (fun cd y => giveStep (giveFromF nm ef fbe fho d) nm fbe fho na cd co y) cs fi k x).2.2.2.1)), .int (nI ((gfLoop (fun cd y => giveStep (giveFromF nm ef fbe fho d) nm fbe fho na cd co y) cs fi k x).2.2.2.2)), .int (nI ef)])), (le, .inl (cA, 72, .inl (aN ((gfLoop (fun cd y => giveStep (giveFromF nm ef fbe fho d) nm fbe fho na cd co y) cs fi k x).1)))), (ho, .inl (cA, 8, .inl (aN fho))), (tr, .inl (cA, 8, .inl (aN ((gfLoop (fun cd y => giveStep (giveFromF nm ef fbe fho d) nm fbe fho na cd co y) cs fi k x).2.1)))), (ke, .inl (cA, 8, .inl (aN ((gfLoop (fun cd y => giveStep (giveFromF nm ef fbe fho d) nm fbe fho na cd co y) cs fi k x).2.2.1)))), (ra, .inr (3, [.ref al, .ref be])), (al, .inl (cA, 8, .inl (aN fal))), (be, .inl (cA, 448, .inl (aN fbe)))] H → va_D A [(sa, .inr (4, [.ref ra, .ref le, .ref ho, .ref tr, .ref ke, .int (nI nm), .int (nI ((gfLoop (fun cd y => giveStep (giveFromF nm ef fbe fho d) nm fbe fho na cd co y) cs fi k x).2.2.2.1)), .int (nI ((gfLoop (fun cd y => giveStep (giveFromF nm ef fbe fho d) nm fbe fho na cd co y) cs fi k x).2.2.2.2)), .int (nI ef)])), (le, .inl (cA, 72, .inl (aN ((gfLoop (fun cd y => giveStep (giveFromF nm ef fbe fho d) nm fbe fho na cd co y) cs fi k x).1)))), (ho, .inl (cA, 8, .inl (aN fho))), (tr, .inl (cA, 8, .inl (aN ((gfLoop (fun cd y => giveStep (giveFromF nm ef fbe fho d) nm fbe fho na cd co y) cs fi k x).2.1)))), (ke, .inl (cA, 8, .inl (aN ((gfLoop (fun cd y => giveStep (giveFromF nm ef fbe fho d) nm fbe fho na cd co y) cs fi k x).2.2.1)))), (ra, .inr (3, [.ref al, .ref be])), (al, .inl (cA, 8, .inl (aN fal))), (be, .inl (cA, 448, .inl (aN fbe)))] → va_S A H0 H locs → lv_has ls 6 [(0, .ref sa)] → W p l e R s m args below meth c H locs 0 0 Q (F0 m 90 ls [])) → W p l e R s m args below meth c H locs 0 0 Q (F0 m 55 ls []) := by
  intro k
  induction k with
  | zero =>
    intro x hk hg H locs ls hP hD hS hl kk
    refine lv_iload hx hb dX2_giveFrom_55 (lv_at hl 5 rfl) ?_
    refine mz_if_lt (tgt := 90) hx hb dX2_giveFrom_57 (by decide) (by omega) (fun c_57 => ?_) (fun c_57 => ?_)
    · exact kk _ _ _ hP hD hS (lv_sub hl [0] rfl)
    · exfalso; omega
  | succ k ih =>
    intro x hk hg H locs ls hP hD hS hl kk
    refine lv_iload hx hb dX2_giveFrom_55 (lv_at hl 5 rfl) ?_
    refine mz_if_lt (tgt := 90) hx hb dX2_giveFrom_57 (by decide) (by omega) (fun c_57 => ?_) (fun c_57 => ?_)
    · exfalso; omega
    · have hl : lv_has ls 6 [(0, .ref sa), (1, .int (nI na)), (2, .int (nI co)), (3, .int (nI cs)), (4, .int (nI fi)), (5, .int (nI k))] := by rw [mI_succ k] at hl; exact hl
      refine lv_iload hx hb dX2_giveFrom_60 (lv_at hl 5 rfl) ?_
      refine lv_iload hx hb dX2_giveFrom_62 (lv_at hl 4 rfl) ?_
      refine nn_icmp_eq (tgt := 84) hx hb dX2_giveFrom_64 (by decide) (by omega) (by omega) (fun c_64 => ?_) (fun c_64 => ?_)
      · refine lv_iinc (v := (mI k)) (lv' := [(5, .int (mI k)), (0, .ref sa), (1, .int (nI na)), (2, .int (nI co)), (3, .int (nI cs)), (4, .int (nI fi))]) hx hb dX2_giveFrom_84 hl (k := 5) rfl (nI_decm k) (by decide) rfl (fun ls hl => ?_)
        refine lv_goto (tgt := 55) hx hb dX2_giveFrom_87 (by decide) ?_
        have eL : gfLoop (fun cd y => giveStep (giveFromF nm ef fbe fho d) nm fbe fho na cd co y) cs fi (k + 1) x = gfLoop (fun cd y => giveStep (giveFromF nm ef fbe fho d) nm fbe fho na cd co y) cs fi k x := by rw [gfLoop]; first | (rw [if_pos c_64]; done) | (rw [if_neg c_64, if_pos c_73]; done) | (rw [if_neg c_64, if_neg c_73]; done)
        rw [eL] at kk
        exact ih x (by omega) hg _ _ _ hP hD hS (lv_sub hl [1, 2, 3, 4, 5, 0] rfl) kk
      · refine lv_iload_n hx hb dX2_giveFrom_67 rfl (lv_at hl 3 rfl) ?_
        refine lv_iload hx hb dX2_giveFrom_68 (lv_at hl 5 rfl) ?_
        refine nn_ishr hx hb (by omega) (by omega) dX2_giveFrom_70 ?_
        refine lv_iconst (v := nI 1) hx hb dX2_giveFrom_71 (by decide) ?_
        refine nn_iand hx hb dX2_giveFrom_72 ?_
        refine nn_if_eq (tgt := 84) hx hb dX2_giveFrom_73 (by decide) (and1_lt _) (fun c_73 => ?_) (fun c_73 => ?_)
        · refine lv_iinc (v := (mI k)) (lv' := [(5, .int (mI k)), (0, .ref sa), (1, .int (nI na)), (2, .int (nI co)), (3, .int (nI cs)), (4, .int (nI fi))]) hx hb dX2_giveFrom_84 hl (k := 5) rfl (nI_decm k) (by decide) rfl (fun ls hl => ?_)
          refine lv_goto (tgt := 55) hx hb dX2_giveFrom_87 (by decide) ?_
          have eL : gfLoop (fun cd y => giveStep (giveFromF nm ef fbe fho d) nm fbe fho na cd co y) cs fi (k + 1) x = gfLoop (fun cd y => giveStep (giveFromF nm ef fbe fho d) nm fbe fho na cd co y) cs fi k x := by rw [gfLoop]; first | (rw [if_pos c_64]; done) | (rw [if_neg c_64, if_pos c_73]; done) | (rw [if_neg c_64, if_neg c_73]; done)
          rw [eL] at kk
          exact ih x (by omega) hg _ _ _ hP hD hS (lv_sub hl [1, 2, 3, 4, 5, 0] rfl) kk
        · refine lv_aload_n hx hb dX2_giveFrom_76 rfl (lv_at hl 0 rfl) ?_
          refine lv_iload_n hx hb dX2_giveFrom_77 rfl (lv_at hl 1 rfl) ?_
          refine lv_iload hx hb dX2_giveFrom_78 (lv_at hl 5 rfl) ?_
          refine lv_iload_n hx hb dX2_giveFrom_80 rfl (lv_at hl 2 rfl) ?_
          refine zz_callV (av := []) (wc := [(sa, .inr (4, [.ref ra, .ref le, .ref ho, .ref tr, .ref ke, .int (nI nm), .int (nI x.2.2.2.1), .int (nI x.2.2.2.2), .int (nI ef)])), (le, .inl (cA, 72, .inl (aN x.1))), (ho, .inl (cA, 8, .inl (aN fho))), (tr, .inl (cA, 8, .inl (aN x.2.1))), (ke, .inl (cA, 8, .inl (aN x.2.2.1))), (ra, .inr (3, [.ref al, .ref be])), (al, .inl (cA, 8, .inl (aN fal))), (be, .inl (cA, 448, .inl (aN fbe)))]) (wr := []) hS hA hP hD [0, 1, 2, 3, 4, 5, 6, 7] [] rfl rfl (by decide) (by decide) (va_runV (As := [.int (nI na), .int (nI k), .int (nI co)]) (rest := []) ⟨hx, hb, hml, hown, hts⟩ (kX2_give l D cA H.size sa le ho tr ke ra al be fho fal fbe nm ef d na k co x (by omega) hho (by omega) ihg (by omega) (by omega) (by omega) hg) (cwV 3 hts gX2_giveFrom_X2_give rfl rfl rfl (by decide +kernel) ⟨Nat.le_trans (by show (2 * d + 3) + 1 ≤ 2 * d + 4; omega) hRf, Nat.le_trans (by show 8 + (5 + 11) + (49 * d + 55) ≤ 49 * d + 79; omega) hRl⟩) ⟨(zPreS (av := [.ref sa, .int (nI na), .int (nI k), .int (nI co)]) (wc := [(sa, .inr (4, [.ref ra, .ref le, .ref ho, .ref tr, .ref ke, .int (nI nm), .int (nI x.2.2.2.1), .int (nI x.2.2.2.2), .int (nI ef)])), (le, .inl (cA, 72, .inl (aN x.1))), (ho, .inl (cA, 8, .inl (aN fho))), (tr, .inl (cA, 8, .inl (aN x.2.1))), (ke, .inl (cA, 8, .inl (aN x.2.2.1))), (ra, .inr (3, [.ref al, .ref be])), (al, .inl (cA, 8, .inl (aN fal))), (be, .inl (cA, 448, .inl (aN fbe)))]) hK hP hD [0, 1, 2, 3, 4, 5, 6, 7] rfl (by decide) rfl).1, (va_recv hK.1 hP (ci := 4) (q0 := 0) rfl rfl), (zPreS (av := [.ref sa, .int (nI na), .int (nI k), .int (nI co)]) (wc := [(sa, .inr (4, [.ref ra, .ref le, .ref ho, .ref tr, .ref ke, .int (nI nm), .int (nI x.2.2.2.1), .int (nI x.2.2.2.2), .int (nI ef)])), (le, .inl (cA, 72, .inl (aN x.1))), (ho, .inl (cA, 8, .inl (aN fho))), (tr, .inl (cA, 8, .inl (aN x.2.1))), (ke, .inl (cA, 8, .inl (aN x.2.2.1))), (ra, .inr (3, [.ref al, .ref be])), (al, .inl (cA, 8, .inl (aN fal))), (be, .inl (cA, 448, .inl (aN fbe)))]) hK hP hD [0, 1, 2, 3, 4, 5, 6, 7] rfl (by decide) rfl).2⟩ rfl rfl hl.1 rfl (lv_room (Nat.le_of_ble_eq_true rfl)) dX2_giveFrom_81 ⟨Nat.zero_le _, Nat.zero_le _⟩) (fun H locs hP hD hS => ?_)
          have hP : va_P D vwCl [(sa, .inr (4, [.ref ra, .ref le, .ref ho, .ref tr, .ref ke, .int (nI nm), .int (nI ((giveStep (giveFromF nm ef fbe fho d) nm fbe fho na k co x).2.2.2.1)), .int (nI ((giveStep (giveFromF nm ef fbe fho d) nm fbe fho na k co x).2.2.2.2)), .int (nI ef)])), (le, .inl (cA, 72, .inl (aN ((giveStep (giveFromF nm ef fbe fho d) nm fbe fho na k co x).1)))), (ho, .inl (cA, 8, .inl (aN fho))), (tr, .inl (cA, 8, .inl (aN ((giveStep (giveFromF nm ef fbe fho d) nm fbe fho na k co x).2.1)))), (ke, .inl (cA, 8, .inl (aN ((giveStep (giveFromF nm ef fbe fho d) nm fbe fho na k co x).2.2.1)))), (ra, .inr (3, [.ref al, .ref be])), (al, .inl (cA, 8, .inl (aN fal))), (be, .inl (cA, 448, .inl (aN fbe)))] H := hP
          have hD : va_D A [(sa, .inr (4, [.ref ra, .ref le, .ref ho, .ref tr, .ref ke, .int (nI nm), .int (nI ((giveStep (giveFromF nm ef fbe fho d) nm fbe fho na k co x).2.2.2.1)), .int (nI ((giveStep (giveFromF nm ef fbe fho d) nm fbe fho na k co x).2.2.2.2)), .int (nI ef)])), (le, .inl (cA, 72, .inl (aN ((giveStep (giveFromF nm ef fbe fho d) nm fbe fho na k co x).1)))), (ho, .inl (cA, 8, .inl (aN fho))), (tr, .inl (cA, 8, .inl (aN ((giveStep (giveFromF nm ef fbe fho d) nm fbe fho na k co x).2.1)))), (ke, .inl (cA, 8, .inl (aN ((giveStep (giveFromF nm ef fbe fho d) nm fbe fho na k co x).2.2.1)))), (ra, .inr (3, [.ref al, .ref be])), (al, .inl (cA, 8, .inl (aN fal))), (be, .inl (cA, 448, .inl (aN fbe)))] := hD
          refine lv_iinc (v := (mI k)) (lv' := [(5, .int (mI k)), (0, .ref sa), (1, .int (nI na)), (2, .int (nI co)), (3, .int (nI cs)), (4, .int (nI fi))]) hx hb dX2_giveFrom_84 hl (k := 5) rfl (nI_decm k) (by decide) rfl (fun ls hl => ?_)
          refine lv_goto (tgt := 55) hx hb dX2_giveFrom_87 (by decide) ?_
          have eL : gfLoop (fun cd y => giveStep (giveFromF nm ef fbe fho d) nm fbe fho na cd co y) cs fi (k + 1) x = gfLoop (fun cd y => giveStep (giveFromF nm ef fbe fho d) nm fbe fho na cd co y) cs fi k (giveStep (giveFromF nm ef fbe fho d) nm fbe fho na k co x) := by rw [gfLoop]; first | (rw [if_pos c_64]; done) | (rw [if_neg c_64, if_pos c_73]; done) | (rw [if_neg c_64, if_neg c_73]; done)
          rw [eL] at kk
          exact ih (giveStep (giveFromF nm ef fbe fho d) nm fbe fho na k co x) (by omega) (giveStep_inv (fun co' z h1 h2 => giveFromF_inv d _ _ _ h1 (by omega) h2) hco hg) _ _ _ hP hD hS (lv_sub hl [1, 2, 3, 4, 5, 0] rfl) kk

theorem lkX2_giveFrom_24 : Cond.fieldLink RX2 24 "LeastChange$Search" "names" "I" ∈ wsX2_giveFrom := by decide +kernel
theorem inX2_giveFrom_X2 : ∀ w ∈ wsX20, w ∈ wsX2_giveFrom := by decide +kernel
theorem lkX2_giveFrom_11 : Cond.fieldLink RX2 11 "LeastChange$Search" "left" "[I" ∈ wsX2_giveFrom := by decide +kernel
theorem lkX2_giveFrom_15 : Cond.fieldLink RX2 15 "LeastChange$Search" "home" "[I" ∈ wsX2_giveFrom := by decide +kernel
set_option maxHeartbeats 4000000 in
set_option maxRecDepth 100000 in
theorem kX2_gf (l : Launch) (D : va_G) (cA : ClassId) (sa : Nat) (le : Nat) (ho : Nat) (tr : Nat) (ke : Nat) (ra : Nat) (al : Nat) (be : Nat) (fho : Nat → Nat) (fal : Nat → Nat) (fbe : Nat → Nat) (nm : Nat) (ef : Nat) (hn : nm ≤ 8) (hho : ∀ j, fho j < 32) (he : ef < 2) : ∀ (d : Nat), ∀ (sz na co : Nat) (x : Sg), na + d = nm → co ≤ 17 * na → GInv x → zMv l yX2_giveFrom wsX2_giveFrom ({ frames := 2 * d + 2, cells := 0, slots := 0, locals := 49 * d + 30 }) D cA [.ref sa, .int (nI na), .int (nI co)] sz [(sa, .inr (4, [.ref ra, .ref le, .ref ho, .ref tr, .ref ke, .int (nI nm), .int (nI x.2.2.2.1), .int (nI x.2.2.2.2), .int (nI ef)])), (le, .inl (cA, 72, .inl (aN x.1))), (ho, .inl (cA, 8, .inl (aN fho))), (tr, .inl (cA, 8, .inl (aN x.2.1))), (ke, .inl (cA, 8, .inl (aN x.2.2.1))), (ra, .inr (3, [.ref al, .ref be])), (al, .inl (cA, 8, .inl (aN fal))), (be, .inl (cA, 448, .inl (aN fbe)))] [(sa, .inr (4, [.ref ra, .ref le, .ref ho, .ref tr, .ref ke, .int (nI nm), .int (nI ((giveFromF nm ef fbe fho d na co x).2.2.2.1)), .int (nI ((giveFromF nm ef fbe fho d na co x).2.2.2.2)), .int (nI ef)])), (le, .inl (cA, 72, .inl (aN ((giveFromF nm ef fbe fho d na co x).1)))), (ho, .inl (cA, 8, .inl (aN fho))), (tr, .inl (cA, 8, .inl (aN ((giveFromF nm ef fbe fho d na co x).2.1)))), (ke, .inl (cA, 8, .inl (aN ((giveFromF nm ef fbe fho d na co x).2.2.1)))), (ra, .inr (3, [.ref al, .ref be])), (al, .inl (cA, 8, .inl (aN fal))), (be, .inl (cA, 448, .inl (aN fbe)))] := by
  intro d
  induction d with
  | zero =>
    intro sz na co x hna hco hg
    refine Met.ofW (cc := cX2_giveFrom) (maxL := 6) (ret := none) (by decide) rfl ?_
    intro p e s m args below meth c s₁ B hml hv
    obtain ⟨rfl, hsz, hP, hK, hD0⟩ := hv
    have hx := B.exec
    have hb := B.bytes
    have hr := B.returns
    have hts := atoms_spec (ws := wsX2_giveFrom) B.pre
    have hown : s.vm.findClass RX2 = some m.cls := findClass_of_methodNamed B.named
    have hlocks := B.notSynchronized
    subst hsz
    have hD := hD0.self (sz := s.heap.size)
    generalize hAe : va_A [(sa, .inr (4, [.ref ra, .ref le, .ref ho, .ref tr, .ref ke, .int (nI nm), .int (nI x.2.2.2.1), .int (nI x.2.2.2.2), .int (nI ef)])), (le, .inl (cA, 72, .inl (aN x.1))), (ho, .inl (cA, 8, .inl (aN fho))), (tr, .inl (cA, 8, .inl (aN x.2.1))), (ke, .inl (cA, 8, .inl (aN x.2.2.1))), (ra, .inr (3, [.ref al, .ref be])), (al, .inl (cA, 8, .inl (aN fal))), (be, .inl (cA, 448, .inl (aN fbe)))] s.heap.size = A at hD ⊢
    have hA : ∀ q : Nat, s.heap.size ≤ q → A q := fun q h => by rw [← hAe]; exact Or.inr h
    have hS : va_S A s.heap s.heap [] := va_S.rf
    have hP : va_P D vwCl [(sa, .inr (4, [.ref ra, .ref le, .ref ho, .ref tr, .ref ke, .int (nI nm), .int (nI x.2.2.2.1), .int (nI x.2.2.2.2), .int (nI ef)])), (le, .inl (cA, 72, .inl (aN x.1))), (ho, .inl (cA, 8, .inl (aN fho))), (tr, .inl (cA, 8, .inl (aN x.2.1))), (ke, .inl (cA, 8, .inl (aN x.2.2.1))), (ra, .inr (3, [.ref al, .ref be])), (al, .inl (cA, 8, .inl (aN fal))), (be, .inl (cA, 448, .inl (aN fbe)))] s.heap := hP
    have hl := lv_entry ([.ref sa, .int (nI na), .int (nI co)]) (n := 6) (Nat.le_of_ble_eq_true rfl)
    rw [lg_entry_eq]
    generalize (lg_sl ([.ref sa, .int (nI na), .int (nI co)]) ++ List.replicate (6 - (lg_sl ([.ref sa, .int (nI na), .int (nI co)])).length) Slot.unset).toArray = ls at hl ⊢
    have hl : lv_has ls 6 [(0, .ref sa), (1, .int (nI na)), (2, .int (nI co))] := hl
    refine lv_iload_n hx hb dX2_giveFrom_0 rfl (lv_at hl 1 rfl) ?_
    refine lv_aload_n hx hb dX2_giveFrom_1 rfl (lv_at hl 0 rfl) ?_
    refine va_get (D := D) (ci := 4) (v := .int (nI nm)) (C := RX2) (T := TX2) (N := 9) hx hb hts inX2_giveFrom_X2 hown hK.1 hP 0 rfl rfl 5 (by decide) (hts _ lkX2_giveFrom_24) (fun _ h9 => h9) rfl dX2_giveFrom_2 ?_
    refine nn_icmp_lt (tgt := 14) hx hb dX2_giveFrom_5 (by decide) (by omega) (by omega) (fun c_5 => ?_) (fun c_5 => ?_)
    · exfalso; omega
    · refine lv_aload_n hx hb dX2_giveFrom_8 rfl (lv_at hl 0 rfl) ?_
      refine lv_iload_n hx hb dX2_giveFrom_9 rfl (lv_at hl 2 rfl) ?_
      refine zz_callV (av := []) (wc := [(sa, .inr (4, [.ref ra, .ref le, .ref ho, .ref tr, .ref ke, .int (nI nm), .int (nI x.2.2.2.1), .int (nI x.2.2.2.2), .int (nI ef)])), (tr, .inl (cA, 8, .inl (aN x.2.1))), (ke, .inl (cA, 8, .inl (aN x.2.2.1)))]) (wr := [(le, .inl (cA, 72, .inl (aN x.1))), (ho, .inl (cA, 8, .inl (aN fho))), (ra, .inr (3, [.ref al, .ref be])), (al, .inl (cA, 8, .inl (aN fal))), (be, .inl (cA, 448, .inl (aN fbe)))]) hS hA hP hD [0, 3, 4] [1, 2, 5, 6, 7] rfl rfl (by decide) (by decide) (va_runV (As := [.int (nI co)]) (rest := []) ⟨hx, hb, hml, hown, hts⟩ (kX2_keep l D cA s.heap.size sa le ho tr ke ra x.2.1 x.2.2.1 nm x.2.2.2.1 x.2.2.2.2 ef co hn he) (cwV 1 hts gX2_giveFrom_X2_keep rfl rfl rfl (by decide +kernel) ⟨Nat.le_of_ble_eq_true rfl, Nat.le_of_ble_eq_true rfl⟩) ⟨(zPreS (av := [.ref sa, .int (nI co)]) (wc := [(sa, .inr (4, [.ref ra, .ref le, .ref ho, .ref tr, .ref ke, .int (nI nm), .int (nI x.2.2.2.1), .int (nI x.2.2.2.2), .int (nI ef)])), (tr, .inl (cA, 8, .inl (aN x.2.1))), (ke, .inl (cA, 8, .inl (aN x.2.2.1)))]) hK hP hD [0, 3, 4] rfl (by decide) rfl).1, (va_recv hK.1 hP (ci := 4) (q0 := 0) rfl rfl), (zPreS (av := [.ref sa, .int (nI co)]) (wc := [(sa, .inr (4, [.ref ra, .ref le, .ref ho, .ref tr, .ref ke, .int (nI nm), .int (nI x.2.2.2.1), .int (nI x.2.2.2.2), .int (nI ef)])), (tr, .inl (cA, 8, .inl (aN x.2.1))), (ke, .inl (cA, 8, .inl (aN x.2.2.1)))]) hK hP hD [0, 3, 4] rfl (by decide) rfl).2⟩ rfl rfl hl.1 rfl (lv_room (Nat.le_of_ble_eq_true rfl)) dX2_giveFrom_10 ⟨Nat.zero_le _, Nat.zero_le _⟩) (fun H locs hP hD hS => ?_)
      have hP : va_P D vwCl [(le, .inl (cA, 72, .inl (aN x.1))), (ho, .inl (cA, 8, .inl (aN fho))), (ra, .inr (3, [.ref al, .ref be])), (al, .inl (cA, 8, .inl (aN fal))), (be, .inl (cA, 448, .inl (aN fbe))), (sa, .inr (4, [.ref ra, .ref le, .ref ho, .ref tr, .ref ke, .int (nI nm), .int (nI co), .int (nI (if ef = 0 then co else 0)), .int (nI ef)])), (tr, .inl (cA, 8, .inl (aN x.2.1))), (ke, .inl (cA, 8, .inl (aN (zlp (kpBody x.2.1) nm 0 x.2.2.1))))] H := hP
      have hD : va_D A [(le, .inl (cA, 72, .inl (aN x.1))), (ho, .inl (cA, 8, .inl (aN fho))), (ra, .inr (3, [.ref al, .ref be])), (al, .inl (cA, 8, .inl (aN fal))), (be, .inl (cA, 448, .inl (aN fbe))), (sa, .inr (4, [.ref ra, .ref le, .ref ho, .ref tr, .ref ke, .int (nI nm), .int (nI co), .int (nI (if ef = 0 then co else 0)), .int (nI ef)])), (tr, .inl (cA, 8, .inl (aN x.2.1))), (ke, .inl (cA, 8, .inl (aN (zlp (kpBody x.2.1) nm 0 x.2.2.1))))] := hD
      have hP : va_P D vwCl [(sa, .inr (4, [.ref ra, .ref le, .ref ho, .ref tr, .ref ke, .int (nI nm), .int (nI co), .int (nI (if ef = 0 then co else 0)), .int (nI ef)])), (le, .inl (cA, 72, .inl (aN x.1))), (ho, .inl (cA, 8, .inl (aN fho))), (tr, .inl (cA, 8, .inl (aN x.2.1))), (ke, .inl (cA, 8, .inl (aN (zlp (kpBody x.2.1) nm 0 x.2.2.1)))), (ra, .inr (3, [.ref al, .ref be])), (al, .inl (cA, 8, .inl (aN fal))), (be, .inl (cA, 448, .inl (aN fbe)))] H := hP.sub [5, 0, 1, 6, 7, 2, 3, 4] rfl
      have hD : va_D A [(sa, .inr (4, [.ref ra, .ref le, .ref ho, .ref tr, .ref ke, .int (nI nm), .int (nI co), .int (nI (if ef = 0 then co else 0)), .int (nI ef)])), (le, .inl (cA, 72, .inl (aN x.1))), (ho, .inl (cA, 8, .inl (aN fho))), (tr, .inl (cA, 8, .inl (aN x.2.1))), (ke, .inl (cA, 8, .inl (aN (zlp (kpBody x.2.1) nm 0 x.2.2.1)))), (ra, .inr (3, [.ref al, .ref be])), (al, .inl (cA, 8, .inl (aN fal))), (be, .inl (cA, 448, .inl (aN fbe)))] := hD.sub [5, 0, 1, 6, 7, 2, 3, 4] (by decide) rfl
      have eW : ([(sa, .inr (4, [.ref ra, .ref le, .ref ho, .ref tr, .ref ke, .int (nI nm), .int (nI co), .int (nI (if ef = 0 then co else 0)), .int (nI ef)])), (le, .inl (cA, 72, .inl (aN x.1))), (ho, .inl (cA, 8, .inl (aN fho))), (tr, .inl (cA, 8, .inl (aN x.2.1))), (ke, .inl (cA, 8, .inl (aN (zlp (kpBody x.2.1) nm 0 x.2.2.1)))), (ra, .inr (3, [.ref al, .ref be])), (al, .inl (cA, 8, .inl (aN fal))), (be, .inl (cA, 448, .inl (aN fbe)))] : va_W) = [(sa, .inr (4, [.ref ra, .ref le, .ref ho, .ref tr, .ref ke, .int (nI nm), .int (nI ((giveFromF nm ef fbe fho 0 na co x).2.2.2.1)), .int (nI ((giveFromF nm ef fbe fho 0 na co x).2.2.2.2)), .int (nI ef)])), (le, .inl (cA, 72, .inl (aN ((giveFromF nm ef fbe fho 0 na co x).1)))), (ho, .inl (cA, 8, .inl (aN fho))), (tr, .inl (cA, 8, .inl (aN ((giveFromF nm ef fbe fho 0 na co x).2.1)))), (ke, .inl (cA, 8, .inl (aN ((giveFromF nm ef fbe fho 0 na co x).2.2.1)))), (ra, .inr (3, [.ref al, .ref be])), (al, .inl (cA, 8, .inl (aN fal))), (be, .inl (cA, 448, .inl (aN fbe)))] := by rfl
      rw [eW] at hP hD
      exact W.vret hx hb hr (fun t ht hW => ⟨⟨(), rfl, trivial, by rw [ht]; exact hP, hD⟩, hS.F ht⟩) hS.2.2 dX2_giveFrom_13
  | succ d ihg =>
    intro sz na co x hna hco hg
    refine Met.ofW (cc := cX2_giveFrom) (maxL := 6) (ret := none) (by decide) rfl ?_
    intro p e s m args below meth c s₁ B hml hv
    obtain ⟨rfl, hsz, hP, hK, hD0⟩ := hv
    have hx := B.exec
    have hb := B.bytes
    have hr := B.returns
    have hts := atoms_spec (ws := wsX2_giveFrom) B.pre
    have hown : s.vm.findClass RX2 = some m.cls := findClass_of_methodNamed B.named
    have hlocks := B.notSynchronized
    subst hsz
    have hD := hD0.self (sz := s.heap.size)
    generalize hAe : va_A [(sa, .inr (4, [.ref ra, .ref le, .ref ho, .ref tr, .ref ke, .int (nI nm), .int (nI x.2.2.2.1), .int (nI x.2.2.2.2), .int (nI ef)])), (le, .inl (cA, 72, .inl (aN x.1))), (ho, .inl (cA, 8, .inl (aN fho))), (tr, .inl (cA, 8, .inl (aN x.2.1))), (ke, .inl (cA, 8, .inl (aN x.2.2.1))), (ra, .inr (3, [.ref al, .ref be])), (al, .inl (cA, 8, .inl (aN fal))), (be, .inl (cA, 448, .inl (aN fbe)))] s.heap.size = A at hD ⊢
    have hA : ∀ q : Nat, s.heap.size ≤ q → A q := fun q h => by rw [← hAe]; exact Or.inr h
    have hS : va_S A s.heap s.heap [] := va_S.rf
    have hP : va_P D vwCl [(sa, .inr (4, [.ref ra, .ref le, .ref ho, .ref tr, .ref ke, .int (nI nm), .int (nI x.2.2.2.1), .int (nI x.2.2.2.2), .int (nI ef)])), (le, .inl (cA, 72, .inl (aN x.1))), (ho, .inl (cA, 8, .inl (aN fho))), (tr, .inl (cA, 8, .inl (aN x.2.1))), (ke, .inl (cA, 8, .inl (aN x.2.2.1))), (ra, .inr (3, [.ref al, .ref be])), (al, .inl (cA, 8, .inl (aN fal))), (be, .inl (cA, 448, .inl (aN fbe)))] s.heap := hP
    have hl := lv_entry ([.ref sa, .int (nI na), .int (nI co)]) (n := 6) (Nat.le_of_ble_eq_true rfl)
    rw [lg_entry_eq]
    generalize (lg_sl ([.ref sa, .int (nI na), .int (nI co)]) ++ List.replicate (6 - (lg_sl ([.ref sa, .int (nI na), .int (nI co)])).length) Slot.unset).toArray = ls at hl ⊢
    have hl : lv_has ls 6 [(0, .ref sa), (1, .int (nI na)), (2, .int (nI co))] := hl
    refine lv_iload_n hx hb dX2_giveFrom_0 rfl (lv_at hl 1 rfl) ?_
    refine lv_aload_n hx hb dX2_giveFrom_1 rfl (lv_at hl 0 rfl) ?_
    refine va_get (D := D) (ci := 4) (v := .int (nI nm)) (C := RX2) (T := TX2) (N := 9) hx hb hts inX2_giveFrom_X2 hown hK.1 hP 0 rfl rfl 5 (by decide) (hts _ lkX2_giveFrom_24) (fun _ h9 => h9) rfl dX2_giveFrom_2 ?_
    refine nn_icmp_lt (tgt := 14) hx hb dX2_giveFrom_5 (by decide) (by omega) (by omega) (fun c_5 => ?_) (fun c_5 => ?_)
    · refine lv_aload_n hx hb dX2_giveFrom_14 rfl (lv_at hl 0 rfl) ?_
      refine va_get (D := D) (ci := 4) (v := .ref le) (C := RX2) (T := TX2) (N := 9) hx hb hts inX2_giveFrom_X2 hown hK.1 hP 0 rfl rfl 1 (by decide) (hts _ lkX2_giveFrom_11) (fun _ h9 => h9) rfl dX2_giveFrom_15 ?_
      refine lv_iload_n hx hb dX2_giveFrom_18 rfl (lv_at hl 1 rfl) ?_
      refine lv_bipush (v := nI 8) hx hb dX2_giveFrom_19 (by decide) ?_
      refine nn_imul hx hb dX2_giveFrom_21 ?_
      refine lv_iload_n hx hb dX2_giveFrom_22 rfl (lv_at hl 1 rfl) ?_
      refine nn_iadd hx hb dX2_giveFrom_23 ?_
      refine nn_ald hx hb hK hP 1 rfl (by omega) (by decide) dX2_giveFrom_24 ?_
      refine lv_istore_n (lv' := [(3, .int (nI (x.1 ((na * 8) + na)))), (0, .ref sa), (1, .int (nI na)), (2, .int (nI co))]) hx hb dX2_giveFrom_25 rfl hl (by decide) rfl (fun ls hl => ?_)
      refine lv_aload_n hx hb dX2_giveFrom_26 rfl (lv_at hl 1 rfl) ?_
      refine va_get (D := D) (ci := 4) (v := .ref ho) (C := RX2) (T := TX2) (N := 9) hx hb hts inX2_giveFrom_X2 hown hK.1 hP 0 rfl rfl 2 (by decide) (hts _ lkX2_giveFrom_15) (fun _ h9 => h9) rfl dX2_giveFrom_27 ?_
      refine lv_iload_n hx hb dX2_giveFrom_30 rfl (lv_at hl 2 rfl) ?_
      refine nn_ald hx hb hK hP 2 rfl (by omega) (by decide) dX2_giveFrom_31 ?_
      refine lv_istore (lv' := [(4, .int (nI (fho na))), (3, .int (nI (x.1 ((na * 8) + na)))), (0, .ref sa), (1, .int (nI na)), (2, .int (nI co))]) hx hb dX2_giveFrom_32 hl (by decide) rfl (fun ls hl => ?_)
      refine lv_iload_n hx hb dX2_giveFrom_34 rfl (lv_at hl 1 rfl) ?_
      refine lv_iload hx hb dX2_giveFrom_35 (lv_at hl 0 rfl) ?_
      refine nn_ishr hx hb (Nat.lt_trans (hg.1 _) (by decide)) (hho _) dX2_giveFrom_37 ?_
      refine lv_iconst (v := nI 1) hx hb dX2_giveFrom_38 (by decide) ?_
      refine nn_iand hx hb dX2_giveFrom_39 ?_
      refine nn_if_eq (tgt := 51) hx hb dX2_giveFrom_40 (by decide) (and1_lt _) (fun c_40 => ?_) (fun c_40 => ?_)
      · refine lv_bipush (v := nI 6) hx hb dX2_giveFrom_51 (by decide) ?_
        refine lv_istore (lv' := [(5, .int (nI 6)), (4, .int (nI (fho na))), (3, .int (nI (x.1 ((na * 8) + na)))), (0, .ref sa), (1, .int (nI na)), (2, .int (nI co))]) hx hb dX2_giveFrom_53 hl (by decide) rfl (fun ls hl => ?_)
        have hl : lv_has ls 6 [(5, .int (mI 7)), (4, .int (nI (fho na))), (3, .int (nI (x.1 ((na * 8) + na)))), (0, .ref sa), (1, .int (nI na)), (2, .int (nI co))] := by rw [mI_succ 6]; exact hl
        refine bX2_gf hx hb hml hown hts hK hA sa le ho tr ke ra al be fho fal fbe nm ef hn hho he d ihg na co (x.1 (na * 8 + na)) (fho na) hna hco (hg.1 _) (hho _) (by show 2 * d + 4 ≤ 2 * (d + 1) + 2; omega) (by show 49 * d + 79 ≤ 49 * (d + 1) + 30; omega) 7 x (by omega) hg _ _ ls hP hD hS (lv_sub hl [3, 4, 5, 2, 1, 0] rfl) (fun H locs ls hP hD hS hl => ?_)
        have eW : ([(sa, .inr (4, [.ref ra, .ref le, .ref ho, .ref tr, .ref ke, .int (nI nm), .int (nI ((gfLoop (fun cd y => giveStep (giveFromF nm ef fbe fho d) nm fbe fho na cd co y) (x.1 (na * 8 + na)) (fho na) 7 x).2.2.2.1)), .int (nI ((gfLoop (fun cd y => giveStep (giveFromF nm ef fbe fho d) nm fbe fho na cd co y) (x.1 (na * 8 + na)) (fho na) 7 x).2.2.2.2)), .int (nI ef)])), (le, .inl (cA, 72, .inl (aN ((gfLoop (fun cd y => giveStep (giveFromF nm ef fbe fho d) nm fbe fho na cd co y) (x.1 (na * 8 + na)) (fho na) 7 x).1)))), (ho, .inl (cA, 8, .inl (aN fho))), (tr, .inl (cA, 8, .inl (aN ((gfLoop (fun cd y => giveStep (giveFromF nm ef fbe fho d) nm fbe fho na cd co y) (x.1 (na * 8 + na)) (fho na) 7 x).2.1)))), (ke, .inl (cA, 8, .inl (aN ((gfLoop (fun cd y => giveStep (giveFromF nm ef fbe fho d) nm fbe fho na cd co y) (x.1 (na * 8 + na)) (fho na) 7 x).2.2.1)))), (ra, .inr (3, [.ref al, .ref be])), (al, .inl (cA, 8, .inl (aN fal))), (be, .inl (cA, 448, .inl (aN fbe)))] : va_W) = [(sa, .inr (4, [.ref ra, .ref le, .ref ho, .ref tr, .ref ke, .int (nI nm), .int (nI ((giveFromF nm ef fbe fho (d + 1) na co x).2.2.2.1)), .int (nI ((giveFromF nm ef fbe fho (d + 1) na co x).2.2.2.2)), .int (nI ef)])), (le, .inl (cA, 72, .inl (aN ((giveFromF nm ef fbe fho (d + 1) na co x).1)))), (ho, .inl (cA, 8, .inl (aN fho))), (tr, .inl (cA, 8, .inl (aN ((giveFromF nm ef fbe fho (d + 1) na co x).2.1)))), (ke, .inl (cA, 8, .inl (aN ((giveFromF nm ef fbe fho (d + 1) na co x).2.2.1)))), (ra, .inr (3, [.ref al, .ref be])), (al, .inl (cA, 8, .inl (aN fal))), (be, .inl (cA, 448, .inl (aN fbe)))] := by rw [giveFromF]; first | (rw [if_pos c_40]; done) | (rw [if_neg c_40]; done)
        rw [eW] at hP hD
        exact W.vret hx hb hr (fun t ht hW => ⟨⟨(), rfl, trivial, by rw [ht]; exact hP, hD⟩, hS.F ht⟩) hS.2.2 dX2_giveFrom_90
      · refine lv_aload_n hx hb dX2_giveFrom_43 rfl (lv_at hl 2 rfl) ?_
        refine lv_iload_n hx hb dX2_giveFrom_44 rfl (lv_at hl 3 rfl) ?_
        refine lv_iload hx hb dX2_giveFrom_45 (lv_at hl 0 rfl) ?_
        refine lv_iload_n hx hb dX2_giveFrom_47 rfl (lv_at hl 4 rfl) ?_
        refine zz_callV (av := []) (wc := [(sa, .inr (4, [.ref ra, .ref le, .ref ho, .ref tr, .ref ke, .int (nI nm), .int (nI x.2.2.2.1), .int (nI x.2.2.2.2), .int (nI ef)])), (le, .inl (cA, 72, .inl (aN x.1))), (ho, .inl (cA, 8, .inl (aN fho))), (tr, .inl (cA, 8, .inl (aN x.2.1))), (ke, .inl (cA, 8, .inl (aN x.2.2.1))), (ra, .inr (3, [.ref al, .ref be])), (al, .inl (cA, 8, .inl (aN fal))), (be, .inl (cA, 448, .inl (aN fbe)))]) (wr := []) hS hA hP hD [0, 1, 2, 3, 4, 5, 6, 7] [] rfl rfl (by decide) (by decide) (va_runV (As := [.int (nI na), .int (nI (fho na)), .int (nI co)]) (rest := []) ⟨hx, hb, hml, hown, hts⟩ (kX2_give l D cA s.heap.size sa le ho tr ke ra al be fho fal fbe nm ef d na (fho na) co x (by omega) hho (by omega) ihg (by omega) (bit_lt7 (hg.1 _) c_40) (by omega) hg) (cwV 3 hts gX2_giveFrom_X2_give rfl rfl rfl (by decide +kernel) ⟨by show (2 * d + 3) + 1 ≤ 2 * (d + 1) + 2; omega, by show 8 + (5 + 11) + (49 * d + 55) ≤ 49 * (d + 1) + 30; omega⟩) ⟨(zPreS (av := [.ref sa, .int (nI na), .int (nI (fho na)), .int (nI co)]) (wc := [(sa, .inr (4, [.ref ra, .ref le, .ref ho, .ref tr, .ref ke, .int (nI nm), .int (nI x.2.2.2.1), .int (nI x.2.2.2.2), .int (nI ef)])), (le, .inl (cA, 72, .inl (aN x.1))), (ho, .inl (cA, 8, .inl (aN fho))), (tr, .inl (cA, 8, .inl (aN x.2.1))), (ke, .inl (cA, 8, .inl (aN x.2.2.1))), (ra, .inr (3, [.ref al, .ref be])), (al, .inl (cA, 8, .inl (aN fal))), (be, .inl (cA, 448, .inl (aN fbe)))]) hK hP hD [0, 1, 2, 3, 4, 5, 6, 7] rfl (by decide) rfl).1, (va_recv hK.1 hP (ci := 4) (q0 := 0) rfl rfl), (zPreS (av := [.ref sa, .int (nI na), .int (nI (fho na)), .int (nI co)]) (wc := [(sa, .inr (4, [.ref ra, .ref le, .ref ho, .ref tr, .ref ke, .int (nI nm), .int (nI x.2.2.2.1), .int (nI x.2.2.2.2), .int (nI ef)])), (le, .inl (cA, 72, .inl (aN x.1))), (ho, .inl (cA, 8, .inl (aN fho))), (tr, .inl (cA, 8, .inl (aN x.2.1))), (ke, .inl (cA, 8, .inl (aN x.2.2.1))), (ra, .inr (3, [.ref al, .ref be])), (al, .inl (cA, 8, .inl (aN fal))), (be, .inl (cA, 448, .inl (aN fbe)))]) hK hP hD [0, 1, 2, 3, 4, 5, 6, 7] rfl (by decide) rfl).2⟩ rfl rfl hl.1 rfl (lv_room (Nat.le_of_ble_eq_true rfl)) dX2_giveFrom_48 ⟨Nat.zero_le _, Nat.zero_le _⟩) (fun H locs hP hD hS => ?_)
        have hP : va_P D vwCl [(sa, .inr (4, [.ref ra, .ref le, .ref ho, .ref tr, .ref ke, .int (nI nm), .int (nI ((giveStep (giveFromF nm ef fbe fho d) nm fbe fho na (fho na) co x).2.2.2.1)), .int (nI ((giveStep (giveFromF nm ef fbe fho d) nm fbe fho na (fho na) co x).2.2.2.2)), .int (nI ef)])), (le, .inl (cA, 72, .inl (aN ((giveStep (giveFromF nm ef fbe fho d) nm fbe fho na (fho na) co x).1)))), (ho, .inl (cA, 8, .inl (aN fho))), (tr, .inl (cA, 8, .inl (aN ((giveStep (giveFromF nm ef fbe fho d) nm fbe fho na (fho na) co x).2.1)))), (ke, .inl (cA, 8, .inl (aN ((giveStep (giveFromF nm ef fbe fho d) nm fbe fho na (fho na) co x).2.2.1)))), (ra, .inr (3, [.ref al, .ref be])), (al, .inl (cA, 8, .inl (aN fal))), (be, .inl (cA, 448, .inl (aN fbe)))] H := hP
        have hD : va_D A [(sa, .inr (4, [.ref ra, .ref le, .ref ho, .ref tr, .ref ke, .int (nI nm), .int (nI ((giveStep (giveFromF nm ef fbe fho d) nm fbe fho na (fho na) co x).2.2.2.1)), .int (nI ((giveStep (giveFromF nm ef fbe fho d) nm fbe fho na (fho na) co x).2.2.2.2)), .int (nI ef)])), (le, .inl (cA, 72, .inl (aN ((giveStep (giveFromF nm ef fbe fho d) nm fbe fho na (fho na) co x).1)))), (ho, .inl (cA, 8, .inl (aN fho))), (tr, .inl (cA, 8, .inl (aN ((giveStep (giveFromF nm ef fbe fho d) nm fbe fho na (fho na) co x).2.1)))), (ke, .inl (cA, 8, .inl (aN ((giveStep (giveFromF nm ef fbe fho d) nm fbe fho na (fho na) co x).2.2.1)))), (ra, .inr (3, [.ref al, .ref be])), (al, .inl (cA, 8, .inl (aN fal))), (be, .inl (cA, 448, .inl (aN fbe)))] := hD
        refine lv_bipush (v := nI 6) hx hb dX2_giveFrom_51 (by decide) ?_
        refine lv_istore (lv' := [(5, .int (nI 6)), (4, .int (nI (fho na))), (3, .int (nI (x.1 ((na * 8) + na)))), (0, .ref sa), (1, .int (nI na)), (2, .int (nI co))]) hx hb dX2_giveFrom_53 hl (by decide) rfl (fun ls hl => ?_)
        have hl : lv_has ls 6 [(5, .int (mI 7)), (4, .int (nI (fho na))), (3, .int (nI (x.1 ((na * 8) + na)))), (0, .ref sa), (1, .int (nI na)), (2, .int (nI co))] := by rw [mI_succ 6]; exact hl
        refine bX2_gf hx hb hml hown hts hK hA sa le ho tr ke ra al be fho fal fbe nm ef hn hho he d ihg na co (x.1 (na * 8 + na)) (fho na) hna hco (hg.1 _) (hho _) (by show 2 * d + 4 ≤ 2 * (d + 1) + 2; omega) (by show 49 * d + 79 ≤ 49 * (d + 1) + 30; omega) 7 (giveStep (giveFromF nm ef fbe fho d) nm fbe fho na (fho na) co x) (by omega) (giveStep_inv (fun co' z h1 h2 => giveFromF_inv d _ _ _ h1 (by omega) h2) hco hg) _ _ ls hP hD hS (lv_sub hl [3, 4, 5, 2, 1, 0] rfl) (fun H locs ls hP hD hS hl => ?_)
        have eW : ([(sa, .inr (4, [.ref ra, .ref le, .ref ho, .ref tr, .ref ke, .int (nI nm), .int (nI ((gfLoop (fun cd y => giveStep (giveFromF nm ef fbe fho d) nm fbe fho na cd co y) (x.1 (na * 8 + na)) (fho na) 7 (giveStep (giveFromF nm ef fbe fho d) nm fbe fho na (fho na) co x)).2.2.2.1)), .int (nI ((gfLoop (fun cd y => giveStep (giveFromF nm ef fbe fho d) nm fbe fho na cd co y) (x.1 (na * 8 + na)) (fho na) 7 (giveStep (giveFromF nm ef fbe fho d) nm fbe fho na (fho na) co x)).2.2.2.2)), .int (nI ef)])), (le, .inl (cA, 72, .inl (aN ((gfLoop (fun cd y => giveStep (giveFromF nm ef fbe fho d) nm fbe fho na cd co y) (x.1 (na * 8 + na)) (fho na) 7 (giveStep (giveFromF nm ef fbe fho d) nm fbe fho na (fho na) co x)).1)))), (ho, .inl (cA, 8, .inl (aN fho))), (tr, .inl (cA, 8, .inl (aN ((gfLoop (fun cd y => giveStep (giveFromF nm ef fbe fho d) nm fbe fho na cd co y) (x.1 (na * 8 + na)) (fho na) 7 (giveStep (giveFromF nm ef fbe fho d) nm fbe fho na (fho na) co x)).2.1)))), (ke, .inl (cA, 8, .inl (aN ((gfLoop (fun cd y => giveStep (giveFromF nm ef fbe fho d) nm fbe fho na cd co y) (x.1 (na * 8 + na)) (fho na) 7 (giveStep (giveFromF nm ef fbe fho d) nm fbe fho na (fho na) co x)).2.2.1)))), (ra, .inr (3, [.ref al, .ref be])), (al, .inl (cA, 8, .inl (aN fal))), (be, .inl (cA, 448, .inl (aN fbe)))] : va_W) = [(sa, .inr (4, [.ref ra, .ref le, .ref ho, .ref tr, .ref ke, .int (nI nm), .int (nI ((giveFromF nm ef fbe fho (d + 1) na co x).2.2.2.1)), .int (nI ((giveFromF nm ef fbe fho (d + 1) na co x).2.2.2.2)), .int (nI ef)])), (le, .inl (cA, 72, .inl (aN ((giveFromF nm ef fbe fho (d + 1) na co x).1)))), (ho, .inl (cA, 8, .inl (aN fho))), (tr, .inl (cA, 8, .inl (aN ((giveFromF nm ef fbe fho (d + 1) na co x).2.1)))), (ke, .inl (cA, 8, .inl (aN ((giveFromF nm ef fbe fho (d + 1) na co x).2.2.1)))), (ra, .inr (3, [.ref al, .ref be])), (al, .inl (cA, 8, .inl (aN fal))), (be, .inl (cA, 448, .inl (aN fbe)))] := by rw [giveFromF]; first | (rw [if_pos c_40]; done) | (rw [if_neg c_40]; done)
        rw [eW] at hP hD
        exact W.vret hx hb hr (fun t ht hW => ⟨⟨(), rfl, trivial, by rw [ht]; exact hP, hD⟩, hS.F ht⟩) hS.2.2 dX2_giveFrom_90
    · exfalso; omega
end
section

theorem zb_if {P : Prop} [Decidable P] : narrow .boolean (.int (nI (if P then 1 else 0))) = .int (nI (if P then 1 else 0)) := by split <;> rfl
theorem zlp_inv {σ : Type} {body : Nat → σ → σ} {P : σ → Prop} (h : ∀ i x, P x → P (body i x)) : ∀ k i x, P x → P (zlp body k i x) := by
  intro k
  induction k with
  | zero => intro i x hx; exact hx
  | succ k ih => intro i x hx; exact ih _ _ (h _ _ hx)
def findBody (fhm fbd fal : Nat → Nat) : Nat → ((Nat → Nat) × (Nat → Nat)) → (Nat → Nat) × (Nat → Nat) := fun i y => (va_up y.1 i (fhm i), va_up y.2 i ((fal i) &&& ((fbd i) ^^^ 4294967295)))
def findY (nn : Nat) (fhm fbd fal fho fle : Nat → Nat) : (Nat → Nat) × (Nat → Nat) := zlp (findBody fhm fbd fal) nn 0 (fho, fle)
def findX (nn ef : Nat) (fbe fhm fbd fal fho fle ftr fke : Nat → Nat) : Sg := giveFromF nn ef fbe (findY nn fhm fbd fal fho fle).1 nn 0 0 ((findY nn fhm fbd fal fho fle).2, ftr, fke, 144, 144)
theorem findY_inv {nn : Nat} {fhm fbd fal fho fle : Nat → Nat} (h1 : ∀ j, fhm j < 32) (h2 : ∀ j, fho j < 32) (h3 : ∀ j, fal j < 128) (h4 : ∀ j, fle j < 128) : (∀ j, (findY nn fhm fbd fal fho fle).1 j < 32) ∧ (∀ j, (findY nn fhm fbd fal fho fle).2 j < 128) := by
  refine zlp_inv (P := fun y => (∀ j, y.1 j < 32) ∧ (∀ j, y.2 j < 128)) ?_ nn 0 (fho, fle) ⟨h2, h4⟩
  intro i y hy
  exact ⟨up_lt hy.1 (h1 i), up_lt hy.2 (and_lt128 (h3 i))⟩
theorem gfLoop_kc {P : Sg → Prop} {g : Nat → Sg → Sg} {cs fi : Nat} (hg : ∀ cd y, P y → P (g cd y)) : ∀ k x, P x → P (gfLoop g cs fi k x) := by
  intro k
  induction k with
  | zero => intro x h; exact h
  | succ k ih =>
    intro x h
    rw [gfLoop]
    refine ih _ ?_
    repeat' split
    · exact h
    · exact h
    · exact hg _ _ h
theorem giveFromF_kc {nm ef : Nat} {fbe fho : Nat → Nat} : ∀ d na co x, co ≤ 17 * na → na + d ≤ 8 → x.2.2.2.1 ≤ 144 → (giveFromF nm ef fbe fho d na co x).2.2.2.1 ≤ 144 := by
  intro d
  induction d with
  | zero =>
    intro na co x hc hn h
    show co ≤ 144
    omega
  | succ d ih =>
    intro na co x hc hn h
    rw [giveFromF]
    have hs : ∀ cd y, y.2.2.2.1 ≤ 144 → (giveStep (giveFromF nm ef fbe fho d) nm fbe fho na cd co y).2.2.2.1 ≤ 144 := by
      intro cd y hy
      unfold giveStep
      have h1 := costN_le cd (fho na)
      split
      · exact ih _ _ _ (by omega) (by omega) hy
      · exact hy
    refine gfLoop_kc (P := fun y => y.2.2.2.1 ≤ 144) hs _ _ ?_
    split
    · exact h
    · exact hs _ _ h
theorem findX_kc {nn ef : Nat} {fbe fhm fbd fal fho fle ftr fke : Nat → Nat} (hn : nn ≤ 8) : (findX nn ef fbe fhm fbd fal fho fle ftr fke).2.2.2.1 ≤ 144 := giveFromF_kc _ _ _ _ (by omega) (by omega) (Nat.le_refl _)
theorem findX_inv {nn ef : Nat} {fbe fhm fbd fal fho fle ftr fke : Nat → Nat} (hn : nn ≤ 8) (h1 : ∀ j, fhm j < 32) (h2 : ∀ j, fho j < 32) (h3 : ∀ j, fal j < 128) (h4 : ∀ j, fle j < 128) : GInv (findX nn ef fbe fhm fbd fal fho fle ftr fke) := giveFromF_inv _ _ _ _ (by omega) (by omega) ⟨(findY_inv h1 h2 h3 h4).2, Nat.le_refl _⟩

theorem lkX2_find_11 : Cond.fieldLink RX2 11 "LeastChange$Search" "left" "[I" ∈ wsX2_find := by decide +kernel
theorem lkX2_find_15 : Cond.fieldLink RX2 15 "LeastChange$Search" "home" "[I" ∈ wsX2_find := by decide +kernel
theorem lkX2_find_38 : Cond.fieldLink RX2 38 "LeastChange$Search" "rules" "LLeastChange$Rules;" ∈ wsX2_find := by decide +kernel
theorem inX2_find_X1 : ∀ w ∈ wsX10, w ∈ wsX2_find := by decide +kernel
theorem inX2_find_X2 : ∀ w ∈ wsX20, w ∈ wsX2_find := by decide +kernel
set_option maxHeartbeats 4000000 in
set_option maxRecDepth 100000 in
theorem bX2_find {p : Program} {l : Launch} {e : Env} {R : Room} {s : State} {m : MethodId} {args : Array Value} {below : List Frame} {meth : Method} {c : Code} {Q : State → Prop} {A : Nat → Prop} {H0 : Heap} {D : va_G} {cA : ClassId} (hx : p.tables.exec = Jvm.exec) (hb : c.code = cX2_find) (hml : c.maxLocals = 5) (hown : s.vm.findClass RX2 = some m.cls) (hts : ∀ w ∈ wsX2_find, w.before args s = true) (hK : zK D cA s) (hA : ∀ q, H0.size ≤ q → A q) (sa : Nat) (le : Nat) (ho : Nat) (tr : Nat) (ke : Nat) (ra : Nat) (al : Nat) (be : Nat) (hm : Nat) (bd : Nat) (ftr : Nat → Nat) (fke : Nat → Nat) (fal : Nat → Nat) (fbe : Nat → Nat) (fhm : Nat → Nat) (fbd : Nat → Nat) (ef : Nat) (nn : Nat) (hn : nn ≤ 8) : ∀ (k : Nat) (i : Nat) (y : (Nat → Nat) × (Nat → Nat)), (i + k = nn) → ∀ (H : Heap) (locs : List Loc) (ls : Array Slot), va_P D vwCl [(sa, .inr (4, [.ref ra, .ref le, .ref ho, .ref tr, .ref ke, .int (nI nn), .int (nI 144), .int (nI 144), .int (nI ef)])), (le, .inl (cA, 72, .inl (aN y.2))), (ho, .inl (cA, 8, .inl (aN y.1))), (tr, .inl (cA, 8, .inl (aN ftr))), (ke, .inl (cA, 8, .inl (aN fke))), (ra, .inr (3, [.ref al, .ref be])), (al, .inl (cA, 8, .inl (aN fal))), (be, .inl (cA, 448, .inl (aN fbe))), (hm, .inl (cA, 8, .inl (aN fhm))), (bd, .inl (cA, 8, .inl (aN fbd)))] H → va_D A [(sa, .inr (4, [.ref ra, .ref le, .ref ho, .ref tr, .ref ke, .int (nI nn), .int (nI 144), .int (nI 144), .int (nI ef)])), (le, .inl (cA, 72, .inl (aN y.2))), (ho, .inl (cA, 8, .inl (aN y.1))), (tr, .inl (cA, 8, .inl (aN ftr))), (ke, .inl (cA, 8, .inl (aN fke))), (ra, .inr (3, [.ref al, .ref be])), (al, .inl (cA, 8, .inl (aN fal))), (be, .inl (cA, 448, .inl (aN fbe))), (hm, .inl (cA, 8, .inl (aN fhm))), (bd, .inl (cA, 8, .inl (aN fbd)))] → va_S A H0 H locs → lv_has ls 5 [(0, .ref sa), (1, .int (nI nn)), (2, .ref hm), (3, .ref bd), (4, .int (nI i))] → (∀ (H : Heap) (locs : List Loc) (ls : Array Slot), va_P D vwCl [(sa, .inr (4, [.ref ra, .ref le, .ref ho, .ref tr, .ref ke, .int (nI nn), .int (nI 144), .int (nI 144), .int (nI ef)])), (le, .inl (cA, 72, .inl (aN ((zlp (findBody fhm fbd fal) k i y).2)))), (ho, .inl (cA, 8, .inl (aN ((zlp (findBody fhm fbd fal) k i y).1)))), (tr, .inl (cA, 8, .inl (aN ftr))), (ke, .inl (cA, 8, .inl (aN fke))), (ra, .inr (3, [.ref al, .ref be])), (al, .inl (cA, 8, .inl (aN fal))), (be, .inl (cA, 448, .inl (aN fbe))), (hm, .inl (cA, 8, .inl (aN fhm))), (bd, .inl (cA, 8, .inl (aN fbd)))] H → va_D A [(sa, .inr (4, [.ref ra, .ref le, .ref ho, .ref tr, .ref ke, .int (nI nn), .int (nI 144), .int (nI 144), .int (nI ef)])), (le, .inl (cA, 72, .inl (aN ((zlp (findBody fhm fbd fal) k i y).2)))), (ho, .inl (cA, 8, .inl (aN ((zlp (findBody fhm fbd fal) k i y).1)))), (tr, .inl (cA, 8, .inl (aN ftr))), (ke, .inl (cA, 8, .inl (aN fke))), (ra, .inr (3, [.ref al, .ref be])), (al, .inl (cA, 8, .inl (aN fal))), (be, .inl (cA, 448, .inl (aN fbe))), (hm, .inl (cA, 8, .inl (aN fhm))), (bd, .inl (cA, 8, .inl (aN fbd)))] → va_S A H0 H locs → lv_has ls 5 [(0, .ref sa)] → W p l e R s m args below meth c H locs 0 0 Q (F0 m 69 ls [])) → W p l e R s m args below meth c H locs 0 0 Q (F0 m 22 ls []) := by
  intro k
  induction k with
  | zero =>
    intro i y hi H locs ls hP hD hS hl kk
    refine lv_iload hx hb dX2_find_22 (lv_at hl 4 rfl) ?_
    refine lv_iload_n hx hb dX2_find_24 rfl (lv_at hl 1 rfl) ?_
    refine nn_icmp_ge (tgt := 69) hx hb dX2_find_25 (by decide) (by omega) (by omega) (fun c_25 => ?_) (fun c_25 => ?_)
    · exact kk _ _ _ hP hD hS (lv_sub hl [0] rfl)
    · exfalso; omega
  | succ k ih =>
    intro i y hi H locs ls hP hD hS hl kk
    refine lv_iload hx hb dX2_find_22 (lv_at hl 4 rfl) ?_
    refine lv_iload_n hx hb dX2_find_24 rfl (lv_at hl 1 rfl) ?_
    refine nn_icmp_ge (tgt := 69) hx hb dX2_find_25 (by decide) (by omega) (by omega) (fun c_25 => ?_) (fun c_25 => ?_)
    · exfalso; omega
    · refine lv_aload_n hx hb dX2_find_28 rfl (lv_at hl 0 rfl) ?_
      refine va_get (D := D) (ci := 4) (v := .ref ho) (C := RX2) (T := TX2) (N := 9) hx hb hts inX2_find_X2 hown hK.1 hP 0 rfl rfl 2 (by decide) (hts _ lkX2_find_15) (fun _ h9 => h9) rfl dX2_find_29 ?_
      refine lv_iload hx hb dX2_find_32 (lv_at hl 4 rfl) ?_
      refine lv_aload_n hx hb dX2_find_34 rfl (lv_at hl 2 rfl) ?_
      refine lv_iload hx hb dX2_find_35 (lv_at hl 4 rfl) ?_
      refine nn_ald hx hb hK hP 8 rfl (by omega) (by decide) dX2_find_37 ?_
      refine nn_ast hx hb hK hP hD hS 2 rfl (by omega) (by decide) dX2_find_38 (fun H locs hP hD hS => ?_)
      have hP : va_P D vwCl [(sa, .inr (4, [.ref ra, .ref le, .ref ho, .ref tr, .ref ke, .int (nI nn), .int (nI 144), .int (nI 144), .int (nI ef)])), (le, .inl (cA, 72, .inl (aN y.2))), (ho, .inl (cA, 8, .inl (aN (va_up y.1 i (fhm i))))), (tr, .inl (cA, 8, .inl (aN ftr))), (ke, .inl (cA, 8, .inl (aN fke))), (ra, .inr (3, [.ref al, .ref be])), (al, .inl (cA, 8, .inl (aN fal))), (be, .inl (cA, 448, .inl (aN fbe))), (hm, .inl (cA, 8, .inl (aN fhm))), (bd, .inl (cA, 8, .inl (aN fbd)))] H := hP
      have hD : va_D A [(sa, .inr (4, [.ref ra, .ref le, .ref ho, .ref tr, .ref ke, .int (nI nn), .int (nI 144), .int (nI 144), .int (nI ef)])), (le, .inl (cA, 72, .inl (aN y.2))), (ho, .inl (cA, 8, .inl (aN (va_up y.1 i (fhm i))))), (tr, .inl (cA, 8, .inl (aN ftr))), (ke, .inl (cA, 8, .inl (aN fke))), (ra, .inr (3, [.ref al, .ref be])), (al, .inl (cA, 8, .inl (aN fal))), (be, .inl (cA, 448, .inl (aN fbe))), (hm, .inl (cA, 8, .inl (aN fhm))), (bd, .inl (cA, 8, .inl (aN fbd)))] := hD
      refine lv_aload_n hx hb dX2_find_39 rfl (lv_at hl 0 rfl) ?_
      refine va_get (D := D) (ci := 4) (v := .ref le) (C := RX2) (T := TX2) (N := 9) hx hb hts inX2_find_X2 hown hK.1 hP 0 rfl rfl 1 (by decide) (hts _ lkX2_find_11) (fun _ h9 => h9) rfl dX2_find_40 ?_
      refine lv_iload hx hb dX2_find_43 (lv_at hl 4 rfl) ?_
      refine lv_aload_n hx hb dX2_find_45 rfl (lv_at hl 0 rfl) ?_
      refine va_get (D := D) (ci := 4) (v := .ref ra) (C := RX2) (T := TX2) (N := 9) hx hb hts inX2_find_X2 hown hK.1 hP 0 rfl rfl 0 (by decide) (hts _ lkX2_find_38) (fun _ h9 => h9) rfl dX2_find_46 ?_
      refine va_getN (D := D) (ci := 3) (v := .ref al) (C := RX1) (T := TX1) (N := 2) hx hb hts inX2_find_X1 hown hK.1 hP 5 rfl rfl 0 (by decide) (va_Nw.use rfl (hK.2 _ nkX2_46)) (fun _ h9 => h9) rfl dX2_find_49 ?_
      refine lv_iload hx hb dX2_find_52 (lv_at hl 4 rfl) ?_
      refine nn_ald hx hb hK hP 6 rfl (by omega) (by decide) dX2_find_54 ?_
      refine lv_aload_n hx hb dX2_find_55 rfl (lv_at hl 3 rfl) ?_
      refine lv_iload hx hb dX2_find_56 (lv_at hl 4 rfl) ?_
      refine nn_ald hx hb hK hP 9 rfl (by omega) (by decide) dX2_find_58 ?_
      refine lv_iconst (v := -1) hx hb dX2_find_59 (by decide) ?_
      refine nn_inot hx hb dX2_find_60 ?_
      refine nn_iand hx hb dX2_find_61 ?_
      refine nn_ast hx hb hK hP hD hS 1 rfl (by omega) (by decide) dX2_find_62 (fun H locs hP hD hS => ?_)
      have hP : va_P D vwCl [(sa, .inr (4, [.ref ra, .ref le, .ref ho, .ref tr, .ref ke, .int (nI nn), .int (nI 144), .int (nI 144), .int (nI ef)])), (le, .inl (cA, 72, .inl (aN (va_up y.2 i ((fal i) &&& ((fbd i) ^^^ 4294967295)))))), (ho, .inl (cA, 8, .inl (aN (va_up y.1 i (fhm i))))), (tr, .inl (cA, 8, .inl (aN ftr))), (ke, .inl (cA, 8, .inl (aN fke))), (ra, .inr (3, [.ref al, .ref be])), (al, .inl (cA, 8, .inl (aN fal))), (be, .inl (cA, 448, .inl (aN fbe))), (hm, .inl (cA, 8, .inl (aN fhm))), (bd, .inl (cA, 8, .inl (aN fbd)))] H := hP
      have hD : va_D A [(sa, .inr (4, [.ref ra, .ref le, .ref ho, .ref tr, .ref ke, .int (nI nn), .int (nI 144), .int (nI 144), .int (nI ef)])), (le, .inl (cA, 72, .inl (aN (va_up y.2 i ((fal i) &&& ((fbd i) ^^^ 4294967295)))))), (ho, .inl (cA, 8, .inl (aN (va_up y.1 i (fhm i))))), (tr, .inl (cA, 8, .inl (aN ftr))), (ke, .inl (cA, 8, .inl (aN fke))), (ra, .inr (3, [.ref al, .ref be])), (al, .inl (cA, 8, .inl (aN fal))), (be, .inl (cA, 448, .inl (aN fbe))), (hm, .inl (cA, 8, .inl (aN fhm))), (bd, .inl (cA, 8, .inl (aN fbd)))] := hD
      refine lv_iinc (v := (nI (i + 1))) (lv' := [(4, .int (nI (i + 1))), (0, .ref sa), (1, .int (nI nn)), (2, .ref hm), (3, .ref bd)]) hx hb dX2_find_63 hl (k := 4) rfl (nI_add _ _) (by decide) rfl (fun ls hl => ?_)
      refine lv_goto (tgt := 22) hx hb dX2_find_66 (by decide) ?_
      exact ih (i + 1) (findBody fhm fbd fal i y) (by omega) _ _ _ hP hD hS (lv_sub hl [1, 2, 3, 4, 0] rfl) kk

theorem lkX2_find_24 : Cond.fieldLink RX2 24 "LeastChange$Search" "names" "I" ∈ wsX2_find := by decide +kernel
theorem lkX2_find_28 : Cond.fieldLink RX2 28 "LeastChange$Search" "keptCost" "I" ∈ wsX2_find := by decide +kernel
theorem lkX2_find_31 : Cond.fieldLink RX2 31 "LeastChange$Search" "costBound" "I" ∈ wsX2_find := by decide +kernel
set_option maxHeartbeats 4000000 in
set_option maxRecDepth 100000 in
theorem kX2_find (l : Launch) (D : va_G) (cA : ClassId) (sz : Nat) (sa : Nat) (le : Nat) (ho : Nat) (tr : Nat) (ke : Nat) (ra : Nat) (al : Nat) (be : Nat) (hm : Nat) (bd : Nat) (fle : Nat → Nat) (fho : Nat → Nat) (ftr : Nat → Nat) (fke : Nat → Nat) (fal : Nat → Nat) (fbe : Nat → Nat) (fhm : Nat → Nat) (fbd : Nat → Nat) (nm : Nat) (kc : Nat) (cb : Nat) (ef : Nat) (nn : Nat) (hn : nn ≤ 8) (he : ef < 2) (h1 : ∀ j, fhm j < 32) (h2 : ∀ j, fho j < 32) (h3 : ∀ j, fal j < 128) (h4 : ∀ j, fle j < 128) : zMi l yX2_find wsX2_find ({ frames := 19, cells := 0, slots := 0, locals := 447 }) D cA [.ref sa, .int (nI nn), .ref hm, .ref bd] sz [(sa, .inr (4, [.ref ra, .ref le, .ref ho, .ref tr, .ref ke, .int (nI nm), .int (nI kc), .int (nI cb), .int (nI ef)])), (le, .inl (cA, 72, .inl (aN fle))), (ho, .inl (cA, 8, .inl (aN fho))), (tr, .inl (cA, 8, .inl (aN ftr))), (ke, .inl (cA, 8, .inl (aN fke))), (ra, .inr (3, [.ref al, .ref be])), (al, .inl (cA, 8, .inl (aN fal))), (be, .inl (cA, 448, .inl (aN fbe))), (hm, .inl (cA, 8, .inl (aN fhm))), (bd, .inl (cA, 8, .inl (aN fbd)))] [(sa, .inr (4, [.ref ra, .ref le, .ref ho, .ref tr, .ref ke, .int (nI nn), .int (nI ((findX nn ef fbe fhm fbd fal fho fle ftr fke).2.2.2.1)), .int (nI ((findX nn ef fbe fhm fbd fal fho fle ftr fke).2.2.2.2)), .int (nI ef)])), (le, .inl (cA, 72, .inl (aN ((findX nn ef fbe fhm fbd fal fho fle ftr fke).1)))), (ho, .inl (cA, 8, .inl (aN ((findY nn fhm fbd fal fho fle).1)))), (tr, .inl (cA, 8, .inl (aN ((findX nn ef fbe fhm fbd fal fho fle ftr fke).2.1)))), (ke, .inl (cA, 8, .inl (aN ((findX nn ef fbe fhm fbd fal fho fle ftr fke).2.2.1)))), (ra, .inr (3, [.ref al, .ref be])), (al, .inl (cA, 8, .inl (aN fal))), (be, .inl (cA, 448, .inl (aN fbe))), (hm, .inl (cA, 8, .inl (aN fhm))), (bd, .inl (cA, 8, .inl (aN fbd)))] (nI (if (findX nn ef fbe fhm fbd fal fho fle ftr fke).2.2.2.1 < 144 then 1 else 0)) := by
  refine Met.ofW (cc := cX2_find) (maxL := 5) (ret := (some .boolean)) (by decide) rfl ?_
  intro p e s m args below meth c s₁ B hml hv
  obtain ⟨rfl, hsz, hP, hK, hD0⟩ := hv
  have hx := B.exec
  have hb := B.bytes
  have hr := B.returns
  have hts := atoms_spec (ws := wsX2_find) B.pre
  have hown : s.vm.findClass RX2 = some m.cls := findClass_of_methodNamed B.named
  have hlocks := B.notSynchronized
  subst hsz
  have hD := hD0.self (sz := s.heap.size)
  generalize hAe : va_A [(sa, .inr (4, [.ref ra, .ref le, .ref ho, .ref tr, .ref ke, .int (nI nm), .int (nI kc), .int (nI cb), .int (nI ef)])), (le, .inl (cA, 72, .inl (aN fle))), (ho, .inl (cA, 8, .inl (aN fho))), (tr, .inl (cA, 8, .inl (aN ftr))), (ke, .inl (cA, 8, .inl (aN fke))), (ra, .inr (3, [.ref al, .ref be])), (al, .inl (cA, 8, .inl (aN fal))), (be, .inl (cA, 448, .inl (aN fbe))), (hm, .inl (cA, 8, .inl (aN fhm))), (bd, .inl (cA, 8, .inl (aN fbd)))] s.heap.size = A at hD ⊢
  have hA : ∀ q : Nat, s.heap.size ≤ q → A q := fun q h => by rw [← hAe]; exact Or.inr h
  have hS : va_S A s.heap s.heap [] := va_S.rf
  have hP : va_P D vwCl [(sa, .inr (4, [.ref ra, .ref le, .ref ho, .ref tr, .ref ke, .int (nI nm), .int (nI kc), .int (nI cb), .int (nI ef)])), (le, .inl (cA, 72, .inl (aN fle))), (ho, .inl (cA, 8, .inl (aN fho))), (tr, .inl (cA, 8, .inl (aN ftr))), (ke, .inl (cA, 8, .inl (aN fke))), (ra, .inr (3, [.ref al, .ref be])), (al, .inl (cA, 8, .inl (aN fal))), (be, .inl (cA, 448, .inl (aN fbe))), (hm, .inl (cA, 8, .inl (aN fhm))), (bd, .inl (cA, 8, .inl (aN fbd)))] s.heap := hP
  have hl := lv_entry ([.ref sa, .int (nI nn), .ref hm, .ref bd]) (n := 5) (Nat.le_of_ble_eq_true rfl)
  rw [lg_entry_eq]
  generalize (lg_sl ([.ref sa, .int (nI nn), .ref hm, .ref bd]) ++ List.replicate (5 - (lg_sl ([.ref sa, .int (nI nn), .ref hm, .ref bd])).length) Slot.unset).toArray = ls at hl ⊢
  have hl : lv_has ls 5 [(0, .ref sa), (1, .int (nI nn)), (2, .ref hm), (3, .ref bd)] := hl
  refine lv_aload_n hx hb dX2_find_0 rfl (lv_at hl 0 rfl) ?_
  refine lv_iload_n hx hb dX2_find_1 rfl (lv_at hl 1 rfl) ?_
  refine va_put (D := D) (ci := 4) (v := .int (nI nn)) (ty := .int) (C := RX2) (T := TX2) (N := 9) hx hb hts inX2_find_X2 tyX2 tyX2_ok nmX2 hown hK.1 hP hD hS 0 rfl rfl 5 (by decide) (hts _ lkX2_find_24) (fun _ h9 => h9) rfl (by decide +kernel) rfl rfl (Nat.le_of_ble_eq_true rfl) dX2_find_2 (fun H locs hP hD hS => ?_)
  have hP : va_P D vwCl [(sa, .inr (4, [.ref ra, .ref le, .ref ho, .ref tr, .ref ke, .int (nI nn), .int (nI kc), .int (nI cb), .int (nI ef)])), (le, .inl (cA, 72, .inl (aN fle))), (ho, .inl (cA, 8, .inl (aN fho))), (tr, .inl (cA, 8, .inl (aN ftr))), (ke, .inl (cA, 8, .inl (aN fke))), (ra, .inr (3, [.ref al, .ref be])), (al, .inl (cA, 8, .inl (aN fal))), (be, .inl (cA, 448, .inl (aN fbe))), (hm, .inl (cA, 8, .inl (aN fhm))), (bd, .inl (cA, 8, .inl (aN fbd)))] H := hP
  have hD : va_D A [(sa, .inr (4, [.ref ra, .ref le, .ref ho, .ref tr, .ref ke, .int (nI nn), .int (nI kc), .int (nI cb), .int (nI ef)])), (le, .inl (cA, 72, .inl (aN fle))), (ho, .inl (cA, 8, .inl (aN fho))), (tr, .inl (cA, 8, .inl (aN ftr))), (ke, .inl (cA, 8, .inl (aN fke))), (ra, .inr (3, [.ref al, .ref be])), (al, .inl (cA, 8, .inl (aN fal))), (be, .inl (cA, 448, .inl (aN fbe))), (hm, .inl (cA, 8, .inl (aN fhm))), (bd, .inl (cA, 8, .inl (aN fbd)))] := hD
  refine lv_aload_n hx hb dX2_find_5 rfl (lv_at hl 0 rfl) ?_
  refine lv_sipush (v := nI 144) hx hb dX2_find_6 (by decide) ?_
  refine va_put (D := D) (ci := 4) (v := .int (nI 144)) (ty := .int) (C := RX2) (T := TX2) (N := 9) hx hb hts inX2_find_X2 tyX2 tyX2_ok nmX2 hown hK.1 hP hD hS 0 rfl rfl 6 (by decide) (hts _ lkX2_find_28) (fun _ h9 => h9) rfl (by decide +kernel) rfl rfl (Nat.le_of_ble_eq_true rfl) dX2_find_9 (fun H locs hP hD hS => ?_)
  have hP : va_P D vwCl [(sa, .inr (4, [.ref ra, .ref le, .ref ho, .ref tr, .ref ke, .int (nI nn), .int (nI 144), .int (nI cb), .int (nI ef)])), (le, .inl (cA, 72, .inl (aN fle))), (ho, .inl (cA, 8, .inl (aN fho))), (tr, .inl (cA, 8, .inl (aN ftr))), (ke, .inl (cA, 8, .inl (aN fke))), (ra, .inr (3, [.ref al, .ref be])), (al, .inl (cA, 8, .inl (aN fal))), (be, .inl (cA, 448, .inl (aN fbe))), (hm, .inl (cA, 8, .inl (aN fhm))), (bd, .inl (cA, 8, .inl (aN fbd)))] H := hP
  have hD : va_D A [(sa, .inr (4, [.ref ra, .ref le, .ref ho, .ref tr, .ref ke, .int (nI nn), .int (nI 144), .int (nI cb), .int (nI ef)])), (le, .inl (cA, 72, .inl (aN fle))), (ho, .inl (cA, 8, .inl (aN fho))), (tr, .inl (cA, 8, .inl (aN ftr))), (ke, .inl (cA, 8, .inl (aN fke))), (ra, .inr (3, [.ref al, .ref be])), (al, .inl (cA, 8, .inl (aN fal))), (be, .inl (cA, 448, .inl (aN fbe))), (hm, .inl (cA, 8, .inl (aN fhm))), (bd, .inl (cA, 8, .inl (aN fbd)))] := hD
  refine lv_aload_n hx hb dX2_find_12 rfl (lv_at hl 0 rfl) ?_
  refine lv_sipush (v := nI 144) hx hb dX2_find_13 (by decide) ?_
  refine va_put (D := D) (ci := 4) (v := .int (nI 144)) (ty := .int) (C := RX2) (T := TX2) (N := 9) hx hb hts inX2_find_X2 tyX2 tyX2_ok nmX2 hown hK.1 hP hD hS 0 rfl rfl 7 (by decide) (hts _ lkX2_find_31) (fun _ h9 => h9) rfl (by decide +kernel) rfl rfl (Nat.le_of_ble_eq_true rfl) dX2_find_16 (fun H locs hP hD hS => ?_)
  have hP : va_P D vwCl [(sa, .inr (4, [.ref ra, .ref le, .ref ho, .ref tr, .ref ke, .int (nI nn), .int (nI 144), .int (nI 144), .int (nI ef)])), (le, .inl (cA, 72, .inl (aN fle))), (ho, .inl (cA, 8, .inl (aN fho))), (tr, .inl (cA, 8, .inl (aN ftr))), (ke, .inl (cA, 8, .inl (aN fke))), (ra, .inr (3, [.ref al, .ref be])), (al, .inl (cA, 8, .inl (aN fal))), (be, .inl (cA, 448, .inl (aN fbe))), (hm, .inl (cA, 8, .inl (aN fhm))), (bd, .inl (cA, 8, .inl (aN fbd)))] H := hP
  have hD : va_D A [(sa, .inr (4, [.ref ra, .ref le, .ref ho, .ref tr, .ref ke, .int (nI nn), .int (nI 144), .int (nI 144), .int (nI ef)])), (le, .inl (cA, 72, .inl (aN fle))), (ho, .inl (cA, 8, .inl (aN fho))), (tr, .inl (cA, 8, .inl (aN ftr))), (ke, .inl (cA, 8, .inl (aN fke))), (ra, .inr (3, [.ref al, .ref be])), (al, .inl (cA, 8, .inl (aN fal))), (be, .inl (cA, 448, .inl (aN fbe))), (hm, .inl (cA, 8, .inl (aN fhm))), (bd, .inl (cA, 8, .inl (aN fbd)))] := hD
  refine lv_iconst (v := nI 0) hx hb dX2_find_19 (by decide) ?_
  refine lv_istore (lv' := [(4, .int (nI 0)), (0, .ref sa), (1, .int (nI nn)), (2, .ref hm), (3, .ref bd)]) hx hb dX2_find_20 hl (by decide) rfl (fun ls hl => ?_)
  refine bX2_find hx hb hml hown hts hK hA sa le ho tr ke ra al be hm bd ftr fke fal fbe fhm fbd ef nn hn  nn 0 (fho, fle) (by omega) _ _ ls hP hD hS (lv_sub hl [1, 2, 3, 4, 0] rfl) (fun H locs ls hP hD hS hl => ?_)
  refine lv_aload_n hx hb dX2_find_69 rfl (lv_at hl 0 rfl) ?_
  refine lv_iconst (v := nI 0) hx hb dX2_find_70 (by decide) ?_
  refine lv_iconst (v := nI 0) hx hb dX2_find_71 (by decide) ?_
  refine zz_callV (av := []) (wc := [(sa, .inr (4, [.ref ra, .ref le, .ref ho, .ref tr, .ref ke, .int (nI nn), .int (nI (((findY nn fhm fbd fal fho fle).2, ftr, fke, 144, 144).2.2.2.1)), .int (nI (((findY nn fhm fbd fal fho fle).2, ftr, fke, 144, 144).2.2.2.2)), .int (nI ef)])), (le, .inl (cA, 72, .inl (aN (((findY nn fhm fbd fal fho fle).2, ftr, fke, 144, 144).1)))), (ho, .inl (cA, 8, .inl (aN ((zlp (findBody fhm fbd fal) nn 0 (fho, fle)).1)))), (tr, .inl (cA, 8, .inl (aN (((findY nn fhm fbd fal fho fle).2, ftr, fke, 144, 144).2.1)))), (ke, .inl (cA, 8, .inl (aN (((findY nn fhm fbd fal fho fle).2, ftr, fke, 144, 144).2.2.1)))), (ra, .inr (3, [.ref al, .ref be])), (al, .inl (cA, 8, .inl (aN fal))), (be, .inl (cA, 448, .inl (aN fbe)))]) (wr := [(hm, .inl (cA, 8, .inl (aN fhm))), (bd, .inl (cA, 8, .inl (aN fbd)))]) hS hA hP hD [0, 1, 2, 3, 4, 5, 6, 7] [8, 9] rfl rfl (by decide) (by decide) (va_runV (As := [.int (nI 0), .int (nI 0)]) (rest := []) ⟨hx, hb, hml, hown, hts⟩ (kX2_gf l D cA sa le ho tr ke ra al be (findY nn fhm fbd fal fho fle).1 fal fbe nn ef hn (findY_inv h1 h2 h3 h4).1 he nn H.size 0 0 ((findY nn fhm fbd fal fho fle).2, ftr, fke, 144, 144) (by omega) (by omega) ⟨(findY_inv h1 h2 h3 h4).2, Nat.le_refl _⟩) (cwV 2 hts gX2_find_X2_giveFrom rfl rfl rfl (by decide +kernel) ⟨by show (2 * nn + 2) + 1 ≤ 19; omega, by show 8 + (6 + 11) + (49 * nn + 30) ≤ 447; omega⟩) ⟨(zPreS (av := [.ref sa, .int (nI 0), .int (nI 0)]) (wc := [(sa, .inr (4, [.ref ra, .ref le, .ref ho, .ref tr, .ref ke, .int (nI nn), .int (nI (((findY nn fhm fbd fal fho fle).2, ftr, fke, 144, 144).2.2.2.1)), .int (nI (((findY nn fhm fbd fal fho fle).2, ftr, fke, 144, 144).2.2.2.2)), .int (nI ef)])), (le, .inl (cA, 72, .inl (aN (((findY nn fhm fbd fal fho fle).2, ftr, fke, 144, 144).1)))), (ho, .inl (cA, 8, .inl (aN ((zlp (findBody fhm fbd fal) nn 0 (fho, fle)).1)))), (tr, .inl (cA, 8, .inl (aN (((findY nn fhm fbd fal fho fle).2, ftr, fke, 144, 144).2.1)))), (ke, .inl (cA, 8, .inl (aN (((findY nn fhm fbd fal fho fle).2, ftr, fke, 144, 144).2.2.1)))), (ra, .inr (3, [.ref al, .ref be])), (al, .inl (cA, 8, .inl (aN fal))), (be, .inl (cA, 448, .inl (aN fbe)))]) hK hP hD [0, 1, 2, 3, 4, 5, 6, 7] rfl (by decide) rfl).1, (va_recv hK.1 hP (ci := 4) (q0 := 0) rfl rfl), (zPreS (av := [.ref sa, .int (nI 0), .int (nI 0)]) (wc := [(sa, .inr (4, [.ref ra, .ref le, .ref ho, .ref tr, .ref ke, .int (nI nn), .int (nI (((findY nn fhm fbd fal fho fle).2, ftr, fke, 144, 144).2.2.2.1)), .int (nI (((findY nn fhm fbd fal fho fle).2, ftr, fke, 144, 144).2.2.2.2)), .int (nI ef)])), (le, .inl (cA, 72, .inl (aN (((findY nn fhm fbd fal fho fle).2, ftr, fke, 144, 144).1)))), (ho, .inl (cA, 8, .inl (aN ((zlp (findBody fhm fbd fal) nn 0 (fho, fle)).1)))), (tr, .inl (cA, 8, .inl (aN (((findY nn fhm fbd fal fho fle).2, ftr, fke, 144, 144).2.1)))), (ke, .inl (cA, 8, .inl (aN (((findY nn fhm fbd fal fho fle).2, ftr, fke, 144, 144).2.2.1)))), (ra, .inr (3, [.ref al, .ref be])), (al, .inl (cA, 8, .inl (aN fal))), (be, .inl (cA, 448, .inl (aN fbe)))]) hK hP hD [0, 1, 2, 3, 4, 5, 6, 7] rfl (by decide) rfl).2⟩ rfl rfl hl.1 rfl (lv_room (Nat.le_of_ble_eq_true rfl)) dX2_find_72 ⟨Nat.zero_le _, Nat.zero_le _⟩) (fun H locs hP hD hS => ?_)
  have hP : va_P D vwCl [(hm, .inl (cA, 8, .inl (aN fhm))), (bd, .inl (cA, 8, .inl (aN fbd))), (sa, .inr (4, [.ref ra, .ref le, .ref ho, .ref tr, .ref ke, .int (nI nn), .int (nI ((giveFromF nn ef fbe ((zlp (findBody fhm fbd fal) nn 0 (fho, fle)).1) nn 0 0 ((findY nn fhm fbd fal fho fle).2, ftr, fke, 144, 144)).2.2.2.1)), .int (nI ((giveFromF nn ef fbe ((zlp (findBody fhm fbd fal) nn 0 (fho, fle)).1) nn 0 0 ((findY nn fhm fbd fal fho fle).2, ftr, fke, 144, 144)).2.2.2.2)), .int (nI ef)])), (le, .inl (cA, 72, .inl (aN ((giveFromF nn ef fbe ((zlp (findBody fhm fbd fal) nn 0 (fho, fle)).1) nn 0 0 ((findY nn fhm fbd fal fho fle).2, ftr, fke, 144, 144)).1)))), (ho, .inl (cA, 8, .inl (aN ((zlp (findBody fhm fbd fal) nn 0 (fho, fle)).1)))), (tr, .inl (cA, 8, .inl (aN ((giveFromF nn ef fbe ((zlp (findBody fhm fbd fal) nn 0 (fho, fle)).1) nn 0 0 ((findY nn fhm fbd fal fho fle).2, ftr, fke, 144, 144)).2.1)))), (ke, .inl (cA, 8, .inl (aN ((giveFromF nn ef fbe ((zlp (findBody fhm fbd fal) nn 0 (fho, fle)).1) nn 0 0 ((findY nn fhm fbd fal fho fle).2, ftr, fke, 144, 144)).2.2.1)))), (ra, .inr (3, [.ref al, .ref be])), (al, .inl (cA, 8, .inl (aN fal))), (be, .inl (cA, 448, .inl (aN fbe)))] H := hP
  have hD : va_D A [(hm, .inl (cA, 8, .inl (aN fhm))), (bd, .inl (cA, 8, .inl (aN fbd))), (sa, .inr (4, [.ref ra, .ref le, .ref ho, .ref tr, .ref ke, .int (nI nn), .int (nI ((giveFromF nn ef fbe ((zlp (findBody fhm fbd fal) nn 0 (fho, fle)).1) nn 0 0 ((findY nn fhm fbd fal fho fle).2, ftr, fke, 144, 144)).2.2.2.1)), .int (nI ((giveFromF nn ef fbe ((zlp (findBody fhm fbd fal) nn 0 (fho, fle)).1) nn 0 0 ((findY nn fhm fbd fal fho fle).2, ftr, fke, 144, 144)).2.2.2.2)), .int (nI ef)])), (le, .inl (cA, 72, .inl (aN ((giveFromF nn ef fbe ((zlp (findBody fhm fbd fal) nn 0 (fho, fle)).1) nn 0 0 ((findY nn fhm fbd fal fho fle).2, ftr, fke, 144, 144)).1)))), (ho, .inl (cA, 8, .inl (aN ((zlp (findBody fhm fbd fal) nn 0 (fho, fle)).1)))), (tr, .inl (cA, 8, .inl (aN ((giveFromF nn ef fbe ((zlp (findBody fhm fbd fal) nn 0 (fho, fle)).1) nn 0 0 ((findY nn fhm fbd fal fho fle).2, ftr, fke, 144, 144)).2.1)))), (ke, .inl (cA, 8, .inl (aN ((giveFromF nn ef fbe ((zlp (findBody fhm fbd fal) nn 0 (fho, fle)).1) nn 0 0 ((findY nn fhm fbd fal fho fle).2, ftr, fke, 144, 144)).2.2.1)))), (ra, .inr (3, [.ref al, .ref be])), (al, .inl (cA, 8, .inl (aN fal))), (be, .inl (cA, 448, .inl (aN fbe)))] := hD
  have hP : va_P D vwCl [(sa, .inr (4, [.ref ra, .ref le, .ref ho, .ref tr, .ref ke, .int (nI nn), .int (nI ((giveFromF nn ef fbe ((zlp (findBody fhm fbd fal) nn 0 (fho, fle)).1) nn 0 0 ((findY nn fhm fbd fal fho fle).2, ftr, fke, 144, 144)).2.2.2.1)), .int (nI ((giveFromF nn ef fbe ((zlp (findBody fhm fbd fal) nn 0 (fho, fle)).1) nn 0 0 ((findY nn fhm fbd fal fho fle).2, ftr, fke, 144, 144)).2.2.2.2)), .int (nI ef)])), (le, .inl (cA, 72, .inl (aN ((giveFromF nn ef fbe ((zlp (findBody fhm fbd fal) nn 0 (fho, fle)).1) nn 0 0 ((findY nn fhm fbd fal fho fle).2, ftr, fke, 144, 144)).1)))), (ho, .inl (cA, 8, .inl (aN ((zlp (findBody fhm fbd fal) nn 0 (fho, fle)).1)))), (tr, .inl (cA, 8, .inl (aN ((giveFromF nn ef fbe ((zlp (findBody fhm fbd fal) nn 0 (fho, fle)).1) nn 0 0 ((findY nn fhm fbd fal fho fle).2, ftr, fke, 144, 144)).2.1)))), (ke, .inl (cA, 8, .inl (aN ((giveFromF nn ef fbe ((zlp (findBody fhm fbd fal) nn 0 (fho, fle)).1) nn 0 0 ((findY nn fhm fbd fal fho fle).2, ftr, fke, 144, 144)).2.2.1)))), (ra, .inr (3, [.ref al, .ref be])), (al, .inl (cA, 8, .inl (aN fal))), (be, .inl (cA, 448, .inl (aN fbe))), (hm, .inl (cA, 8, .inl (aN fhm))), (bd, .inl (cA, 8, .inl (aN fbd)))] H := hP.sub [2, 3, 4, 5, 6, 7, 8, 9, 0, 1] rfl
  have hD : va_D A [(sa, .inr (4, [.ref ra, .ref le, .ref ho, .ref tr, .ref ke, .int (nI nn), .int (nI ((giveFromF nn ef fbe ((zlp (findBody fhm fbd fal) nn 0 (fho, fle)).1) nn 0 0 ((findY nn fhm fbd fal fho fle).2, ftr, fke, 144, 144)).2.2.2.1)), .int (nI ((giveFromF nn ef fbe ((zlp (findBody fhm fbd fal) nn 0 (fho, fle)).1) nn 0 0 ((findY nn fhm fbd fal fho fle).2, ftr, fke, 144, 144)).2.2.2.2)), .int (nI ef)])), (le, .inl (cA, 72, .inl (aN ((giveFromF nn ef fbe ((zlp (findBody fhm fbd fal) nn 0 (fho, fle)).1) nn 0 0 ((findY nn fhm fbd fal fho fle).2, ftr, fke, 144, 144)).1)))), (ho, .inl (cA, 8, .inl (aN ((zlp (findBody fhm fbd fal) nn 0 (fho, fle)).1)))), (tr, .inl (cA, 8, .inl (aN ((giveFromF nn ef fbe ((zlp (findBody fhm fbd fal) nn 0 (fho, fle)).1) nn 0 0 ((findY nn fhm fbd fal fho fle).2, ftr, fke, 144, 144)).2.1)))), (ke, .inl (cA, 8, .inl (aN ((giveFromF nn ef fbe ((zlp (findBody fhm fbd fal) nn 0 (fho, fle)).1) nn 0 0 ((findY nn fhm fbd fal fho fle).2, ftr, fke, 144, 144)).2.2.1)))), (ra, .inr (3, [.ref al, .ref be])), (al, .inl (cA, 8, .inl (aN fal))), (be, .inl (cA, 448, .inl (aN fbe))), (hm, .inl (cA, 8, .inl (aN fhm))), (bd, .inl (cA, 8, .inl (aN fbd)))] := hD.sub [2, 3, 4, 5, 6, 7, 8, 9, 0, 1] (by decide) rfl
  refine lv_aload_n hx hb dX2_find_75 rfl (lv_at hl 0 rfl) ?_
  refine va_get (D := D) (ci := 4) (v := .int (nI ((giveFromF nn ef fbe ((zlp (findBody fhm fbd fal) nn 0 (fho, fle)).1) nn 0 0 ((findY nn fhm fbd fal fho fle).2, ftr, fke, 144, 144)).2.2.2.1))) (C := RX2) (T := TX2) (N := 9) hx hb hts inX2_find_X2 hown hK.1 hP 0 rfl rfl 6 (by decide) (hts _ lkX2_find_28) (fun _ h9 => h9) rfl dX2_find_76 ?_
  refine lv_sipush (v := nI 144) hx hb dX2_find_79 (by decide) ?_
  have hk9 : (findX nn ef fbe fhm fbd fal fho fle ftr fke).2.2.2.1 ≤ 144 := findX_kc hn
  refine nn_icmp_ge (tgt := 89) hx hb dX2_find_82 (by decide) (by show (findX nn ef fbe fhm fbd fal fho fle ftr fke).2.2.2.1 < _; omega) (by omega) (fun c_82 => ?_) (fun c_82 => ?_)
  · refine lv_iconst (v := nI 0) hx hb dX2_find_89 (by decide) ?_
    have eW : ([(sa, .inr (4, [.ref ra, .ref le, .ref ho, .ref tr, .ref ke, .int (nI nn), .int (nI ((giveFromF nn ef fbe ((zlp (findBody fhm fbd fal) nn 0 (fho, fle)).1) nn 0 0 ((findY nn fhm fbd fal fho fle).2, ftr, fke, 144, 144)).2.2.2.1)), .int (nI ((giveFromF nn ef fbe ((zlp (findBody fhm fbd fal) nn 0 (fho, fle)).1) nn 0 0 ((findY nn fhm fbd fal fho fle).2, ftr, fke, 144, 144)).2.2.2.2)), .int (nI ef)])), (le, .inl (cA, 72, .inl (aN ((giveFromF nn ef fbe ((zlp (findBody fhm fbd fal) nn 0 (fho, fle)).1) nn 0 0 ((findY nn fhm fbd fal fho fle).2, ftr, fke, 144, 144)).1)))), (ho, .inl (cA, 8, .inl (aN ((zlp (findBody fhm fbd fal) nn 0 (fho, fle)).1)))), (tr, .inl (cA, 8, .inl (aN ((giveFromF nn ef fbe ((zlp (findBody fhm fbd fal) nn 0 (fho, fle)).1) nn 0 0 ((findY nn fhm fbd fal fho fle).2, ftr, fke, 144, 144)).2.1)))), (ke, .inl (cA, 8, .inl (aN ((giveFromF nn ef fbe ((zlp (findBody fhm fbd fal) nn 0 (fho, fle)).1) nn 0 0 ((findY nn fhm fbd fal fho fle).2, ftr, fke, 144, 144)).2.2.1)))), (ra, .inr (3, [.ref al, .ref be])), (al, .inl (cA, 8, .inl (aN fal))), (be, .inl (cA, 448, .inl (aN fbe))), (hm, .inl (cA, 8, .inl (aN fhm))), (bd, .inl (cA, 8, .inl (aN fbd)))] : va_W) = [(sa, .inr (4, [.ref ra, .ref le, .ref ho, .ref tr, .ref ke, .int (nI nn), .int (nI ((findX nn ef fbe fhm fbd fal fho fle ftr fke).2.2.2.1)), .int (nI ((findX nn ef fbe fhm fbd fal fho fle ftr fke).2.2.2.2)), .int (nI ef)])), (le, .inl (cA, 72, .inl (aN ((findX nn ef fbe fhm fbd fal fho fle ftr fke).1)))), (ho, .inl (cA, 8, .inl (aN ((findY nn fhm fbd fal fho fle).1)))), (tr, .inl (cA, 8, .inl (aN ((findX nn ef fbe fhm fbd fal fho fle ftr fke).2.1)))), (ke, .inl (cA, 8, .inl (aN ((findX nn ef fbe fhm fbd fal fho fle ftr fke).2.2.1)))), (ra, .inr (3, [.ref al, .ref be])), (al, .inl (cA, 8, .inl (aN fal))), (be, .inl (cA, 448, .inl (aN fbe))), (hm, .inl (cA, 8, .inl (aN fhm))), (bd, .inl (cA, 8, .inl (aN fbd)))] := by rfl
    rw [eW] at hP hD
    exact W.zret (v := (nI 0)) hx hb hr rfl (fun t ht hW => ⟨⟨(nI 0), (), rfl, (by first | exact congrArg nI (if_pos (Nat.lt_of_not_le c_82)).symm | exact congrArg nI (if_neg (Nat.not_lt_of_le c_82)).symm), by rw [ht]; exact hP, hD⟩, hS.F ht⟩) hS.2.2 dX2_find_90
  · refine lv_iconst (v := nI 1) hx hb dX2_find_85 (by decide) ?_
    refine lv_goto (tgt := 90) hx hb dX2_find_86 (by decide) ?_
    have eW : ([(sa, .inr (4, [.ref ra, .ref le, .ref ho, .ref tr, .ref ke, .int (nI nn), .int (nI ((giveFromF nn ef fbe ((zlp (findBody fhm fbd fal) nn 0 (fho, fle)).1) nn 0 0 ((findY nn fhm fbd fal fho fle).2, ftr, fke, 144, 144)).2.2.2.1)), .int (nI ((giveFromF nn ef fbe ((zlp (findBody fhm fbd fal) nn 0 (fho, fle)).1) nn 0 0 ((findY nn fhm fbd fal fho fle).2, ftr, fke, 144, 144)).2.2.2.2)), .int (nI ef)])), (le, .inl (cA, 72, .inl (aN ((giveFromF nn ef fbe ((zlp (findBody fhm fbd fal) nn 0 (fho, fle)).1) nn 0 0 ((findY nn fhm fbd fal fho fle).2, ftr, fke, 144, 144)).1)))), (ho, .inl (cA, 8, .inl (aN ((zlp (findBody fhm fbd fal) nn 0 (fho, fle)).1)))), (tr, .inl (cA, 8, .inl (aN ((giveFromF nn ef fbe ((zlp (findBody fhm fbd fal) nn 0 (fho, fle)).1) nn 0 0 ((findY nn fhm fbd fal fho fle).2, ftr, fke, 144, 144)).2.1)))), (ke, .inl (cA, 8, .inl (aN ((giveFromF nn ef fbe ((zlp (findBody fhm fbd fal) nn 0 (fho, fle)).1) nn 0 0 ((findY nn fhm fbd fal fho fle).2, ftr, fke, 144, 144)).2.2.1)))), (ra, .inr (3, [.ref al, .ref be])), (al, .inl (cA, 8, .inl (aN fal))), (be, .inl (cA, 448, .inl (aN fbe))), (hm, .inl (cA, 8, .inl (aN fhm))), (bd, .inl (cA, 8, .inl (aN fbd)))] : va_W) = [(sa, .inr (4, [.ref ra, .ref le, .ref ho, .ref tr, .ref ke, .int (nI nn), .int (nI ((findX nn ef fbe fhm fbd fal fho fle ftr fke).2.2.2.1)), .int (nI ((findX nn ef fbe fhm fbd fal fho fle ftr fke).2.2.2.2)), .int (nI ef)])), (le, .inl (cA, 72, .inl (aN ((findX nn ef fbe fhm fbd fal fho fle ftr fke).1)))), (ho, .inl (cA, 8, .inl (aN ((findY nn fhm fbd fal fho fle).1)))), (tr, .inl (cA, 8, .inl (aN ((findX nn ef fbe fhm fbd fal fho fle ftr fke).2.1)))), (ke, .inl (cA, 8, .inl (aN ((findX nn ef fbe fhm fbd fal fho fle ftr fke).2.2.1)))), (ra, .inr (3, [.ref al, .ref be])), (al, .inl (cA, 8, .inl (aN fal))), (be, .inl (cA, 448, .inl (aN fbe))), (hm, .inl (cA, 8, .inl (aN fhm))), (bd, .inl (cA, 8, .inl (aN fbd)))] := by rfl
    rw [eW] at hP hD
    exact W.zret (v := (nI 1)) hx hb hr rfl (fun t ht hW => ⟨⟨(nI 1), (), rfl, (by first | exact congrArg nI (if_pos (Nat.lt_of_not_le c_82)).symm | exact congrArg nI (if_neg (Nat.not_lt_of_le c_82)).symm), by rw [ht]; exact hP, hD⟩, hS.F ht⟩) hS.2.2 dX2_find_90

theorem lkX2_findBest_34 : Cond.fieldLink RX2 34 "LeastChange$Search" "endsWithFirst" "Z" ∈ wsX2_findBest := by decide +kernel
theorem inX2_findBest_X2 : ∀ w ∈ wsX20, w ∈ wsX2_findBest := by decide +kernel
set_option maxHeartbeats 4000000 in
set_option maxRecDepth 100000 in
theorem kX2_findBest (l : Launch) (D : va_G) (cA : ClassId) (sz : Nat) (sa : Nat) (le : Nat) (ho : Nat) (tr : Nat) (ke : Nat) (ra : Nat) (al : Nat) (be : Nat) (hm : Nat) (bd : Nat) (fle : Nat → Nat) (fho : Nat → Nat) (ftr : Nat → Nat) (fke : Nat → Nat) (fal : Nat → Nat) (fbe : Nat → Nat) (fhm : Nat → Nat) (fbd : Nat → Nat) (nm : Nat) (kc : Nat) (cb : Nat) (ef : Nat) (nn : Nat) (hn : nn ≤ 8) (h1 : ∀ j, fhm j < 32) (h2 : ∀ j, fho j < 32) (h3 : ∀ j, fal j < 128) (h4 : ∀ j, fle j < 128) : zMi l yX2_findBest wsX2_findBest ({ frames := 20, cells := 0, slots := 0, locals := 471 }) D cA [.ref sa, .int (nI nn), .ref hm, .ref bd] sz [(sa, .inr (4, [.ref ra, .ref le, .ref ho, .ref tr, .ref ke, .int (nI nm), .int (nI kc), .int (nI cb), .int (nI ef)])), (le, .inl (cA, 72, .inl (aN fle))), (ho, .inl (cA, 8, .inl (aN fho))), (tr, .inl (cA, 8, .inl (aN ftr))), (ke, .inl (cA, 8, .inl (aN fke))), (ra, .inr (3, [.ref al, .ref be])), (al, .inl (cA, 8, .inl (aN fal))), (be, .inl (cA, 448, .inl (aN fbe))), (hm, .inl (cA, 8, .inl (aN fhm))), (bd, .inl (cA, 8, .inl (aN fbd)))] [(sa, .inr (4, [.ref ra, .ref le, .ref ho, .ref tr, .ref ke, .int (nI nn), .int (nI ((findX nn 0 fbe fhm fbd fal fho fle ftr fke).2.2.2.1)), .int (nI ((findX nn 0 fbe fhm fbd fal fho fle ftr fke).2.2.2.2)), .int (nI 0)])), (le, .inl (cA, 72, .inl (aN ((findX nn 0 fbe fhm fbd fal fho fle ftr fke).1)))), (ho, .inl (cA, 8, .inl (aN ((findY nn fhm fbd fal fho fle).1)))), (tr, .inl (cA, 8, .inl (aN ((findX nn 0 fbe fhm fbd fal fho fle ftr fke).2.1)))), (ke, .inl (cA, 8, .inl (aN ((findX nn 0 fbe fhm fbd fal fho fle ftr fke).2.2.1)))), (ra, .inr (3, [.ref al, .ref be])), (al, .inl (cA, 8, .inl (aN fal))), (be, .inl (cA, 448, .inl (aN fbe))), (hm, .inl (cA, 8, .inl (aN fhm))), (bd, .inl (cA, 8, .inl (aN fbd)))] (nI (if (findX nn 0 fbe fhm fbd fal fho fle ftr fke).2.2.2.1 < 144 then 1 else 0)) := by
  refine Met.ofW (cc := cX2_findBest) (maxL := 4) (ret := (some .boolean)) (by decide) rfl ?_
  intro p e s m args below meth c s₁ B hml hv
  obtain ⟨rfl, hsz, hP, hK, hD0⟩ := hv
  have hx := B.exec
  have hb := B.bytes
  have hr := B.returns
  have hts := atoms_spec (ws := wsX2_findBest) B.pre
  have hown : s.vm.findClass RX2 = some m.cls := findClass_of_methodNamed B.named
  have hlocks := B.notSynchronized
  subst hsz
  have hD := hD0.self (sz := s.heap.size)
  generalize hAe : va_A [(sa, .inr (4, [.ref ra, .ref le, .ref ho, .ref tr, .ref ke, .int (nI nm), .int (nI kc), .int (nI cb), .int (nI ef)])), (le, .inl (cA, 72, .inl (aN fle))), (ho, .inl (cA, 8, .inl (aN fho))), (tr, .inl (cA, 8, .inl (aN ftr))), (ke, .inl (cA, 8, .inl (aN fke))), (ra, .inr (3, [.ref al, .ref be])), (al, .inl (cA, 8, .inl (aN fal))), (be, .inl (cA, 448, .inl (aN fbe))), (hm, .inl (cA, 8, .inl (aN fhm))), (bd, .inl (cA, 8, .inl (aN fbd)))] s.heap.size = A at hD ⊢
  have hA : ∀ q : Nat, s.heap.size ≤ q → A q := fun q h => by rw [← hAe]; exact Or.inr h
  have hS : va_S A s.heap s.heap [] := va_S.rf
  have hP : va_P D vwCl [(sa, .inr (4, [.ref ra, .ref le, .ref ho, .ref tr, .ref ke, .int (nI nm), .int (nI kc), .int (nI cb), .int (nI ef)])), (le, .inl (cA, 72, .inl (aN fle))), (ho, .inl (cA, 8, .inl (aN fho))), (tr, .inl (cA, 8, .inl (aN ftr))), (ke, .inl (cA, 8, .inl (aN fke))), (ra, .inr (3, [.ref al, .ref be])), (al, .inl (cA, 8, .inl (aN fal))), (be, .inl (cA, 448, .inl (aN fbe))), (hm, .inl (cA, 8, .inl (aN fhm))), (bd, .inl (cA, 8, .inl (aN fbd)))] s.heap := hP
  have hl := lv_entry ([.ref sa, .int (nI nn), .ref hm, .ref bd]) (n := 4) (Nat.le_of_ble_eq_true rfl)
  rw [lg_entry_eq]
  generalize (lg_sl ([.ref sa, .int (nI nn), .ref hm, .ref bd]) ++ List.replicate (4 - (lg_sl ([.ref sa, .int (nI nn), .ref hm, .ref bd])).length) Slot.unset).toArray = ls at hl ⊢
  have hl : lv_has ls 4 [(0, .ref sa), (1, .int (nI nn)), (2, .ref hm), (3, .ref bd)] := hl
  refine lv_aload_n hx hb dX2_findBest_0 rfl (lv_at hl 0 rfl) ?_
  refine lv_iconst (v := nI 0) hx hb dX2_findBest_1 (by decide) ?_
  refine va_put (D := D) (ci := 4) (v := .int (nI 0)) (ty := .boolean) (C := RX2) (T := TX2) (N := 9) hx hb hts inX2_findBest_X2 tyX2 tyX2_ok nmX2 hown hK.1 hP hD hS 0 rfl rfl 8 (by decide) (hts _ lkX2_findBest_34) (fun _ h9 => h9) rfl (by decide +kernel) rfl rfl (Nat.le_of_ble_eq_true rfl) dX2_findBest_2 (fun H locs hP hD hS => ?_)
  have hP : va_P D vwCl [(sa, .inr (4, [.ref ra, .ref le, .ref ho, .ref tr, .ref ke, .int (nI nm), .int (nI kc), .int (nI cb), .int (nI 0)])), (le, .inl (cA, 72, .inl (aN fle))), (ho, .inl (cA, 8, .inl (aN fho))), (tr, .inl (cA, 8, .inl (aN ftr))), (ke, .inl (cA, 8, .inl (aN fke))), (ra, .inr (3, [.ref al, .ref be])), (al, .inl (cA, 8, .inl (aN fal))), (be, .inl (cA, 448, .inl (aN fbe))), (hm, .inl (cA, 8, .inl (aN fhm))), (bd, .inl (cA, 8, .inl (aN fbd)))] H := hP
  have hD : va_D A [(sa, .inr (4, [.ref ra, .ref le, .ref ho, .ref tr, .ref ke, .int (nI nm), .int (nI kc), .int (nI cb), .int (nI 0)])), (le, .inl (cA, 72, .inl (aN fle))), (ho, .inl (cA, 8, .inl (aN fho))), (tr, .inl (cA, 8, .inl (aN ftr))), (ke, .inl (cA, 8, .inl (aN fke))), (ra, .inr (3, [.ref al, .ref be])), (al, .inl (cA, 8, .inl (aN fal))), (be, .inl (cA, 448, .inl (aN fbe))), (hm, .inl (cA, 8, .inl (aN fhm))), (bd, .inl (cA, 8, .inl (aN fbd)))] := hD
  refine lv_aload_n hx hb dX2_findBest_5 rfl (lv_at hl 0 rfl) ?_
  refine lv_iload_n hx hb dX2_findBest_6 rfl (lv_at hl 1 rfl) ?_
  refine lv_aload_n hx hb dX2_findBest_7 rfl (lv_at hl 2 rfl) ?_
  refine lv_aload_n hx hb dX2_findBest_8 rfl (lv_at hl 3 rfl) ?_
  refine zz_callI (av := []) (wc := [(sa, .inr (4, [.ref ra, .ref le, .ref ho, .ref tr, .ref ke, .int (nI nm), .int (nI kc), .int (nI cb), .int (nI 0)])), (le, .inl (cA, 72, .inl (aN fle))), (ho, .inl (cA, 8, .inl (aN fho))), (tr, .inl (cA, 8, .inl (aN ftr))), (ke, .inl (cA, 8, .inl (aN fke))), (ra, .inr (3, [.ref al, .ref be])), (al, .inl (cA, 8, .inl (aN fal))), (be, .inl (cA, 448, .inl (aN fbe))), (hm, .inl (cA, 8, .inl (aN fhm))), (bd, .inl (cA, 8, .inl (aN fbd)))]) (wr := []) hS hA hP hD [0, 1, 2, 3, 4, 5, 6, 7, 8, 9] [] rfl rfl (by decide) (by decide) (va_runV (As := [.int (nI nn), .ref hm, .ref bd]) (rest := []) ⟨hx, hb, hml, hown, hts⟩ (kX2_find l D cA H.size sa le ho tr ke ra al be hm bd fle fho ftr fke fal fbe fhm fbd nm kc cb 0 nn (by omega) (by omega) h1 h2 h3 h4) (cwV 3 hts gX2_findBest_X2_find rfl rfl rfl (by decide +kernel) ⟨Nat.le_of_ble_eq_true rfl, Nat.le_of_ble_eq_true rfl⟩) ⟨(zPreS (av := [.ref sa, .int (nI nn), .ref hm, .ref bd]) (wc := [(sa, .inr (4, [.ref ra, .ref le, .ref ho, .ref tr, .ref ke, .int (nI nm), .int (nI kc), .int (nI cb), .int (nI 0)])), (le, .inl (cA, 72, .inl (aN fle))), (ho, .inl (cA, 8, .inl (aN fho))), (tr, .inl (cA, 8, .inl (aN ftr))), (ke, .inl (cA, 8, .inl (aN fke))), (ra, .inr (3, [.ref al, .ref be])), (al, .inl (cA, 8, .inl (aN fal))), (be, .inl (cA, 448, .inl (aN fbe))), (hm, .inl (cA, 8, .inl (aN fhm))), (bd, .inl (cA, 8, .inl (aN fbd)))]) hK hP hD [0, 1, 2, 3, 4, 5, 6, 7, 8, 9] rfl (by decide) rfl).1, (va_recv hK.1 hP (ci := 4) (q0 := 0) rfl rfl), (zPreS (av := [.ref sa, .int (nI nn), .ref hm, .ref bd]) (wc := [(sa, .inr (4, [.ref ra, .ref le, .ref ho, .ref tr, .ref ke, .int (nI nm), .int (nI kc), .int (nI cb), .int (nI 0)])), (le, .inl (cA, 72, .inl (aN fle))), (ho, .inl (cA, 8, .inl (aN fho))), (tr, .inl (cA, 8, .inl (aN ftr))), (ke, .inl (cA, 8, .inl (aN fke))), (ra, .inr (3, [.ref al, .ref be])), (al, .inl (cA, 8, .inl (aN fal))), (be, .inl (cA, 448, .inl (aN fbe))), (hm, .inl (cA, 8, .inl (aN fhm))), (bd, .inl (cA, 8, .inl (aN fbd)))]) hK hP hD [0, 1, 2, 3, 4, 5, 6, 7, 8, 9] rfl (by decide) rfl).2⟩ rfl rfl hl.1 rfl (lv_room (Nat.le_of_ble_eq_true rfl)) dX2_findBest_9 ⟨Nat.zero_le _, Nat.zero_le _⟩) (fun H locs hP hD hS => ?_)
  have hP : va_P D vwCl [(sa, .inr (4, [.ref ra, .ref le, .ref ho, .ref tr, .ref ke, .int (nI nn), .int (nI ((findX nn 0 fbe fhm fbd fal fho fle ftr fke).2.2.2.1)), .int (nI ((findX nn 0 fbe fhm fbd fal fho fle ftr fke).2.2.2.2)), .int (nI 0)])), (le, .inl (cA, 72, .inl (aN ((findX nn 0 fbe fhm fbd fal fho fle ftr fke).1)))), (ho, .inl (cA, 8, .inl (aN ((findY nn fhm fbd fal fho fle).1)))), (tr, .inl (cA, 8, .inl (aN ((findX nn 0 fbe fhm fbd fal fho fle ftr fke).2.1)))), (ke, .inl (cA, 8, .inl (aN ((findX nn 0 fbe fhm fbd fal fho fle ftr fke).2.2.1)))), (ra, .inr (3, [.ref al, .ref be])), (al, .inl (cA, 8, .inl (aN fal))), (be, .inl (cA, 448, .inl (aN fbe))), (hm, .inl (cA, 8, .inl (aN fhm))), (bd, .inl (cA, 8, .inl (aN fbd)))] H := hP
  have hD : va_D A [(sa, .inr (4, [.ref ra, .ref le, .ref ho, .ref tr, .ref ke, .int (nI nn), .int (nI ((findX nn 0 fbe fhm fbd fal fho fle ftr fke).2.2.2.1)), .int (nI ((findX nn 0 fbe fhm fbd fal fho fle ftr fke).2.2.2.2)), .int (nI 0)])), (le, .inl (cA, 72, .inl (aN ((findX nn 0 fbe fhm fbd fal fho fle ftr fke).1)))), (ho, .inl (cA, 8, .inl (aN ((findY nn fhm fbd fal fho fle).1)))), (tr, .inl (cA, 8, .inl (aN ((findX nn 0 fbe fhm fbd fal fho fle ftr fke).2.1)))), (ke, .inl (cA, 8, .inl (aN ((findX nn 0 fbe fhm fbd fal fho fle ftr fke).2.2.1)))), (ra, .inr (3, [.ref al, .ref be])), (al, .inl (cA, 8, .inl (aN fal))), (be, .inl (cA, 448, .inl (aN fbe))), (hm, .inl (cA, 8, .inl (aN fhm))), (bd, .inl (cA, 8, .inl (aN fbd)))] := hD
  exact W.zret (v := (nI (if (findX nn 0 fbe fhm fbd fal fho fle ftr fke).2.2.2.1 < 144 then 1 else 0))) hx hb hr zb_if (fun t ht hW => ⟨⟨(nI (if (findX nn 0 fbe fhm fbd fal fho fle ftr fke).2.2.2.1 < 144 then 1 else 0)), (), rfl, rfl, by rw [ht]; exact hP, hD⟩, hS.F ht⟩) hS.2.2 dX2_findBest_12

theorem lkX2_findFirst_34 : Cond.fieldLink RX2 34 "LeastChange$Search" "endsWithFirst" "Z" ∈ wsX2_findFirst := by decide +kernel
theorem inX2_findFirst_X2 : ∀ w ∈ wsX20, w ∈ wsX2_findFirst := by decide +kernel
set_option maxHeartbeats 4000000 in
set_option maxRecDepth 100000 in
theorem kX2_findFirst (l : Launch) (D : va_G) (cA : ClassId) (sz : Nat) (sa : Nat) (le : Nat) (ho : Nat) (tr : Nat) (ke : Nat) (ra : Nat) (al : Nat) (be : Nat) (hm : Nat) (bd : Nat) (fle : Nat → Nat) (fho : Nat → Nat) (ftr : Nat → Nat) (fke : Nat → Nat) (fal : Nat → Nat) (fbe : Nat → Nat) (fhm : Nat → Nat) (fbd : Nat → Nat) (nm : Nat) (kc : Nat) (cb : Nat) (ef : Nat) (nn : Nat) (hn : nn ≤ 8) (h1 : ∀ j, fhm j < 32) (h2 : ∀ j, fho j < 32) (h3 : ∀ j, fal j < 128) (h4 : ∀ j, fle j < 128) : zMi l yX2_findFirst wsX2_findFirst ({ frames := 20, cells := 0, slots := 0, locals := 471 }) D cA [.ref sa, .int (nI nn), .ref hm, .ref bd] sz [(sa, .inr (4, [.ref ra, .ref le, .ref ho, .ref tr, .ref ke, .int (nI nm), .int (nI kc), .int (nI cb), .int (nI ef)])), (le, .inl (cA, 72, .inl (aN fle))), (ho, .inl (cA, 8, .inl (aN fho))), (tr, .inl (cA, 8, .inl (aN ftr))), (ke, .inl (cA, 8, .inl (aN fke))), (ra, .inr (3, [.ref al, .ref be])), (al, .inl (cA, 8, .inl (aN fal))), (be, .inl (cA, 448, .inl (aN fbe))), (hm, .inl (cA, 8, .inl (aN fhm))), (bd, .inl (cA, 8, .inl (aN fbd)))] [(sa, .inr (4, [.ref ra, .ref le, .ref ho, .ref tr, .ref ke, .int (nI nn), .int (nI ((findX nn 1 fbe fhm fbd fal fho fle ftr fke).2.2.2.1)), .int (nI ((findX nn 1 fbe fhm fbd fal fho fle ftr fke).2.2.2.2)), .int (nI 1)])), (le, .inl (cA, 72, .inl (aN ((findX nn 1 fbe fhm fbd fal fho fle ftr fke).1)))), (ho, .inl (cA, 8, .inl (aN ((findY nn fhm fbd fal fho fle).1)))), (tr, .inl (cA, 8, .inl (aN ((findX nn 1 fbe fhm fbd fal fho fle ftr fke).2.1)))), (ke, .inl (cA, 8, .inl (aN ((findX nn 1 fbe fhm fbd fal fho fle ftr fke).2.2.1)))), (ra, .inr (3, [.ref al, .ref be])), (al, .inl (cA, 8, .inl (aN fal))), (be, .inl (cA, 448, .inl (aN fbe))), (hm, .inl (cA, 8, .inl (aN fhm))), (bd, .inl (cA, 8, .inl (aN fbd)))] (nI (if (findX nn 1 fbe fhm fbd fal fho fle ftr fke).2.2.2.1 < 144 then 1 else 0)) := by
  refine Met.ofW (cc := cX2_findFirst) (maxL := 4) (ret := (some .boolean)) (by decide) rfl ?_
  intro p e s m args below meth c s₁ B hml hv
  obtain ⟨rfl, hsz, hP, hK, hD0⟩ := hv
  have hx := B.exec
  have hb := B.bytes
  have hr := B.returns
  have hts := atoms_spec (ws := wsX2_findFirst) B.pre
  have hown : s.vm.findClass RX2 = some m.cls := findClass_of_methodNamed B.named
  have hlocks := B.notSynchronized
  subst hsz
  have hD := hD0.self (sz := s.heap.size)
  generalize hAe : va_A [(sa, .inr (4, [.ref ra, .ref le, .ref ho, .ref tr, .ref ke, .int (nI nm), .int (nI kc), .int (nI cb), .int (nI ef)])), (le, .inl (cA, 72, .inl (aN fle))), (ho, .inl (cA, 8, .inl (aN fho))), (tr, .inl (cA, 8, .inl (aN ftr))), (ke, .inl (cA, 8, .inl (aN fke))), (ra, .inr (3, [.ref al, .ref be])), (al, .inl (cA, 8, .inl (aN fal))), (be, .inl (cA, 448, .inl (aN fbe))), (hm, .inl (cA, 8, .inl (aN fhm))), (bd, .inl (cA, 8, .inl (aN fbd)))] s.heap.size = A at hD ⊢
  have hA : ∀ q : Nat, s.heap.size ≤ q → A q := fun q h => by rw [← hAe]; exact Or.inr h
  have hS : va_S A s.heap s.heap [] := va_S.rf
  have hP : va_P D vwCl [(sa, .inr (4, [.ref ra, .ref le, .ref ho, .ref tr, .ref ke, .int (nI nm), .int (nI kc), .int (nI cb), .int (nI ef)])), (le, .inl (cA, 72, .inl (aN fle))), (ho, .inl (cA, 8, .inl (aN fho))), (tr, .inl (cA, 8, .inl (aN ftr))), (ke, .inl (cA, 8, .inl (aN fke))), (ra, .inr (3, [.ref al, .ref be])), (al, .inl (cA, 8, .inl (aN fal))), (be, .inl (cA, 448, .inl (aN fbe))), (hm, .inl (cA, 8, .inl (aN fhm))), (bd, .inl (cA, 8, .inl (aN fbd)))] s.heap := hP
  have hl := lv_entry ([.ref sa, .int (nI nn), .ref hm, .ref bd]) (n := 4) (Nat.le_of_ble_eq_true rfl)
  rw [lg_entry_eq]
  generalize (lg_sl ([.ref sa, .int (nI nn), .ref hm, .ref bd]) ++ List.replicate (4 - (lg_sl ([.ref sa, .int (nI nn), .ref hm, .ref bd])).length) Slot.unset).toArray = ls at hl ⊢
  have hl : lv_has ls 4 [(0, .ref sa), (1, .int (nI nn)), (2, .ref hm), (3, .ref bd)] := hl
  refine lv_aload_n hx hb dX2_findFirst_0 rfl (lv_at hl 0 rfl) ?_
  refine lv_iconst (v := nI 1) hx hb dX2_findFirst_1 (by decide) ?_
  refine va_put (D := D) (ci := 4) (v := .int (nI 1)) (ty := .boolean) (C := RX2) (T := TX2) (N := 9) hx hb hts inX2_findFirst_X2 tyX2 tyX2_ok nmX2 hown hK.1 hP hD hS 0 rfl rfl 8 (by decide) (hts _ lkX2_findFirst_34) (fun _ h9 => h9) rfl (by decide +kernel) rfl rfl (Nat.le_of_ble_eq_true rfl) dX2_findFirst_2 (fun H locs hP hD hS => ?_)
  have hP : va_P D vwCl [(sa, .inr (4, [.ref ra, .ref le, .ref ho, .ref tr, .ref ke, .int (nI nm), .int (nI kc), .int (nI cb), .int (nI 1)])), (le, .inl (cA, 72, .inl (aN fle))), (ho, .inl (cA, 8, .inl (aN fho))), (tr, .inl (cA, 8, .inl (aN ftr))), (ke, .inl (cA, 8, .inl (aN fke))), (ra, .inr (3, [.ref al, .ref be])), (al, .inl (cA, 8, .inl (aN fal))), (be, .inl (cA, 448, .inl (aN fbe))), (hm, .inl (cA, 8, .inl (aN fhm))), (bd, .inl (cA, 8, .inl (aN fbd)))] H := hP
  have hD : va_D A [(sa, .inr (4, [.ref ra, .ref le, .ref ho, .ref tr, .ref ke, .int (nI nm), .int (nI kc), .int (nI cb), .int (nI 1)])), (le, .inl (cA, 72, .inl (aN fle))), (ho, .inl (cA, 8, .inl (aN fho))), (tr, .inl (cA, 8, .inl (aN ftr))), (ke, .inl (cA, 8, .inl (aN fke))), (ra, .inr (3, [.ref al, .ref be])), (al, .inl (cA, 8, .inl (aN fal))), (be, .inl (cA, 448, .inl (aN fbe))), (hm, .inl (cA, 8, .inl (aN fhm))), (bd, .inl (cA, 8, .inl (aN fbd)))] := hD
  refine lv_aload_n hx hb dX2_findFirst_5 rfl (lv_at hl 0 rfl) ?_
  refine lv_iload_n hx hb dX2_findFirst_6 rfl (lv_at hl 1 rfl) ?_
  refine lv_aload_n hx hb dX2_findFirst_7 rfl (lv_at hl 2 rfl) ?_
  refine lv_aload_n hx hb dX2_findFirst_8 rfl (lv_at hl 3 rfl) ?_
  refine zz_callI (av := []) (wc := [(sa, .inr (4, [.ref ra, .ref le, .ref ho, .ref tr, .ref ke, .int (nI nm), .int (nI kc), .int (nI cb), .int (nI 1)])), (le, .inl (cA, 72, .inl (aN fle))), (ho, .inl (cA, 8, .inl (aN fho))), (tr, .inl (cA, 8, .inl (aN ftr))), (ke, .inl (cA, 8, .inl (aN fke))), (ra, .inr (3, [.ref al, .ref be])), (al, .inl (cA, 8, .inl (aN fal))), (be, .inl (cA, 448, .inl (aN fbe))), (hm, .inl (cA, 8, .inl (aN fhm))), (bd, .inl (cA, 8, .inl (aN fbd)))]) (wr := []) hS hA hP hD [0, 1, 2, 3, 4, 5, 6, 7, 8, 9] [] rfl rfl (by decide) (by decide) (va_runV (As := [.int (nI nn), .ref hm, .ref bd]) (rest := []) ⟨hx, hb, hml, hown, hts⟩ (kX2_find l D cA H.size sa le ho tr ke ra al be hm bd fle fho ftr fke fal fbe fhm fbd nm kc cb 1 nn (by omega) (by omega) h1 h2 h3 h4) (cwV 3 hts gX2_findFirst_X2_find rfl rfl rfl (by decide +kernel) ⟨Nat.le_of_ble_eq_true rfl, Nat.le_of_ble_eq_true rfl⟩) ⟨(zPreS (av := [.ref sa, .int (nI nn), .ref hm, .ref bd]) (wc := [(sa, .inr (4, [.ref ra, .ref le, .ref ho, .ref tr, .ref ke, .int (nI nm), .int (nI kc), .int (nI cb), .int (nI 1)])), (le, .inl (cA, 72, .inl (aN fle))), (ho, .inl (cA, 8, .inl (aN fho))), (tr, .inl (cA, 8, .inl (aN ftr))), (ke, .inl (cA, 8, .inl (aN fke))), (ra, .inr (3, [.ref al, .ref be])), (al, .inl (cA, 8, .inl (aN fal))), (be, .inl (cA, 448, .inl (aN fbe))), (hm, .inl (cA, 8, .inl (aN fhm))), (bd, .inl (cA, 8, .inl (aN fbd)))]) hK hP hD [0, 1, 2, 3, 4, 5, 6, 7, 8, 9] rfl (by decide) rfl).1, (va_recv hK.1 hP (ci := 4) (q0 := 0) rfl rfl), (zPreS (av := [.ref sa, .int (nI nn), .ref hm, .ref bd]) (wc := [(sa, .inr (4, [.ref ra, .ref le, .ref ho, .ref tr, .ref ke, .int (nI nm), .int (nI kc), .int (nI cb), .int (nI 1)])), (le, .inl (cA, 72, .inl (aN fle))), (ho, .inl (cA, 8, .inl (aN fho))), (tr, .inl (cA, 8, .inl (aN ftr))), (ke, .inl (cA, 8, .inl (aN fke))), (ra, .inr (3, [.ref al, .ref be])), (al, .inl (cA, 8, .inl (aN fal))), (be, .inl (cA, 448, .inl (aN fbe))), (hm, .inl (cA, 8, .inl (aN fhm))), (bd, .inl (cA, 8, .inl (aN fbd)))]) hK hP hD [0, 1, 2, 3, 4, 5, 6, 7, 8, 9] rfl (by decide) rfl).2⟩ rfl rfl hl.1 rfl (lv_room (Nat.le_of_ble_eq_true rfl)) dX2_findFirst_9 ⟨Nat.zero_le _, Nat.zero_le _⟩) (fun H locs hP hD hS => ?_)
  have hP : va_P D vwCl [(sa, .inr (4, [.ref ra, .ref le, .ref ho, .ref tr, .ref ke, .int (nI nn), .int (nI ((findX nn 1 fbe fhm fbd fal fho fle ftr fke).2.2.2.1)), .int (nI ((findX nn 1 fbe fhm fbd fal fho fle ftr fke).2.2.2.2)), .int (nI 1)])), (le, .inl (cA, 72, .inl (aN ((findX nn 1 fbe fhm fbd fal fho fle ftr fke).1)))), (ho, .inl (cA, 8, .inl (aN ((findY nn fhm fbd fal fho fle).1)))), (tr, .inl (cA, 8, .inl (aN ((findX nn 1 fbe fhm fbd fal fho fle ftr fke).2.1)))), (ke, .inl (cA, 8, .inl (aN ((findX nn 1 fbe fhm fbd fal fho fle ftr fke).2.2.1)))), (ra, .inr (3, [.ref al, .ref be])), (al, .inl (cA, 8, .inl (aN fal))), (be, .inl (cA, 448, .inl (aN fbe))), (hm, .inl (cA, 8, .inl (aN fhm))), (bd, .inl (cA, 8, .inl (aN fbd)))] H := hP
  have hD : va_D A [(sa, .inr (4, [.ref ra, .ref le, .ref ho, .ref tr, .ref ke, .int (nI nn), .int (nI ((findX nn 1 fbe fhm fbd fal fho fle ftr fke).2.2.2.1)), .int (nI ((findX nn 1 fbe fhm fbd fal fho fle ftr fke).2.2.2.2)), .int (nI 1)])), (le, .inl (cA, 72, .inl (aN ((findX nn 1 fbe fhm fbd fal fho fle ftr fke).1)))), (ho, .inl (cA, 8, .inl (aN ((findY nn fhm fbd fal fho fle).1)))), (tr, .inl (cA, 8, .inl (aN ((findX nn 1 fbe fhm fbd fal fho fle ftr fke).2.1)))), (ke, .inl (cA, 8, .inl (aN ((findX nn 1 fbe fhm fbd fal fho fle ftr fke).2.2.1)))), (ra, .inr (3, [.ref al, .ref be])), (al, .inl (cA, 8, .inl (aN fal))), (be, .inl (cA, 448, .inl (aN fbe))), (hm, .inl (cA, 8, .inl (aN fhm))), (bd, .inl (cA, 8, .inl (aN fbd)))] := hD
  exact W.zret (v := (nI (if (findX nn 1 fbe fhm fbd fal fho fle ftr fke).2.2.2.1 < 144 then 1 else 0))) hx hb hr zb_if (fun t ht hW => ⟨⟨(nI (if (findX nn 1 fbe fhm fbd fal fho fle ftr fke).2.2.2.1 < 144 then 1 else 0)), (), rfl, rfl, by rw [ht]; exact hP, hD⟩, hS.F ht⟩) hS.2.2 dX2_findFirst_12


abbrev Fg : Type := (Nat → Nat) × Nat × Nat × Nat
def knBody (fke fhm : Nat → Nat) : Nat → Fg → Fg := fun i y => (va_up y.1 i (fke i), y.2.1 ||| (if fke i = 0 then 0 else 1 <<< i), y.2.2.1 ||| (if fke i = fhm i then 0 else 1 <<< i), y.2.2.2 ||| (if fke i ≠ 0 ∧ fke i < fhm i then 1 <<< i else 0))

theorem lkX0_keep_15 : Cond.fieldLink RX0 15 "LeastChange$Found" "given" "I" ∈ wsX0_keep := by decide +kernel
theorem lkX0_keep_19 : Cond.fieldLink RX0 19 "LeastChange$Found" "changed" "I" ∈ wsX0_keep := by decide +kernel
theorem lkX0_keep_22 : Cond.fieldLink RX0 22 "LeastChange$Found" "down" "I" ∈ wsX0_keep := by decide +kernel
theorem lkX0_keep_9 : Cond.fieldLink RX0 9 "LeastChange$Found" "codes" "[I" ∈ wsX0_keep := by decide +kernel
theorem inX0_keep_X0 : ∀ w ∈ wsX00, w ∈ wsX0_keep := by decide +kernel
theorem iniX0_keep_X2 : Cond.initialized RX2 ∈ wsX0_keep := by decide +kernel
theorem iniX0_keep_X3 : Cond.initialized RX3 ∈ wsX0_keep := by decide +kernel
theorem imX0_keep_X2_keptCode : Cond.instanceMethod yX2_keptCode ∈ wsX0_keep := by decide +kernel
theorem seX0_keep_X2_keptCode : Cond.selects RX2 yX2_keptCode yX2_keptCode ∈ wsX0_keep := by decide +kernel
theorem stX0_keep_X3_isChanged : Cond.static yX3_isChanged ∈ wsX0_keep := by decide +kernel
theorem stX0_keep_X3_isDown : Cond.static yX3_isDown ∈ wsX0_keep := by decide +kernel
set_option maxHeartbeats 4000000 in
set_option maxRecDepth 100000 in
theorem bX0_keep {p : Program} {l : Launch} {e : Env} {R : Room} {s : State} {m : MethodId} {args : Array Value} {below : List Frame} {meth : Method} {c : Code} {Q : State → Prop} {A : Nat → Prop} {H0 : Heap} {D : va_G} {cA : ClassId} (hx : p.tables.exec = Jvm.exec) (hb : c.code = cX0_keep) (hml : c.maxLocals = 6) (hown : s.vm.findClass RX0 = some m.cls) (hts : ∀ w ∈ wsX0_keep, w.before args s = true) (hK : zK D cA s) (hA : ∀ q, H0.size ≤ q → A q) (fa : Nat) (co : Nat) (sa : Nat) (le : Nat) (ho : Nat) (tr : Nat) (ke : Nat) (ra : Nat) (hm : Nat) (fke : Nat → Nat) (fhm : Nat → Nat) (nm : Nat) (kc : Nat) (cb : Nat) (ef : Nat) (nn : Nat) (hn : nn ≤ 8) (h1 : ∀ j, fhm j < 32) (h2 : ∀ j, fke j < 32) (hRf : 1 ≤ R.frames) (hRl : 21 ≤ R.locals)  : ∀ (k : Nat) (i : Nat) (y : Fg), (i + k = nn) → ∀ (H : Heap) (locs : List Loc) (ls : Array Slot), va_P D vwCl [(fa, .inr (2, [.ref co, .int (nI y.2.1), .int (nI y.2.2.1), .int (nI y.2.2.2)])), (co, .inl (cA, 8, .inl (aN y.1))), (sa, .inr (4, [.ref ra, .ref le, .ref ho, .ref tr, .ref ke, .int (nI nm), .int (nI kc), .int (nI cb), .int (nI ef)])), (ke, .inl (cA, 8, .inl (aN fke))), (hm, .inl (cA, 8, .inl (aN fhm)))] H → va_D A [(fa, .inr (2, [.ref co, .int (nI y.2.1), .int (nI y.2.2.1), .int (nI y.2.2.2)])), (co, .inl (cA, 8, .inl (aN y.1))), (sa, .inr (4, [.ref ra, .ref le, .ref ho, .ref tr, .ref ke, .int (nI nm), .int (nI kc), .int (nI cb), .int (nI ef)])), (ke, .inl (cA, 8, .inl (aN fke))), (hm, .inl (cA, 8, .inl (aN fhm)))] → va_S A H0 H locs → lv_has ls 6 [(0, .ref fa), (1, .ref sa), (2, .int (nI nn)), (3, .ref hm), (4, .int (nI i))] → (∀ (H : Heap) (locs : List Loc) (ls : Array Slot), va_P D vwCl [(fa, .inr (2, [.ref co, .int (nI ((zlp (knBody fke fhm) k i y).2.1)), .int (nI ((zlp (knBody fke fhm) k i y).2.2.1)), .int (nI ((zlp (knBody fke fhm) k i y).2.2.2))])), (co, .inl (cA, 8, .inl (aN ((zlp (knBody fke fhm) k i y).1)))), (sa, .inr (4, [.ref ra, .ref le, .ref ho, .ref tr, .ref ke, .int (nI nm), .int (nI kc), .int (nI cb), .int (nI ef)])), (ke, .inl (cA, 8, .inl (aN fke))), (hm, .inl (cA, 8, .inl (aN fhm)))] H → va_D A [(fa, .inr (2, [.ref co, .int (nI ((zlp (knBody fke fhm) k i y).2.1)), .int (nI ((zlp (knBody fke fhm) k i y).2.2.1)), .int (nI ((zlp (knBody fke fhm) k i y).2.2.2))])), (co, .inl (cA, 8, .inl (aN ((zlp (knBody fke fhm) k i y).1)))), (sa, .inr (4, [.ref ra, .ref le, .ref ho, .ref tr, .ref ke, .int (nI nm), .int (nI kc), .int (nI cb), .int (nI ef)])), (ke, .inl (cA, 8, .inl (aN fke))), (hm, .inl (cA, 8, .inl (aN fhm)))] → va_S A H0 H locs → lv_has ls 6 [(0, .ref fa)] → W p l e R s m args below meth c H locs 0 0 Q (F0 m 127 ls [])) → W p l e R s m args below meth c H locs 0 0 Q (F0 m 18 ls []) := by
  intro k
  induction k with
  | zero =>
    intro i y hi H locs ls hP hD hS hl kk
    refine lv_iload hx hb dX0_keep_18 (lv_at hl 4 rfl) ?_
    refine lv_iload_n hx hb dX0_keep_20 rfl (lv_at hl 2 rfl) ?_
    refine nn_icmp_ge (tgt := 127) hx hb dX0_keep_21 (by decide) (by omega) (by omega) (fun c_21 => ?_) (fun c_21 => ?_)
    · exact kk _ _ _ hP hD hS (lv_sub hl [0] rfl)
    · exfalso; omega
  | succ k ih =>
    intro i y hi H locs ls hP hD hS hl kk
    refine lv_iload hx hb dX0_keep_18 (lv_at hl 4 rfl) ?_
    refine lv_iload_n hx hb dX0_keep_20 rfl (lv_at hl 2 rfl) ?_
    refine nn_icmp_ge (tgt := 127) hx hb dX0_keep_21 (by decide) (by omega) (by omega) (fun c_21 => ?_) (fun c_21 => ?_)
    · exfalso; omega
    · refine lv_aload_n hx hb dX0_keep_24 rfl (lv_at hl 1 rfl) ?_
      refine lv_iload hx hb dX0_keep_25 (lv_at hl 4 rfl) ?_
      refine zz_callI (av := []) (wc := [(sa, .inr (4, [.ref ra, .ref le, .ref ho, .ref tr, .ref ke, .int (nI nm), .int (nI kc), .int (nI cb), .int (nI ef)])), (ke, .inl (cA, 8, .inl (aN fke)))]) (wr := [(fa, .inr (2, [.ref co, .int (nI y.2.1), .int (nI y.2.2.1), .int (nI y.2.2.2)])), (co, .inl (cA, 8, .inl (aN y.1))), (hm, .inl (cA, 8, .inl (aN fhm)))]) hS hA hP hD [2, 3] [0, 1, 4] rfl rfl (by decide) (by decide) (va_runVN (As := [.int (nI i)]) (rest := []) ⟨hx, hb, hml, hown, hts⟩ (kX2_keptCode l D cA H.size sa le ho tr ke ra fke nm kc cb ef i (by omega)) ⟨va_cnB 1 hts gX0_keep_X2_keptCode_n25 rfl rfl rfl (hK.2 _ nkX0_25) (hts _ iniX0_keep_X2) (by decide +kernel) ⟨Nat.le_trans (by decide) hRf, Nat.le_trans (by decide) hRl⟩, hts _ imX0_keep_X2_keptCode, hts _ seX0_keep_X2_keptCode⟩ ⟨(zPreS (av := [.ref sa, .int (nI i)]) (wc := [(sa, .inr (4, [.ref ra, .ref le, .ref ho, .ref tr, .ref ke, .int (nI nm), .int (nI kc), .int (nI cb), .int (nI ef)])), (ke, .inl (cA, 8, .inl (aN fke)))]) hK hP hD [2, 3] rfl (by decide) rfl).1, (va_recv hK.1 hP (ci := 4) (q0 := 2) rfl rfl), (zPreS (av := [.ref sa, .int (nI i)]) (wc := [(sa, .inr (4, [.ref ra, .ref le, .ref ho, .ref tr, .ref ke, .int (nI nm), .int (nI kc), .int (nI cb), .int (nI ef)])), (ke, .inl (cA, 8, .inl (aN fke)))]) hK hP hD [2, 3] rfl (by decide) rfl).2⟩ rfl rfl hl.1 rfl (lv_room (Nat.le_of_ble_eq_true rfl)) dX0_keep_27 ⟨Nat.zero_le _, Nat.zero_le _⟩) (fun H locs hP hD hS => ?_)
      have hP : va_P D vwCl [(fa, .inr (2, [.ref co, .int (nI y.2.1), .int (nI y.2.2.1), .int (nI y.2.2.2)])), (co, .inl (cA, 8, .inl (aN y.1))), (hm, .inl (cA, 8, .inl (aN fhm))), (sa, .inr (4, [.ref ra, .ref le, .ref ho, .ref tr, .ref ke, .int (nI nm), .int (nI kc), .int (nI cb), .int (nI ef)])), (ke, .inl (cA, 8, .inl (aN fke)))] H := hP
      have hD : va_D A [(fa, .inr (2, [.ref co, .int (nI y.2.1), .int (nI y.2.2.1), .int (nI y.2.2.2)])), (co, .inl (cA, 8, .inl (aN y.1))), (hm, .inl (cA, 8, .inl (aN fhm))), (sa, .inr (4, [.ref ra, .ref le, .ref ho, .ref tr, .ref ke, .int (nI nm), .int (nI kc), .int (nI cb), .int (nI ef)])), (ke, .inl (cA, 8, .inl (aN fke)))] := hD
      have hP : va_P D vwCl [(fa, .inr (2, [.ref co, .int (nI y.2.1), .int (nI y.2.2.1), .int (nI y.2.2.2)])), (co, .inl (cA, 8, .inl (aN y.1))), (sa, .inr (4, [.ref ra, .ref le, .ref ho, .ref tr, .ref ke, .int (nI nm), .int (nI kc), .int (nI cb), .int (nI ef)])), (ke, .inl (cA, 8, .inl (aN fke))), (hm, .inl (cA, 8, .inl (aN fhm)))] H := hP.sub [0, 1, 3, 4, 2] rfl
      have hD : va_D A [(fa, .inr (2, [.ref co, .int (nI y.2.1), .int (nI y.2.2.1), .int (nI y.2.2.2)])), (co, .inl (cA, 8, .inl (aN y.1))), (sa, .inr (4, [.ref ra, .ref le, .ref ho, .ref tr, .ref ke, .int (nI nm), .int (nI kc), .int (nI cb), .int (nI ef)])), (ke, .inl (cA, 8, .inl (aN fke))), (hm, .inl (cA, 8, .inl (aN fhm)))] := hD.sub [0, 1, 3, 4, 2] (by decide) rfl
      refine lv_istore (lv' := [(5, .int (nI (fke i))), (0, .ref fa), (1, .ref sa), (2, .int (nI nn)), (3, .ref hm), (4, .int (nI i))]) hx hb dX0_keep_30 hl (by decide) rfl (fun ls hl => ?_)
      refine lv_aload_n hx hb dX0_keep_32 rfl (lv_at hl 1 rfl) ?_
      refine va_get (D := D) (ci := 2) (v := .ref co) (C := RX0) (T := TX0) (N := 4) hx hb hts inX0_keep_X0 hown hK.1 hP 0 rfl rfl 0 (by decide) (hts _ lkX0_keep_9) (fun _ h9 => h9) rfl dX0_keep_33 ?_
      refine lv_iload hx hb dX0_keep_36 (lv_at hl 5 rfl) ?_
      refine lv_iload hx hb dX0_keep_38 (lv_at hl 0 rfl) ?_
      refine nn_ast hx hb hK hP hD hS 1 rfl (by omega) (by decide) dX0_keep_40 (fun H locs hP hD hS => ?_)
      have hP : va_P D vwCl [(fa, .inr (2, [.ref co, .int (nI y.2.1), .int (nI y.2.2.1), .int (nI y.2.2.2)])), (co, .inl (cA, 8, .inl (aN (va_up y.1 i (fke i))))), (sa, .inr (4, [.ref ra, .ref le, .ref ho, .ref tr, .ref ke, .int (nI nm), .int (nI kc), .int (nI cb), .int (nI ef)])), (ke, .inl (cA, 8, .inl (aN fke))), (hm, .inl (cA, 8, .inl (aN fhm)))] H := hP
      have hD : va_D A [(fa, .inr (2, [.ref co, .int (nI y.2.1), .int (nI y.2.2.1), .int (nI y.2.2.2)])), (co, .inl (cA, 8, .inl (aN (va_up y.1 i (fke i))))), (sa, .inr (4, [.ref ra, .ref le, .ref ho, .ref tr, .ref ke, .int (nI nm), .int (nI kc), .int (nI cb), .int (nI ef)])), (ke, .inl (cA, 8, .inl (aN fke))), (hm, .inl (cA, 8, .inl (aN fhm)))] := hD
      refine lv_aload_n hx hb dX0_keep_41 rfl (lv_at hl 1 rfl) ?_
      refine lv_dup hx hb dX0_keep_42 rfl ?_
      refine va_get (D := D) (ci := 2) (v := .int (nI y.2.1)) (C := RX0) (T := TX0) (N := 4) hx hb hts inX0_keep_X0 hown hK.1 hP 0 rfl rfl 1 (by decide) (hts _ lkX0_keep_15) (fun _ h9 => h9) rfl dX0_keep_43 ?_
      refine lv_iload hx hb dX0_keep_46 (lv_at hl 0 rfl) ?_
      refine nn_if_eq (tgt := 58) hx hb dX0_keep_48 (by decide) (Nat.lt_trans (h2 _) (by decide)) (fun c_48 => ?_) (fun c_48 => ?_)
      · refine lv_iconst (v := nI 0) hx hb dX0_keep_58 (by decide) ?_
        refine nn_ior hx hb dX0_keep_59 ?_
        refine va_put (D := D) (ci := 2) (v := .int (nI (y.2.1 ||| 0))) (ty := .int) (C := RX0) (T := TX0) (N := 4) hx hb hts inX0_keep_X0 tyX0 tyX0_ok nmX0 hown hK.1 hP hD hS 0 rfl rfl 1 (by decide) (hts _ lkX0_keep_15) (fun _ h9 => h9) rfl (by decide +kernel) rfl rfl (Nat.le_of_ble_eq_true rfl) dX0_keep_60 (fun H locs hP hD hS => ?_)
        have hP : va_P D vwCl [(fa, .inr (2, [.ref co, .int (nI (y.2.1 ||| 0)), .int (nI y.2.2.1), .int (nI y.2.2.2)])), (co, .inl (cA, 8, .inl (aN (va_up y.1 i (fke i))))), (sa, .inr (4, [.ref ra, .ref le, .ref ho, .ref tr, .ref ke, .int (nI nm), .int (nI kc), .int (nI cb), .int (nI ef)])), (ke, .inl (cA, 8, .inl (aN fke))), (hm, .inl (cA, 8, .inl (aN fhm)))] H := hP
        have hD : va_D A [(fa, .inr (2, [.ref co, .int (nI (y.2.1 ||| 0)), .int (nI y.2.2.1), .int (nI y.2.2.2)])), (co, .inl (cA, 8, .inl (aN (va_up y.1 i (fke i))))), (sa, .inr (4, [.ref ra, .ref le, .ref ho, .ref tr, .ref ke, .int (nI nm), .int (nI kc), .int (nI cb), .int (nI ef)])), (ke, .inl (cA, 8, .inl (aN fke))), (hm, .inl (cA, 8, .inl (aN fhm)))] := hD
        refine lv_aload_n hx hb dX0_keep_63 rfl (lv_at hl 1 rfl) ?_
        refine lv_dup hx hb dX0_keep_64 rfl ?_
        refine va_get (D := D) (ci := 2) (v := .int (nI y.2.2.1)) (C := RX0) (T := TX0) (N := 4) hx hb hts inX0_keep_X0 hown hK.1 hP 0 rfl rfl 2 (by decide) (hts _ lkX0_keep_19) (fun _ h9 => h9) rfl dX0_keep_65 ?_
        refine lv_iload hx hb dX0_keep_68 (lv_at hl 0 rfl) ?_
        refine lv_aload_n hx hb dX0_keep_70 rfl (lv_at hl 4 rfl) ?_
        refine lv_iload hx hb dX0_keep_71 (lv_at hl 5 rfl) ?_
        refine nn_ald hx hb hK hP 4 rfl (by omega) (by decide) dX0_keep_73 ?_
        refine zz_callI (av := []) (wc := []) (wr := [(fa, .inr (2, [.ref co, .int (nI (y.2.1 ||| 0)), .int (nI y.2.2.1), .int (nI y.2.2.2)])), (co, .inl (cA, 8, .inl (aN (va_up y.1 i (fke i))))), (sa, .inr (4, [.ref ra, .ref le, .ref ho, .ref tr, .ref ke, .int (nI nm), .int (nI kc), .int (nI cb), .int (nI ef)])), (ke, .inl (cA, 8, .inl (aN fke))), (hm, .inl (cA, 8, .inl (aN fhm)))]) hS hA hP hD [] [0, 1, 2, 3, 4] rfl rfl (by decide) (by decide) (va_runSN (As := [.int (nI (fke i)), .int (nI (fhm i))]) (rest := [.int (nI y.2.2.1), .ref fa]) ⟨hx, hb, hml, hown, hts⟩ (kX3_isChanged l D cA H.size (fke i) (fhm i) (Nat.lt_trans (h2 _) (by decide)) (Nat.lt_trans (h1 _) (by decide))) ⟨va_cnB 2 hts gX0_keep_X3_isChanged_n31 rfl rfl rfl (hK.2 _ nkX0_31) (hts _ iniX0_keep_X3) (by decide +kernel) ⟨Nat.le_trans (by decide) hRf, Nat.le_trans (by decide) hRl⟩, hts _ stX0_keep_X3_isChanged, trivial⟩ (zPreS (av := [.int (nI (fke i)), .int (nI (fhm i))]) (wc := []) hK hP hD [] rfl (by decide) rfl) rfl rfl hl.1 rfl (lv_room (Nat.le_of_ble_eq_true rfl)) dX0_keep_74 ⟨Nat.zero_le _, Nat.zero_le _⟩) (fun H locs hP hD hS => ?_)
        have hP : va_P D vwCl [(fa, .inr (2, [.ref co, .int (nI (y.2.1 ||| 0)), .int (nI y.2.2.1), .int (nI y.2.2.2)])), (co, .inl (cA, 8, .inl (aN (va_up y.1 i (fke i))))), (sa, .inr (4, [.ref ra, .ref le, .ref ho, .ref tr, .ref ke, .int (nI nm), .int (nI kc), .int (nI cb), .int (nI ef)])), (ke, .inl (cA, 8, .inl (aN fke))), (hm, .inl (cA, 8, .inl (aN fhm)))] H := hP
        have hD : va_D A [(fa, .inr (2, [.ref co, .int (nI (y.2.1 ||| 0)), .int (nI y.2.2.1), .int (nI y.2.2.2)])), (co, .inl (cA, 8, .inl (aN (va_up y.1 i (fke i))))), (sa, .inr (4, [.ref ra, .ref le, .ref ho, .ref tr, .ref ke, .int (nI nm), .int (nI kc), .int (nI cb), .int (nI ef)])), (ke, .inl (cA, 8, .inl (aN fke))), (hm, .inl (cA, 8, .inl (aN fhm)))] := hD
        refine nn_if_eq (tgt := 87) hx hb dX0_keep_77 (by decide) if10_lt (fun c_77 => ?_) (fun c_77 => ?_)
        · have c_77 := if10_eq c_77
          refine lv_iconst (v := nI 0) hx hb dX0_keep_87 (by decide) ?_
          refine nn_ior hx hb dX0_keep_88 ?_
          refine va_put (D := D) (ci := 2) (v := .int (nI (y.2.2.1 ||| 0))) (ty := .int) (C := RX0) (T := TX0) (N := 4) hx hb hts inX0_keep_X0 tyX0 tyX0_ok nmX0 hown hK.1 hP hD hS 0 rfl rfl 2 (by decide) (hts _ lkX0_keep_19) (fun _ h9 => h9) rfl (by decide +kernel) rfl rfl (Nat.le_of_ble_eq_true rfl) dX0_keep_89 (fun H locs hP hD hS => ?_)
          have hP : va_P D vwCl [(fa, .inr (2, [.ref co, .int (nI (y.2.1 ||| 0)), .int (nI (y.2.2.1 ||| 0)), .int (nI y.2.2.2)])), (co, .inl (cA, 8, .inl (aN (va_up y.1 i (fke i))))), (sa, .inr (4, [.ref ra, .ref le, .ref ho, .ref tr, .ref ke, .int (nI nm), .int (nI kc), .int (nI cb), .int (nI ef)])), (ke, .inl (cA, 8, .inl (aN fke))), (hm, .inl (cA, 8, .inl (aN fhm)))] H := hP
          have hD : va_D A [(fa, .inr (2, [.ref co, .int (nI (y.2.1 ||| 0)), .int (nI (y.2.2.1 ||| 0)), .int (nI y.2.2.2)])), (co, .inl (cA, 8, .inl (aN (va_up y.1 i (fke i))))), (sa, .inr (4, [.ref ra, .ref le, .ref ho, .ref tr, .ref ke, .int (nI nm), .int (nI kc), .int (nI cb), .int (nI ef)])), (ke, .inl (cA, 8, .inl (aN fke))), (hm, .inl (cA, 8, .inl (aN fhm)))] := hD
          refine lv_aload_n hx hb dX0_keep_92 rfl (lv_at hl 1 rfl) ?_
          refine lv_dup hx hb dX0_keep_93 rfl ?_
          refine va_get (D := D) (ci := 2) (v := .int (nI y.2.2.2)) (C := RX0) (T := TX0) (N := 4) hx hb hts inX0_keep_X0 hown hK.1 hP 0 rfl rfl 3 (by decide) (hts _ lkX0_keep_22) (fun _ h9 => h9) rfl dX0_keep_94 ?_
          refine lv_iload hx hb dX0_keep_97 (lv_at hl 0 rfl) ?_
          refine lv_aload_n hx hb dX0_keep_99 rfl (lv_at hl 4 rfl) ?_
          refine lv_iload hx hb dX0_keep_100 (lv_at hl 5 rfl) ?_
          refine nn_ald hx hb hK hP 4 rfl (by omega) (by decide) dX0_keep_102 ?_
          refine zz_callI (av := []) (wc := []) (wr := [(fa, .inr (2, [.ref co, .int (nI (y.2.1 ||| 0)), .int (nI (y.2.2.1 ||| 0)), .int (nI y.2.2.2)])), (co, .inl (cA, 8, .inl (aN (va_up y.1 i (fke i))))), (sa, .inr (4, [.ref ra, .ref le, .ref ho, .ref tr, .ref ke, .int (nI nm), .int (nI kc), .int (nI cb), .int (nI ef)])), (ke, .inl (cA, 8, .inl (aN fke))), (hm, .inl (cA, 8, .inl (aN fhm)))]) hS hA hP hD [] [0, 1, 2, 3, 4] rfl rfl (by decide) (by decide) (va_runSN (As := [.int (nI (fke i)), .int (nI (fhm i))]) (rest := [.int (nI y.2.2.2), .ref fa]) ⟨hx, hb, hml, hown, hts⟩ (kX3_isDown l D cA H.size (fke i) (fhm i) (Nat.lt_trans (h2 _) (by decide)) (Nat.lt_trans (h1 _) (by decide))) ⟨va_cnB 2 hts gX0_keep_X3_isDown_n35 rfl rfl rfl (hK.2 _ nkX0_35) (hts _ iniX0_keep_X3) (by decide +kernel) ⟨Nat.le_trans (by decide) hRf, Nat.le_trans (by decide) hRl⟩, hts _ stX0_keep_X3_isDown, trivial⟩ (zPreS (av := [.int (nI (fke i)), .int (nI (fhm i))]) (wc := []) hK hP hD [] rfl (by decide) rfl) rfl rfl hl.1 rfl (lv_room (Nat.le_of_ble_eq_true rfl)) dX0_keep_103 ⟨Nat.zero_le _, Nat.zero_le _⟩) (fun H locs hP hD hS => ?_)
          have hP : va_P D vwCl [(fa, .inr (2, [.ref co, .int (nI (y.2.1 ||| 0)), .int (nI (y.2.2.1 ||| 0)), .int (nI y.2.2.2)])), (co, .inl (cA, 8, .inl (aN (va_up y.1 i (fke i))))), (sa, .inr (4, [.ref ra, .ref le, .ref ho, .ref tr, .ref ke, .int (nI nm), .int (nI kc), .int (nI cb), .int (nI ef)])), (ke, .inl (cA, 8, .inl (aN fke))), (hm, .inl (cA, 8, .inl (aN fhm)))] H := hP
          have hD : va_D A [(fa, .inr (2, [.ref co, .int (nI (y.2.1 ||| 0)), .int (nI (y.2.2.1 ||| 0)), .int (nI y.2.2.2)])), (co, .inl (cA, 8, .inl (aN (va_up y.1 i (fke i))))), (sa, .inr (4, [.ref ra, .ref le, .ref ho, .ref tr, .ref ke, .int (nI nm), .int (nI kc), .int (nI cb), .int (nI ef)])), (ke, .inl (cA, 8, .inl (aN fke))), (hm, .inl (cA, 8, .inl (aN fhm)))] := hD
          refine nn_if_eq (tgt := 116) hx hb dX0_keep_106 (by decide) if01_lt (fun c_106 => ?_) (fun c_106 => ?_)
          · have c_106 := if01_eq c_106
            refine lv_iconst (v := nI 0) hx hb dX0_keep_116 (by decide) ?_
            refine nn_ior hx hb dX0_keep_117 ?_
            refine va_put (D := D) (ci := 2) (v := .int (nI (y.2.2.2 ||| 0))) (ty := .int) (C := RX0) (T := TX0) (N := 4) hx hb hts inX0_keep_X0 tyX0 tyX0_ok nmX0 hown hK.1 hP hD hS 0 rfl rfl 3 (by decide) (hts _ lkX0_keep_22) (fun _ h9 => h9) rfl (by decide +kernel) rfl rfl (Nat.le_of_ble_eq_true rfl) dX0_keep_118 (fun H locs hP hD hS => ?_)
            have hP : va_P D vwCl [(fa, .inr (2, [.ref co, .int (nI (y.2.1 ||| 0)), .int (nI (y.2.2.1 ||| 0)), .int (nI (y.2.2.2 ||| 0))])), (co, .inl (cA, 8, .inl (aN (va_up y.1 i (fke i))))), (sa, .inr (4, [.ref ra, .ref le, .ref ho, .ref tr, .ref ke, .int (nI nm), .int (nI kc), .int (nI cb), .int (nI ef)])), (ke, .inl (cA, 8, .inl (aN fke))), (hm, .inl (cA, 8, .inl (aN fhm)))] H := hP
            have hD : va_D A [(fa, .inr (2, [.ref co, .int (nI (y.2.1 ||| 0)), .int (nI (y.2.2.1 ||| 0)), .int (nI (y.2.2.2 ||| 0))])), (co, .inl (cA, 8, .inl (aN (va_up y.1 i (fke i))))), (sa, .inr (4, [.ref ra, .ref le, .ref ho, .ref tr, .ref ke, .int (nI nm), .int (nI kc), .int (nI cb), .int (nI ef)])), (ke, .inl (cA, 8, .inl (aN fke))), (hm, .inl (cA, 8, .inl (aN fhm)))] := hD
            refine lv_iinc (v := (nI (i + 1))) (lv' := [(4, .int (nI (i + 1))), (5, .int (nI (fke i))), (0, .ref fa), (1, .ref sa), (2, .int (nI nn)), (3, .ref hm)]) hx hb dX0_keep_121 hl (k := 5) rfl (nI_add _ _) (by decide) rfl (fun ls hl => ?_)
            refine lv_goto (tgt := 18) hx hb dX0_keep_124 (by decide) ?_
            have eB : knBody fke fhm i y = (va_up y.1 i (fke i), y.2.1 ||| 0, y.2.2.1 ||| 0, y.2.2.2 ||| 0) := by unfold knBody; (repeat' (first | rfl | contradiction | split))
            have hP : va_P D vwCl [(fa, .inr (2, [.ref co, .int (nI ((knBody fke fhm i y).2.1)), .int (nI ((knBody fke fhm i y).2.2.1)), .int (nI ((knBody fke fhm i y).2.2.2))])), (co, .inl (cA, 8, .inl (aN ((knBody fke fhm i y).1)))), (sa, .inr (4, [.ref ra, .ref le, .ref ho, .ref tr, .ref ke, .int (nI nm), .int (nI kc), .int (nI cb), .int (nI ef)])), (ke, .inl (cA, 8, .inl (aN fke))), (hm, .inl (cA, 8, .inl (aN fhm)))] H := by rw [eB]; exact hP
            have hD : va_D A [(fa, .inr (2, [.ref co, .int (nI ((knBody fke fhm i y).2.1)), .int (nI ((knBody fke fhm i y).2.2.1)), .int (nI ((knBody fke fhm i y).2.2.2))])), (co, .inl (cA, 8, .inl (aN ((knBody fke fhm i y).1)))), (sa, .inr (4, [.ref ra, .ref le, .ref ho, .ref tr, .ref ke, .int (nI nm), .int (nI kc), .int (nI cb), .int (nI ef)])), (ke, .inl (cA, 8, .inl (aN fke))), (hm, .inl (cA, 8, .inl (aN fhm)))] := by rw [eB]; exact hD
            exact ih (i + 1) (knBody fke fhm i y) (by omega) _ _ _ hP hD hS (lv_sub hl [2, 3, 4, 5, 0] rfl) kk
          · have c_106 := if01_ne c_106
            refine lv_iconst (v := nI 1) hx hb dX0_keep_109 (by decide) ?_
            refine lv_iload hx hb dX0_keep_110 (lv_at hl 5 rfl) ?_
            refine nn_ishl hx hb (by omega) dX0_keep_112 ?_
            refine lv_goto (tgt := 117) hx hb dX0_keep_113 (by decide) ?_
            refine nn_ior hx hb dX0_keep_117 ?_
            refine va_put (D := D) (ci := 2) (v := .int (nI (y.2.2.2 ||| (1 <<< i)))) (ty := .int) (C := RX0) (T := TX0) (N := 4) hx hb hts inX0_keep_X0 tyX0 tyX0_ok nmX0 hown hK.1 hP hD hS 0 rfl rfl 3 (by decide) (hts _ lkX0_keep_22) (fun _ h9 => h9) rfl (by decide +kernel) rfl rfl (Nat.le_of_ble_eq_true rfl) dX0_keep_118 (fun H locs hP hD hS => ?_)
            have hP : va_P D vwCl [(fa, .inr (2, [.ref co, .int (nI (y.2.1 ||| 0)), .int (nI (y.2.2.1 ||| 0)), .int (nI (y.2.2.2 ||| (1 <<< i)))])), (co, .inl (cA, 8, .inl (aN (va_up y.1 i (fke i))))), (sa, .inr (4, [.ref ra, .ref le, .ref ho, .ref tr, .ref ke, .int (nI nm), .int (nI kc), .int (nI cb), .int (nI ef)])), (ke, .inl (cA, 8, .inl (aN fke))), (hm, .inl (cA, 8, .inl (aN fhm)))] H := hP
            have hD : va_D A [(fa, .inr (2, [.ref co, .int (nI (y.2.1 ||| 0)), .int (nI (y.2.2.1 ||| 0)), .int (nI (y.2.2.2 ||| (1 <<< i)))])), (co, .inl (cA, 8, .inl (aN (va_up y.1 i (fke i))))), (sa, .inr (4, [.ref ra, .ref le, .ref ho, .ref tr, .ref ke, .int (nI nm), .int (nI kc), .int (nI cb), .int (nI ef)])), (ke, .inl (cA, 8, .inl (aN fke))), (hm, .inl (cA, 8, .inl (aN fhm)))] := hD
            refine lv_iinc (v := (nI (i + 1))) (lv' := [(4, .int (nI (i + 1))), (5, .int (nI (fke i))), (0, .ref fa), (1, .ref sa), (2, .int (nI nn)), (3, .ref hm)]) hx hb dX0_keep_121 hl (k := 5) rfl (nI_add _ _) (by decide) rfl (fun ls hl => ?_)
            refine lv_goto (tgt := 18) hx hb dX0_keep_124 (by decide) ?_
            have eB : knBody fke fhm i y = (va_up y.1 i (fke i), y.2.1 ||| 0, y.2.2.1 ||| 0, y.2.2.2 ||| (1 <<< i)) := by unfold knBody; (repeat' (first | rfl | contradiction | split))
            have hP : va_P D vwCl [(fa, .inr (2, [.ref co, .int (nI ((knBody fke fhm i y).2.1)), .int (nI ((knBody fke fhm i y).2.2.1)), .int (nI ((knBody fke fhm i y).2.2.2))])), (co, .inl (cA, 8, .inl (aN ((knBody fke fhm i y).1)))), (sa, .inr (4, [.ref ra, .ref le, .ref ho, .ref tr, .ref ke, .int (nI nm), .int (nI kc), .int (nI cb), .int (nI ef)])), (ke, .inl (cA, 8, .inl (aN fke))), (hm, .inl (cA, 8, .inl (aN fhm)))] H := by rw [eB]; exact hP
            have hD : va_D A [(fa, .inr (2, [.ref co, .int (nI ((knBody fke fhm i y).2.1)), .int (nI ((knBody fke fhm i y).2.2.1)), .int (nI ((knBody fke fhm i y).2.2.2))])), (co, .inl (cA, 8, .inl (aN ((knBody fke fhm i y).1)))), (sa, .inr (4, [.ref ra, .ref le, .ref ho, .ref tr, .ref ke, .int (nI nm), .int (nI kc), .int (nI cb), .int (nI ef)])), (ke, .inl (cA, 8, .inl (aN fke))), (hm, .inl (cA, 8, .inl (aN fhm)))] := by rw [eB]; exact hD
            exact ih (i + 1) (knBody fke fhm i y) (by omega) _ _ _ hP hD hS (lv_sub hl [2, 3, 4, 5, 0] rfl) kk
        · have c_77 := if10_ne c_77
          refine lv_iconst (v := nI 1) hx hb dX0_keep_80 (by decide) ?_
          refine lv_iload hx hb dX0_keep_81 (lv_at hl 5 rfl) ?_
          refine nn_ishl hx hb (by omega) dX0_keep_83 ?_
          refine lv_goto (tgt := 88) hx hb dX0_keep_84 (by decide) ?_
          refine nn_ior hx hb dX0_keep_88 ?_
          refine va_put (D := D) (ci := 2) (v := .int (nI (y.2.2.1 ||| (1 <<< i)))) (ty := .int) (C := RX0) (T := TX0) (N := 4) hx hb hts inX0_keep_X0 tyX0 tyX0_ok nmX0 hown hK.1 hP hD hS 0 rfl rfl 2 (by decide) (hts _ lkX0_keep_19) (fun _ h9 => h9) rfl (by decide +kernel) rfl rfl (Nat.le_of_ble_eq_true rfl) dX0_keep_89 (fun H locs hP hD hS => ?_)
          have hP : va_P D vwCl [(fa, .inr (2, [.ref co, .int (nI (y.2.1 ||| 0)), .int (nI (y.2.2.1 ||| (1 <<< i))), .int (nI y.2.2.2)])), (co, .inl (cA, 8, .inl (aN (va_up y.1 i (fke i))))), (sa, .inr (4, [.ref ra, .ref le, .ref ho, .ref tr, .ref ke, .int (nI nm), .int (nI kc), .int (nI cb), .int (nI ef)])), (ke, .inl (cA, 8, .inl (aN fke))), (hm, .inl (cA, 8, .inl (aN fhm)))] H := hP
          have hD : va_D A [(fa, .inr (2, [.ref co, .int (nI (y.2.1 ||| 0)), .int (nI (y.2.2.1 ||| (1 <<< i))), .int (nI y.2.2.2)])), (co, .inl (cA, 8, .inl (aN (va_up y.1 i (fke i))))), (sa, .inr (4, [.ref ra, .ref le, .ref ho, .ref tr, .ref ke, .int (nI nm), .int (nI kc), .int (nI cb), .int (nI ef)])), (ke, .inl (cA, 8, .inl (aN fke))), (hm, .inl (cA, 8, .inl (aN fhm)))] := hD
          refine lv_aload_n hx hb dX0_keep_92 rfl (lv_at hl 1 rfl) ?_
          refine lv_dup hx hb dX0_keep_93 rfl ?_
          refine va_get (D := D) (ci := 2) (v := .int (nI y.2.2.2)) (C := RX0) (T := TX0) (N := 4) hx hb hts inX0_keep_X0 hown hK.1 hP 0 rfl rfl 3 (by decide) (hts _ lkX0_keep_22) (fun _ h9 => h9) rfl dX0_keep_94 ?_
          refine lv_iload hx hb dX0_keep_97 (lv_at hl 0 rfl) ?_
          refine lv_aload_n hx hb dX0_keep_99 rfl (lv_at hl 4 rfl) ?_
          refine lv_iload hx hb dX0_keep_100 (lv_at hl 5 rfl) ?_
          refine nn_ald hx hb hK hP 4 rfl (by omega) (by decide) dX0_keep_102 ?_
          refine zz_callI (av := []) (wc := []) (wr := [(fa, .inr (2, [.ref co, .int (nI (y.2.1 ||| 0)), .int (nI (y.2.2.1 ||| (1 <<< i))), .int (nI y.2.2.2)])), (co, .inl (cA, 8, .inl (aN (va_up y.1 i (fke i))))), (sa, .inr (4, [.ref ra, .ref le, .ref ho, .ref tr, .ref ke, .int (nI nm), .int (nI kc), .int (nI cb), .int (nI ef)])), (ke, .inl (cA, 8, .inl (aN fke))), (hm, .inl (cA, 8, .inl (aN fhm)))]) hS hA hP hD [] [0, 1, 2, 3, 4] rfl rfl (by decide) (by decide) (va_runSN (As := [.int (nI (fke i)), .int (nI (fhm i))]) (rest := [.int (nI y.2.2.2), .ref fa]) ⟨hx, hb, hml, hown, hts⟩ (kX3_isDown l D cA H.size (fke i) (fhm i) (Nat.lt_trans (h2 _) (by decide)) (Nat.lt_trans (h1 _) (by decide))) ⟨va_cnB 2 hts gX0_keep_X3_isDown_n35 rfl rfl rfl (hK.2 _ nkX0_35) (hts _ iniX0_keep_X3) (by decide +kernel) ⟨Nat.le_trans (by decide) hRf, Nat.le_trans (by decide) hRl⟩, hts _ stX0_keep_X3_isDown, trivial⟩ (zPreS (av := [.int (nI (fke i)), .int (nI (fhm i))]) (wc := []) hK hP hD [] rfl (by decide) rfl) rfl rfl hl.1 rfl (lv_room (Nat.le_of_ble_eq_true rfl)) dX0_keep_103 ⟨Nat.zero_le _, Nat.zero_le _⟩) (fun H locs hP hD hS => ?_)
          have hP : va_P D vwCl [(fa, .inr (2, [.ref co, .int (nI (y.2.1 ||| 0)), .int (nI (y.2.2.1 ||| (1 <<< i))), .int (nI y.2.2.2)])), (co, .inl (cA, 8, .inl (aN (va_up y.1 i (fke i))))), (sa, .inr (4, [.ref ra, .ref le, .ref ho, .ref tr, .ref ke, .int (nI nm), .int (nI kc), .int (nI cb), .int (nI ef)])), (ke, .inl (cA, 8, .inl (aN fke))), (hm, .inl (cA, 8, .inl (aN fhm)))] H := hP
          have hD : va_D A [(fa, .inr (2, [.ref co, .int (nI (y.2.1 ||| 0)), .int (nI (y.2.2.1 ||| (1 <<< i))), .int (nI y.2.2.2)])), (co, .inl (cA, 8, .inl (aN (va_up y.1 i (fke i))))), (sa, .inr (4, [.ref ra, .ref le, .ref ho, .ref tr, .ref ke, .int (nI nm), .int (nI kc), .int (nI cb), .int (nI ef)])), (ke, .inl (cA, 8, .inl (aN fke))), (hm, .inl (cA, 8, .inl (aN fhm)))] := hD
          refine nn_if_eq (tgt := 116) hx hb dX0_keep_106 (by decide) if01_lt (fun c_106 => ?_) (fun c_106 => ?_)
          · have c_106 := if01_eq c_106
            refine lv_iconst (v := nI 0) hx hb dX0_keep_116 (by decide) ?_
            refine nn_ior hx hb dX0_keep_117 ?_
            refine va_put (D := D) (ci := 2) (v := .int (nI (y.2.2.2 ||| 0))) (ty := .int) (C := RX0) (T := TX0) (N := 4) hx hb hts inX0_keep_X0 tyX0 tyX0_ok nmX0 hown hK.1 hP hD hS 0 rfl rfl 3 (by decide) (hts _ lkX0_keep_22) (fun _ h9 => h9) rfl (by decide +kernel) rfl rfl (Nat.le_of_ble_eq_true rfl) dX0_keep_118 (fun H locs hP hD hS => ?_)
            have hP : va_P D vwCl [(fa, .inr (2, [.ref co, .int (nI (y.2.1 ||| 0)), .int (nI (y.2.2.1 ||| (1 <<< i))), .int (nI (y.2.2.2 ||| 0))])), (co, .inl (cA, 8, .inl (aN (va_up y.1 i (fke i))))), (sa, .inr (4, [.ref ra, .ref le, .ref ho, .ref tr, .ref ke, .int (nI nm), .int (nI kc), .int (nI cb), .int (nI ef)])), (ke, .inl (cA, 8, .inl (aN fke))), (hm, .inl (cA, 8, .inl (aN fhm)))] H := hP
            have hD : va_D A [(fa, .inr (2, [.ref co, .int (nI (y.2.1 ||| 0)), .int (nI (y.2.2.1 ||| (1 <<< i))), .int (nI (y.2.2.2 ||| 0))])), (co, .inl (cA, 8, .inl (aN (va_up y.1 i (fke i))))), (sa, .inr (4, [.ref ra, .ref le, .ref ho, .ref tr, .ref ke, .int (nI nm), .int (nI kc), .int (nI cb), .int (nI ef)])), (ke, .inl (cA, 8, .inl (aN fke))), (hm, .inl (cA, 8, .inl (aN fhm)))] := hD
            refine lv_iinc (v := (nI (i + 1))) (lv' := [(4, .int (nI (i + 1))), (5, .int (nI (fke i))), (0, .ref fa), (1, .ref sa), (2, .int (nI nn)), (3, .ref hm)]) hx hb dX0_keep_121 hl (k := 5) rfl (nI_add _ _) (by decide) rfl (fun ls hl => ?_)
            refine lv_goto (tgt := 18) hx hb dX0_keep_124 (by decide) ?_
            have eB : knBody fke fhm i y = (va_up y.1 i (fke i), y.2.1 ||| 0, y.2.2.1 ||| (1 <<< i), y.2.2.2 ||| 0) := by unfold knBody; (repeat' (first | rfl | contradiction | split))
            have hP : va_P D vwCl [(fa, .inr (2, [.ref co, .int (nI ((knBody fke fhm i y).2.1)), .int (nI ((knBody fke fhm i y).2.2.1)), .int (nI ((knBody fke fhm i y).2.2.2))])), (co, .inl (cA, 8, .inl (aN ((knBody fke fhm i y).1)))), (sa, .inr (4, [.ref ra, .ref le, .ref ho, .ref tr, .ref ke, .int (nI nm), .int (nI kc), .int (nI cb), .int (nI ef)])), (ke, .inl (cA, 8, .inl (aN fke))), (hm, .inl (cA, 8, .inl (aN fhm)))] H := by rw [eB]; exact hP
            have hD : va_D A [(fa, .inr (2, [.ref co, .int (nI ((knBody fke fhm i y).2.1)), .int (nI ((knBody fke fhm i y).2.2.1)), .int (nI ((knBody fke fhm i y).2.2.2))])), (co, .inl (cA, 8, .inl (aN ((knBody fke fhm i y).1)))), (sa, .inr (4, [.ref ra, .ref le, .ref ho, .ref tr, .ref ke, .int (nI nm), .int (nI kc), .int (nI cb), .int (nI ef)])), (ke, .inl (cA, 8, .inl (aN fke))), (hm, .inl (cA, 8, .inl (aN fhm)))] := by rw [eB]; exact hD
            exact ih (i + 1) (knBody fke fhm i y) (by omega) _ _ _ hP hD hS (lv_sub hl [2, 3, 4, 5, 0] rfl) kk
          · have c_106 := if01_ne c_106
            refine lv_iconst (v := nI 1) hx hb dX0_keep_109 (by decide) ?_
            refine lv_iload hx hb dX0_keep_110 (lv_at hl 5 rfl) ?_
            refine nn_ishl hx hb (by omega) dX0_keep_112 ?_
            refine lv_goto (tgt := 117) hx hb dX0_keep_113 (by decide) ?_
            refine nn_ior hx hb dX0_keep_117 ?_
            refine va_put (D := D) (ci := 2) (v := .int (nI (y.2.2.2 ||| (1 <<< i)))) (ty := .int) (C := RX0) (T := TX0) (N := 4) hx hb hts inX0_keep_X0 tyX0 tyX0_ok nmX0 hown hK.1 hP hD hS 0 rfl rfl 3 (by decide) (hts _ lkX0_keep_22) (fun _ h9 => h9) rfl (by decide +kernel) rfl rfl (Nat.le_of_ble_eq_true rfl) dX0_keep_118 (fun H locs hP hD hS => ?_)
            have hP : va_P D vwCl [(fa, .inr (2, [.ref co, .int (nI (y.2.1 ||| 0)), .int (nI (y.2.2.1 ||| (1 <<< i))), .int (nI (y.2.2.2 ||| (1 <<< i)))])), (co, .inl (cA, 8, .inl (aN (va_up y.1 i (fke i))))), (sa, .inr (4, [.ref ra, .ref le, .ref ho, .ref tr, .ref ke, .int (nI nm), .int (nI kc), .int (nI cb), .int (nI ef)])), (ke, .inl (cA, 8, .inl (aN fke))), (hm, .inl (cA, 8, .inl (aN fhm)))] H := hP
            have hD : va_D A [(fa, .inr (2, [.ref co, .int (nI (y.2.1 ||| 0)), .int (nI (y.2.2.1 ||| (1 <<< i))), .int (nI (y.2.2.2 ||| (1 <<< i)))])), (co, .inl (cA, 8, .inl (aN (va_up y.1 i (fke i))))), (sa, .inr (4, [.ref ra, .ref le, .ref ho, .ref tr, .ref ke, .int (nI nm), .int (nI kc), .int (nI cb), .int (nI ef)])), (ke, .inl (cA, 8, .inl (aN fke))), (hm, .inl (cA, 8, .inl (aN fhm)))] := hD
            refine lv_iinc (v := (nI (i + 1))) (lv' := [(4, .int (nI (i + 1))), (5, .int (nI (fke i))), (0, .ref fa), (1, .ref sa), (2, .int (nI nn)), (3, .ref hm)]) hx hb dX0_keep_121 hl (k := 5) rfl (nI_add _ _) (by decide) rfl (fun ls hl => ?_)
            refine lv_goto (tgt := 18) hx hb dX0_keep_124 (by decide) ?_
            have eB : knBody fke fhm i y = (va_up y.1 i (fke i), y.2.1 ||| 0, y.2.2.1 ||| (1 <<< i), y.2.2.2 ||| (1 <<< i)) := by unfold knBody; (repeat' (first | rfl | contradiction | split))
            have hP : va_P D vwCl [(fa, .inr (2, [.ref co, .int (nI ((knBody fke fhm i y).2.1)), .int (nI ((knBody fke fhm i y).2.2.1)), .int (nI ((knBody fke fhm i y).2.2.2))])), (co, .inl (cA, 8, .inl (aN ((knBody fke fhm i y).1)))), (sa, .inr (4, [.ref ra, .ref le, .ref ho, .ref tr, .ref ke, .int (nI nm), .int (nI kc), .int (nI cb), .int (nI ef)])), (ke, .inl (cA, 8, .inl (aN fke))), (hm, .inl (cA, 8, .inl (aN fhm)))] H := by rw [eB]; exact hP
            have hD : va_D A [(fa, .inr (2, [.ref co, .int (nI ((knBody fke fhm i y).2.1)), .int (nI ((knBody fke fhm i y).2.2.1)), .int (nI ((knBody fke fhm i y).2.2.2))])), (co, .inl (cA, 8, .inl (aN ((knBody fke fhm i y).1)))), (sa, .inr (4, [.ref ra, .ref le, .ref ho, .ref tr, .ref ke, .int (nI nm), .int (nI kc), .int (nI cb), .int (nI ef)])), (ke, .inl (cA, 8, .inl (aN fke))), (hm, .inl (cA, 8, .inl (aN fhm)))] := by rw [eB]; exact hD
            exact ih (i + 1) (knBody fke fhm i y) (by omega) _ _ _ hP hD hS (lv_sub hl [2, 3, 4, 5, 0] rfl) kk
      · refine lv_iconst (v := nI 1) hx hb dX0_keep_51 (by decide) ?_
        refine lv_iload hx hb dX0_keep_52 (lv_at hl 5 rfl) ?_
        refine nn_ishl hx hb (by omega) dX0_keep_54 ?_
        refine lv_goto (tgt := 59) hx hb dX0_keep_55 (by decide) ?_
        refine nn_ior hx hb dX0_keep_59 ?_
        refine va_put (D := D) (ci := 2) (v := .int (nI (y.2.1 ||| (1 <<< i)))) (ty := .int) (C := RX0) (T := TX0) (N := 4) hx hb hts inX0_keep_X0 tyX0 tyX0_ok nmX0 hown hK.1 hP hD hS 0 rfl rfl 1 (by decide) (hts _ lkX0_keep_15) (fun _ h9 => h9) rfl (by decide +kernel) rfl rfl (Nat.le_of_ble_eq_true rfl) dX0_keep_60 (fun H locs hP hD hS => ?_)
        have hP : va_P D vwCl [(fa, .inr (2, [.ref co, .int (nI (y.2.1 ||| (1 <<< i))), .int (nI y.2.2.1), .int (nI y.2.2.2)])), (co, .inl (cA, 8, .inl (aN (va_up y.1 i (fke i))))), (sa, .inr (4, [.ref ra, .ref le, .ref ho, .ref tr, .ref ke, .int (nI nm), .int (nI kc), .int (nI cb), .int (nI ef)])), (ke, .inl (cA, 8, .inl (aN fke))), (hm, .inl (cA, 8, .inl (aN fhm)))] H := hP
        have hD : va_D A [(fa, .inr (2, [.ref co, .int (nI (y.2.1 ||| (1 <<< i))), .int (nI y.2.2.1), .int (nI y.2.2.2)])), (co, .inl (cA, 8, .inl (aN (va_up y.1 i (fke i))))), (sa, .inr (4, [.ref ra, .ref le, .ref ho, .ref tr, .ref ke, .int (nI nm), .int (nI kc), .int (nI cb), .int (nI ef)])), (ke, .inl (cA, 8, .inl (aN fke))), (hm, .inl (cA, 8, .inl (aN fhm)))] := hD
        refine lv_aload_n hx hb dX0_keep_63 rfl (lv_at hl 1 rfl) ?_
        refine lv_dup hx hb dX0_keep_64 rfl ?_
        refine va_get (D := D) (ci := 2) (v := .int (nI y.2.2.1)) (C := RX0) (T := TX0) (N := 4) hx hb hts inX0_keep_X0 hown hK.1 hP 0 rfl rfl 2 (by decide) (hts _ lkX0_keep_19) (fun _ h9 => h9) rfl dX0_keep_65 ?_
        refine lv_iload hx hb dX0_keep_68 (lv_at hl 0 rfl) ?_
        refine lv_aload_n hx hb dX0_keep_70 rfl (lv_at hl 4 rfl) ?_
        refine lv_iload hx hb dX0_keep_71 (lv_at hl 5 rfl) ?_
        refine nn_ald hx hb hK hP 4 rfl (by omega) (by decide) dX0_keep_73 ?_
        refine zz_callI (av := []) (wc := []) (wr := [(fa, .inr (2, [.ref co, .int (nI (y.2.1 ||| (1 <<< i))), .int (nI y.2.2.1), .int (nI y.2.2.2)])), (co, .inl (cA, 8, .inl (aN (va_up y.1 i (fke i))))), (sa, .inr (4, [.ref ra, .ref le, .ref ho, .ref tr, .ref ke, .int (nI nm), .int (nI kc), .int (nI cb), .int (nI ef)])), (ke, .inl (cA, 8, .inl (aN fke))), (hm, .inl (cA, 8, .inl (aN fhm)))]) hS hA hP hD [] [0, 1, 2, 3, 4] rfl rfl (by decide) (by decide) (va_runSN (As := [.int (nI (fke i)), .int (nI (fhm i))]) (rest := [.int (nI y.2.2.1), .ref fa]) ⟨hx, hb, hml, hown, hts⟩ (kX3_isChanged l D cA H.size (fke i) (fhm i) (Nat.lt_trans (h2 _) (by decide)) (Nat.lt_trans (h1 _) (by decide))) ⟨va_cnB 2 hts gX0_keep_X3_isChanged_n31 rfl rfl rfl (hK.2 _ nkX0_31) (hts _ iniX0_keep_X3) (by decide +kernel) ⟨Nat.le_trans (by decide) hRf, Nat.le_trans (by decide) hRl⟩, hts _ stX0_keep_X3_isChanged, trivial⟩ (zPreS (av := [.int (nI (fke i)), .int (nI (fhm i))]) (wc := []) hK hP hD [] rfl (by decide) rfl) rfl rfl hl.1 rfl (lv_room (Nat.le_of_ble_eq_true rfl)) dX0_keep_74 ⟨Nat.zero_le _, Nat.zero_le _⟩) (fun H locs hP hD hS => ?_)
        have hP : va_P D vwCl [(fa, .inr (2, [.ref co, .int (nI (y.2.1 ||| (1 <<< i))), .int (nI y.2.2.1), .int (nI y.2.2.2)])), (co, .inl (cA, 8, .inl (aN (va_up y.1 i (fke i))))), (sa, .inr (4, [.ref ra, .ref le, .ref ho, .ref tr, .ref ke, .int (nI nm), .int (nI kc), .int (nI cb), .int (nI ef)])), (ke, .inl (cA, 8, .inl (aN fke))), (hm, .inl (cA, 8, .inl (aN fhm)))] H := hP
        have hD : va_D A [(fa, .inr (2, [.ref co, .int (nI (y.2.1 ||| (1 <<< i))), .int (nI y.2.2.1), .int (nI y.2.2.2)])), (co, .inl (cA, 8, .inl (aN (va_up y.1 i (fke i))))), (sa, .inr (4, [.ref ra, .ref le, .ref ho, .ref tr, .ref ke, .int (nI nm), .int (nI kc), .int (nI cb), .int (nI ef)])), (ke, .inl (cA, 8, .inl (aN fke))), (hm, .inl (cA, 8, .inl (aN fhm)))] := hD
        refine nn_if_eq (tgt := 87) hx hb dX0_keep_77 (by decide) if10_lt (fun c_77 => ?_) (fun c_77 => ?_)
        · have c_77 := if10_eq c_77
          refine lv_iconst (v := nI 0) hx hb dX0_keep_87 (by decide) ?_
          refine nn_ior hx hb dX0_keep_88 ?_
          refine va_put (D := D) (ci := 2) (v := .int (nI (y.2.2.1 ||| 0))) (ty := .int) (C := RX0) (T := TX0) (N := 4) hx hb hts inX0_keep_X0 tyX0 tyX0_ok nmX0 hown hK.1 hP hD hS 0 rfl rfl 2 (by decide) (hts _ lkX0_keep_19) (fun _ h9 => h9) rfl (by decide +kernel) rfl rfl (Nat.le_of_ble_eq_true rfl) dX0_keep_89 (fun H locs hP hD hS => ?_)
          have hP : va_P D vwCl [(fa, .inr (2, [.ref co, .int (nI (y.2.1 ||| (1 <<< i))), .int (nI (y.2.2.1 ||| 0)), .int (nI y.2.2.2)])), (co, .inl (cA, 8, .inl (aN (va_up y.1 i (fke i))))), (sa, .inr (4, [.ref ra, .ref le, .ref ho, .ref tr, .ref ke, .int (nI nm), .int (nI kc), .int (nI cb), .int (nI ef)])), (ke, .inl (cA, 8, .inl (aN fke))), (hm, .inl (cA, 8, .inl (aN fhm)))] H := hP
          have hD : va_D A [(fa, .inr (2, [.ref co, .int (nI (y.2.1 ||| (1 <<< i))), .int (nI (y.2.2.1 ||| 0)), .int (nI y.2.2.2)])), (co, .inl (cA, 8, .inl (aN (va_up y.1 i (fke i))))), (sa, .inr (4, [.ref ra, .ref le, .ref ho, .ref tr, .ref ke, .int (nI nm), .int (nI kc), .int (nI cb), .int (nI ef)])), (ke, .inl (cA, 8, .inl (aN fke))), (hm, .inl (cA, 8, .inl (aN fhm)))] := hD
          refine lv_aload_n hx hb dX0_keep_92 rfl (lv_at hl 1 rfl) ?_
          refine lv_dup hx hb dX0_keep_93 rfl ?_
          refine va_get (D := D) (ci := 2) (v := .int (nI y.2.2.2)) (C := RX0) (T := TX0) (N := 4) hx hb hts inX0_keep_X0 hown hK.1 hP 0 rfl rfl 3 (by decide) (hts _ lkX0_keep_22) (fun _ h9 => h9) rfl dX0_keep_94 ?_
          refine lv_iload hx hb dX0_keep_97 (lv_at hl 0 rfl) ?_
          refine lv_aload_n hx hb dX0_keep_99 rfl (lv_at hl 4 rfl) ?_
          refine lv_iload hx hb dX0_keep_100 (lv_at hl 5 rfl) ?_
          refine nn_ald hx hb hK hP 4 rfl (by omega) (by decide) dX0_keep_102 ?_
          refine zz_callI (av := []) (wc := []) (wr := [(fa, .inr (2, [.ref co, .int (nI (y.2.1 ||| (1 <<< i))), .int (nI (y.2.2.1 ||| 0)), .int (nI y.2.2.2)])), (co, .inl (cA, 8, .inl (aN (va_up y.1 i (fke i))))), (sa, .inr (4, [.ref ra, .ref le, .ref ho, .ref tr, .ref ke, .int (nI nm), .int (nI kc), .int (nI cb), .int (nI ef)])), (ke, .inl (cA, 8, .inl (aN fke))), (hm, .inl (cA, 8, .inl (aN fhm)))]) hS hA hP hD [] [0, 1, 2, 3, 4] rfl rfl (by decide) (by decide) (va_runSN (As := [.int (nI (fke i)), .int (nI (fhm i))]) (rest := [.int (nI y.2.2.2), .ref fa]) ⟨hx, hb, hml, hown, hts⟩ (kX3_isDown l D cA H.size (fke i) (fhm i) (Nat.lt_trans (h2 _) (by decide)) (Nat.lt_trans (h1 _) (by decide))) ⟨va_cnB 2 hts gX0_keep_X3_isDown_n35 rfl rfl rfl (hK.2 _ nkX0_35) (hts _ iniX0_keep_X3) (by decide +kernel) ⟨Nat.le_trans (by decide) hRf, Nat.le_trans (by decide) hRl⟩, hts _ stX0_keep_X3_isDown, trivial⟩ (zPreS (av := [.int (nI (fke i)), .int (nI (fhm i))]) (wc := []) hK hP hD [] rfl (by decide) rfl) rfl rfl hl.1 rfl (lv_room (Nat.le_of_ble_eq_true rfl)) dX0_keep_103 ⟨Nat.zero_le _, Nat.zero_le _⟩) (fun H locs hP hD hS => ?_)
          have hP : va_P D vwCl [(fa, .inr (2, [.ref co, .int (nI (y.2.1 ||| (1 <<< i))), .int (nI (y.2.2.1 ||| 0)), .int (nI y.2.2.2)])), (co, .inl (cA, 8, .inl (aN (va_up y.1 i (fke i))))), (sa, .inr (4, [.ref ra, .ref le, .ref ho, .ref tr, .ref ke, .int (nI nm), .int (nI kc), .int (nI cb), .int (nI ef)])), (ke, .inl (cA, 8, .inl (aN fke))), (hm, .inl (cA, 8, .inl (aN fhm)))] H := hP
          have hD : va_D A [(fa, .inr (2, [.ref co, .int (nI (y.2.1 ||| (1 <<< i))), .int (nI (y.2.2.1 ||| 0)), .int (nI y.2.2.2)])), (co, .inl (cA, 8, .inl (aN (va_up y.1 i (fke i))))), (sa, .inr (4, [.ref ra, .ref le, .ref ho, .ref tr, .ref ke, .int (nI nm), .int (nI kc), .int (nI cb), .int (nI ef)])), (ke, .inl (cA, 8, .inl (aN fke))), (hm, .inl (cA, 8, .inl (aN fhm)))] := hD
          refine nn_if_eq (tgt := 116) hx hb dX0_keep_106 (by decide) if01_lt (fun c_106 => ?_) (fun c_106 => ?_)
          · have c_106 := if01_eq c_106
            refine lv_iconst (v := nI 0) hx hb dX0_keep_116 (by decide) ?_
            refine nn_ior hx hb dX0_keep_117 ?_
            refine va_put (D := D) (ci := 2) (v := .int (nI (y.2.2.2 ||| 0))) (ty := .int) (C := RX0) (T := TX0) (N := 4) hx hb hts inX0_keep_X0 tyX0 tyX0_ok nmX0 hown hK.1 hP hD hS 0 rfl rfl 3 (by decide) (hts _ lkX0_keep_22) (fun _ h9 => h9) rfl (by decide +kernel) rfl rfl (Nat.le_of_ble_eq_true rfl) dX0_keep_118 (fun H locs hP hD hS => ?_)
            have hP : va_P D vwCl [(fa, .inr (2, [.ref co, .int (nI (y.2.1 ||| (1 <<< i))), .int (nI (y.2.2.1 ||| 0)), .int (nI (y.2.2.2 ||| 0))])), (co, .inl (cA, 8, .inl (aN (va_up y.1 i (fke i))))), (sa, .inr (4, [.ref ra, .ref le, .ref ho, .ref tr, .ref ke, .int (nI nm), .int (nI kc), .int (nI cb), .int (nI ef)])), (ke, .inl (cA, 8, .inl (aN fke))), (hm, .inl (cA, 8, .inl (aN fhm)))] H := hP
            have hD : va_D A [(fa, .inr (2, [.ref co, .int (nI (y.2.1 ||| (1 <<< i))), .int (nI (y.2.2.1 ||| 0)), .int (nI (y.2.2.2 ||| 0))])), (co, .inl (cA, 8, .inl (aN (va_up y.1 i (fke i))))), (sa, .inr (4, [.ref ra, .ref le, .ref ho, .ref tr, .ref ke, .int (nI nm), .int (nI kc), .int (nI cb), .int (nI ef)])), (ke, .inl (cA, 8, .inl (aN fke))), (hm, .inl (cA, 8, .inl (aN fhm)))] := hD
            refine lv_iinc (v := (nI (i + 1))) (lv' := [(4, .int (nI (i + 1))), (5, .int (nI (fke i))), (0, .ref fa), (1, .ref sa), (2, .int (nI nn)), (3, .ref hm)]) hx hb dX0_keep_121 hl (k := 5) rfl (nI_add _ _) (by decide) rfl (fun ls hl => ?_)
            refine lv_goto (tgt := 18) hx hb dX0_keep_124 (by decide) ?_
            have eB : knBody fke fhm i y = (va_up y.1 i (fke i), y.2.1 ||| (1 <<< i), y.2.2.1 ||| 0, y.2.2.2 ||| 0) := by unfold knBody; (repeat' (first | rfl | contradiction | split))
            have hP : va_P D vwCl [(fa, .inr (2, [.ref co, .int (nI ((knBody fke fhm i y).2.1)), .int (nI ((knBody fke fhm i y).2.2.1)), .int (nI ((knBody fke fhm i y).2.2.2))])), (co, .inl (cA, 8, .inl (aN ((knBody fke fhm i y).1)))), (sa, .inr (4, [.ref ra, .ref le, .ref ho, .ref tr, .ref ke, .int (nI nm), .int (nI kc), .int (nI cb), .int (nI ef)])), (ke, .inl (cA, 8, .inl (aN fke))), (hm, .inl (cA, 8, .inl (aN fhm)))] H := by rw [eB]; exact hP
            have hD : va_D A [(fa, .inr (2, [.ref co, .int (nI ((knBody fke fhm i y).2.1)), .int (nI ((knBody fke fhm i y).2.2.1)), .int (nI ((knBody fke fhm i y).2.2.2))])), (co, .inl (cA, 8, .inl (aN ((knBody fke fhm i y).1)))), (sa, .inr (4, [.ref ra, .ref le, .ref ho, .ref tr, .ref ke, .int (nI nm), .int (nI kc), .int (nI cb), .int (nI ef)])), (ke, .inl (cA, 8, .inl (aN fke))), (hm, .inl (cA, 8, .inl (aN fhm)))] := by rw [eB]; exact hD
            exact ih (i + 1) (knBody fke fhm i y) (by omega) _ _ _ hP hD hS (lv_sub hl [2, 3, 4, 5, 0] rfl) kk
          · have c_106 := if01_ne c_106
            refine lv_iconst (v := nI 1) hx hb dX0_keep_109 (by decide) ?_
            refine lv_iload hx hb dX0_keep_110 (lv_at hl 5 rfl) ?_
            refine nn_ishl hx hb (by omega) dX0_keep_112 ?_
            refine lv_goto (tgt := 117) hx hb dX0_keep_113 (by decide) ?_
            refine nn_ior hx hb dX0_keep_117 ?_
            refine va_put (D := D) (ci := 2) (v := .int (nI (y.2.2.2 ||| (1 <<< i)))) (ty := .int) (C := RX0) (T := TX0) (N := 4) hx hb hts inX0_keep_X0 tyX0 tyX0_ok nmX0 hown hK.1 hP hD hS 0 rfl rfl 3 (by decide) (hts _ lkX0_keep_22) (fun _ h9 => h9) rfl (by decide +kernel) rfl rfl (Nat.le_of_ble_eq_true rfl) dX0_keep_118 (fun H locs hP hD hS => ?_)
            have hP : va_P D vwCl [(fa, .inr (2, [.ref co, .int (nI (y.2.1 ||| (1 <<< i))), .int (nI (y.2.2.1 ||| 0)), .int (nI (y.2.2.2 ||| (1 <<< i)))])), (co, .inl (cA, 8, .inl (aN (va_up y.1 i (fke i))))), (sa, .inr (4, [.ref ra, .ref le, .ref ho, .ref tr, .ref ke, .int (nI nm), .int (nI kc), .int (nI cb), .int (nI ef)])), (ke, .inl (cA, 8, .inl (aN fke))), (hm, .inl (cA, 8, .inl (aN fhm)))] H := hP
            have hD : va_D A [(fa, .inr (2, [.ref co, .int (nI (y.2.1 ||| (1 <<< i))), .int (nI (y.2.2.1 ||| 0)), .int (nI (y.2.2.2 ||| (1 <<< i)))])), (co, .inl (cA, 8, .inl (aN (va_up y.1 i (fke i))))), (sa, .inr (4, [.ref ra, .ref le, .ref ho, .ref tr, .ref ke, .int (nI nm), .int (nI kc), .int (nI cb), .int (nI ef)])), (ke, .inl (cA, 8, .inl (aN fke))), (hm, .inl (cA, 8, .inl (aN fhm)))] := hD
            refine lv_iinc (v := (nI (i + 1))) (lv' := [(4, .int (nI (i + 1))), (5, .int (nI (fke i))), (0, .ref fa), (1, .ref sa), (2, .int (nI nn)), (3, .ref hm)]) hx hb dX0_keep_121 hl (k := 5) rfl (nI_add _ _) (by decide) rfl (fun ls hl => ?_)
            refine lv_goto (tgt := 18) hx hb dX0_keep_124 (by decide) ?_
            have eB : knBody fke fhm i y = (va_up y.1 i (fke i), y.2.1 ||| (1 <<< i), y.2.2.1 ||| 0, y.2.2.2 ||| (1 <<< i)) := by unfold knBody; (repeat' (first | rfl | contradiction | split))
            have hP : va_P D vwCl [(fa, .inr (2, [.ref co, .int (nI ((knBody fke fhm i y).2.1)), .int (nI ((knBody fke fhm i y).2.2.1)), .int (nI ((knBody fke fhm i y).2.2.2))])), (co, .inl (cA, 8, .inl (aN ((knBody fke fhm i y).1)))), (sa, .inr (4, [.ref ra, .ref le, .ref ho, .ref tr, .ref ke, .int (nI nm), .int (nI kc), .int (nI cb), .int (nI ef)])), (ke, .inl (cA, 8, .inl (aN fke))), (hm, .inl (cA, 8, .inl (aN fhm)))] H := by rw [eB]; exact hP
            have hD : va_D A [(fa, .inr (2, [.ref co, .int (nI ((knBody fke fhm i y).2.1)), .int (nI ((knBody fke fhm i y).2.2.1)), .int (nI ((knBody fke fhm i y).2.2.2))])), (co, .inl (cA, 8, .inl (aN ((knBody fke fhm i y).1)))), (sa, .inr (4, [.ref ra, .ref le, .ref ho, .ref tr, .ref ke, .int (nI nm), .int (nI kc), .int (nI cb), .int (nI ef)])), (ke, .inl (cA, 8, .inl (aN fke))), (hm, .inl (cA, 8, .inl (aN fhm)))] := by rw [eB]; exact hD
            exact ih (i + 1) (knBody fke fhm i y) (by omega) _ _ _ hP hD hS (lv_sub hl [2, 3, 4, 5, 0] rfl) kk
        · have c_77 := if10_ne c_77
          refine lv_iconst (v := nI 1) hx hb dX0_keep_80 (by decide) ?_
          refine lv_iload hx hb dX0_keep_81 (lv_at hl 5 rfl) ?_
          refine nn_ishl hx hb (by omega) dX0_keep_83 ?_
          refine lv_goto (tgt := 88) hx hb dX0_keep_84 (by decide) ?_
          refine nn_ior hx hb dX0_keep_88 ?_
          refine va_put (D := D) (ci := 2) (v := .int (nI (y.2.2.1 ||| (1 <<< i)))) (ty := .int) (C := RX0) (T := TX0) (N := 4) hx hb hts inX0_keep_X0 tyX0 tyX0_ok nmX0 hown hK.1 hP hD hS 0 rfl rfl 2 (by decide) (hts _ lkX0_keep_19) (fun _ h9 => h9) rfl (by decide +kernel) rfl rfl (Nat.le_of_ble_eq_true rfl) dX0_keep_89 (fun H locs hP hD hS => ?_)
          have hP : va_P D vwCl [(fa, .inr (2, [.ref co, .int (nI (y.2.1 ||| (1 <<< i))), .int (nI (y.2.2.1 ||| (1 <<< i))), .int (nI y.2.2.2)])), (co, .inl (cA, 8, .inl (aN (va_up y.1 i (fke i))))), (sa, .inr (4, [.ref ra, .ref le, .ref ho, .ref tr, .ref ke, .int (nI nm), .int (nI kc), .int (nI cb), .int (nI ef)])), (ke, .inl (cA, 8, .inl (aN fke))), (hm, .inl (cA, 8, .inl (aN fhm)))] H := hP
          have hD : va_D A [(fa, .inr (2, [.ref co, .int (nI (y.2.1 ||| (1 <<< i))), .int (nI (y.2.2.1 ||| (1 <<< i))), .int (nI y.2.2.2)])), (co, .inl (cA, 8, .inl (aN (va_up y.1 i (fke i))))), (sa, .inr (4, [.ref ra, .ref le, .ref ho, .ref tr, .ref ke, .int (nI nm), .int (nI kc), .int (nI cb), .int (nI ef)])), (ke, .inl (cA, 8, .inl (aN fke))), (hm, .inl (cA, 8, .inl (aN fhm)))] := hD
          refine lv_aload_n hx hb dX0_keep_92 rfl (lv_at hl 1 rfl) ?_
          refine lv_dup hx hb dX0_keep_93 rfl ?_
          refine va_get (D := D) (ci := 2) (v := .int (nI y.2.2.2)) (C := RX0) (T := TX0) (N := 4) hx hb hts inX0_keep_X0 hown hK.1 hP 0 rfl rfl 3 (by decide) (hts _ lkX0_keep_22) (fun _ h9 => h9) rfl dX0_keep_94 ?_
          refine lv_iload hx hb dX0_keep_97 (lv_at hl 0 rfl) ?_
          refine lv_aload_n hx hb dX0_keep_99 rfl (lv_at hl 4 rfl) ?_
          refine lv_iload hx hb dX0_keep_100 (lv_at hl 5 rfl) ?_
          refine nn_ald hx hb hK hP 4 rfl (by omega) (by decide) dX0_keep_102 ?_
          refine zz_callI (av := []) (wc := []) (wr := [(fa, .inr (2, [.ref co, .int (nI (y.2.1 ||| (1 <<< i))), .int (nI (y.2.2.1 ||| (1 <<< i))), .int (nI y.2.2.2)])), (co, .inl (cA, 8, .inl (aN (va_up y.1 i (fke i))))), (sa, .inr (4, [.ref ra, .ref le, .ref ho, .ref tr, .ref ke, .int (nI nm), .int (nI kc), .int (nI cb), .int (nI ef)])), (ke, .inl (cA, 8, .inl (aN fke))), (hm, .inl (cA, 8, .inl (aN fhm)))]) hS hA hP hD [] [0, 1, 2, 3, 4] rfl rfl (by decide) (by decide) (va_runSN (As := [.int (nI (fke i)), .int (nI (fhm i))]) (rest := [.int (nI y.2.2.2), .ref fa]) ⟨hx, hb, hml, hown, hts⟩ (kX3_isDown l D cA H.size (fke i) (fhm i) (Nat.lt_trans (h2 _) (by decide)) (Nat.lt_trans (h1 _) (by decide))) ⟨va_cnB 2 hts gX0_keep_X3_isDown_n35 rfl rfl rfl (hK.2 _ nkX0_35) (hts _ iniX0_keep_X3) (by decide +kernel) ⟨Nat.le_trans (by decide) hRf, Nat.le_trans (by decide) hRl⟩, hts _ stX0_keep_X3_isDown, trivial⟩ (zPreS (av := [.int (nI (fke i)), .int (nI (fhm i))]) (wc := []) hK hP hD [] rfl (by decide) rfl) rfl rfl hl.1 rfl (lv_room (Nat.le_of_ble_eq_true rfl)) dX0_keep_103 ⟨Nat.zero_le _, Nat.zero_le _⟩) (fun H locs hP hD hS => ?_)
          have hP : va_P D vwCl [(fa, .inr (2, [.ref co, .int (nI (y.2.1 ||| (1 <<< i))), .int (nI (y.2.2.1 ||| (1 <<< i))), .int (nI y.2.2.2)])), (co, .inl (cA, 8, .inl (aN (va_up y.1 i (fke i))))), (sa, .inr (4, [.ref ra, .ref le, .ref ho, .ref tr, .ref ke, .int (nI nm), .int (nI kc), .int (nI cb), .int (nI ef)])), (ke, .inl (cA, 8, .inl (aN fke))), (hm, .inl (cA, 8, .inl (aN fhm)))] H := hP
          have hD : va_D A [(fa, .inr (2, [.ref co, .int (nI (y.2.1 ||| (1 <<< i))), .int (nI (y.2.2.1 ||| (1 <<< i))), .int (nI y.2.2.2)])), (co, .inl (cA, 8, .inl (aN (va_up y.1 i (fke i))))), (sa, .inr (4, [.ref ra, .ref le, .ref ho, .ref tr, .ref ke, .int (nI nm), .int (nI kc), .int (nI cb), .int (nI ef)])), (ke, .inl (cA, 8, .inl (aN fke))), (hm, .inl (cA, 8, .inl (aN fhm)))] := hD
          refine nn_if_eq (tgt := 116) hx hb dX0_keep_106 (by decide) if01_lt (fun c_106 => ?_) (fun c_106 => ?_)
          · have c_106 := if01_eq c_106
            refine lv_iconst (v := nI 0) hx hb dX0_keep_116 (by decide) ?_
            refine nn_ior hx hb dX0_keep_117 ?_
            refine va_put (D := D) (ci := 2) (v := .int (nI (y.2.2.2 ||| 0))) (ty := .int) (C := RX0) (T := TX0) (N := 4) hx hb hts inX0_keep_X0 tyX0 tyX0_ok nmX0 hown hK.1 hP hD hS 0 rfl rfl 3 (by decide) (hts _ lkX0_keep_22) (fun _ h9 => h9) rfl (by decide +kernel) rfl rfl (Nat.le_of_ble_eq_true rfl) dX0_keep_118 (fun H locs hP hD hS => ?_)
            have hP : va_P D vwCl [(fa, .inr (2, [.ref co, .int (nI (y.2.1 ||| (1 <<< i))), .int (nI (y.2.2.1 ||| (1 <<< i))), .int (nI (y.2.2.2 ||| 0))])), (co, .inl (cA, 8, .inl (aN (va_up y.1 i (fke i))))), (sa, .inr (4, [.ref ra, .ref le, .ref ho, .ref tr, .ref ke, .int (nI nm), .int (nI kc), .int (nI cb), .int (nI ef)])), (ke, .inl (cA, 8, .inl (aN fke))), (hm, .inl (cA, 8, .inl (aN fhm)))] H := hP
            have hD : va_D A [(fa, .inr (2, [.ref co, .int (nI (y.2.1 ||| (1 <<< i))), .int (nI (y.2.2.1 ||| (1 <<< i))), .int (nI (y.2.2.2 ||| 0))])), (co, .inl (cA, 8, .inl (aN (va_up y.1 i (fke i))))), (sa, .inr (4, [.ref ra, .ref le, .ref ho, .ref tr, .ref ke, .int (nI nm), .int (nI kc), .int (nI cb), .int (nI ef)])), (ke, .inl (cA, 8, .inl (aN fke))), (hm, .inl (cA, 8, .inl (aN fhm)))] := hD
            refine lv_iinc (v := (nI (i + 1))) (lv' := [(4, .int (nI (i + 1))), (5, .int (nI (fke i))), (0, .ref fa), (1, .ref sa), (2, .int (nI nn)), (3, .ref hm)]) hx hb dX0_keep_121 hl (k := 5) rfl (nI_add _ _) (by decide) rfl (fun ls hl => ?_)
            refine lv_goto (tgt := 18) hx hb dX0_keep_124 (by decide) ?_
            have eB : knBody fke fhm i y = (va_up y.1 i (fke i), y.2.1 ||| (1 <<< i), y.2.2.1 ||| (1 <<< i), y.2.2.2 ||| 0) := by unfold knBody; (repeat' (first | rfl | contradiction | split))
            have hP : va_P D vwCl [(fa, .inr (2, [.ref co, .int (nI ((knBody fke fhm i y).2.1)), .int (nI ((knBody fke fhm i y).2.2.1)), .int (nI ((knBody fke fhm i y).2.2.2))])), (co, .inl (cA, 8, .inl (aN ((knBody fke fhm i y).1)))), (sa, .inr (4, [.ref ra, .ref le, .ref ho, .ref tr, .ref ke, .int (nI nm), .int (nI kc), .int (nI cb), .int (nI ef)])), (ke, .inl (cA, 8, .inl (aN fke))), (hm, .inl (cA, 8, .inl (aN fhm)))] H := by rw [eB]; exact hP
            have hD : va_D A [(fa, .inr (2, [.ref co, .int (nI ((knBody fke fhm i y).2.1)), .int (nI ((knBody fke fhm i y).2.2.1)), .int (nI ((knBody fke fhm i y).2.2.2))])), (co, .inl (cA, 8, .inl (aN ((knBody fke fhm i y).1)))), (sa, .inr (4, [.ref ra, .ref le, .ref ho, .ref tr, .ref ke, .int (nI nm), .int (nI kc), .int (nI cb), .int (nI ef)])), (ke, .inl (cA, 8, .inl (aN fke))), (hm, .inl (cA, 8, .inl (aN fhm)))] := by rw [eB]; exact hD
            exact ih (i + 1) (knBody fke fhm i y) (by omega) _ _ _ hP hD hS (lv_sub hl [2, 3, 4, 5, 0] rfl) kk
          · have c_106 := if01_ne c_106
            refine lv_iconst (v := nI 1) hx hb dX0_keep_109 (by decide) ?_
            refine lv_iload hx hb dX0_keep_110 (lv_at hl 5 rfl) ?_
            refine nn_ishl hx hb (by omega) dX0_keep_112 ?_
            refine lv_goto (tgt := 117) hx hb dX0_keep_113 (by decide) ?_
            refine nn_ior hx hb dX0_keep_117 ?_
            refine va_put (D := D) (ci := 2) (v := .int (nI (y.2.2.2 ||| (1 <<< i)))) (ty := .int) (C := RX0) (T := TX0) (N := 4) hx hb hts inX0_keep_X0 tyX0 tyX0_ok nmX0 hown hK.1 hP hD hS 0 rfl rfl 3 (by decide) (hts _ lkX0_keep_22) (fun _ h9 => h9) rfl (by decide +kernel) rfl rfl (Nat.le_of_ble_eq_true rfl) dX0_keep_118 (fun H locs hP hD hS => ?_)
            have hP : va_P D vwCl [(fa, .inr (2, [.ref co, .int (nI (y.2.1 ||| (1 <<< i))), .int (nI (y.2.2.1 ||| (1 <<< i))), .int (nI (y.2.2.2 ||| (1 <<< i)))])), (co, .inl (cA, 8, .inl (aN (va_up y.1 i (fke i))))), (sa, .inr (4, [.ref ra, .ref le, .ref ho, .ref tr, .ref ke, .int (nI nm), .int (nI kc), .int (nI cb), .int (nI ef)])), (ke, .inl (cA, 8, .inl (aN fke))), (hm, .inl (cA, 8, .inl (aN fhm)))] H := hP
            have hD : va_D A [(fa, .inr (2, [.ref co, .int (nI (y.2.1 ||| (1 <<< i))), .int (nI (y.2.2.1 ||| (1 <<< i))), .int (nI (y.2.2.2 ||| (1 <<< i)))])), (co, .inl (cA, 8, .inl (aN (va_up y.1 i (fke i))))), (sa, .inr (4, [.ref ra, .ref le, .ref ho, .ref tr, .ref ke, .int (nI nm), .int (nI kc), .int (nI cb), .int (nI ef)])), (ke, .inl (cA, 8, .inl (aN fke))), (hm, .inl (cA, 8, .inl (aN fhm)))] := hD
            refine lv_iinc (v := (nI (i + 1))) (lv' := [(4, .int (nI (i + 1))), (5, .int (nI (fke i))), (0, .ref fa), (1, .ref sa), (2, .int (nI nn)), (3, .ref hm)]) hx hb dX0_keep_121 hl (k := 5) rfl (nI_add _ _) (by decide) rfl (fun ls hl => ?_)
            refine lv_goto (tgt := 18) hx hb dX0_keep_124 (by decide) ?_
            have eB : knBody fke fhm i y = (va_up y.1 i (fke i), y.2.1 ||| (1 <<< i), y.2.2.1 ||| (1 <<< i), y.2.2.2 ||| (1 <<< i)) := by unfold knBody; (repeat' (first | rfl | contradiction | split))
            have hP : va_P D vwCl [(fa, .inr (2, [.ref co, .int (nI ((knBody fke fhm i y).2.1)), .int (nI ((knBody fke fhm i y).2.2.1)), .int (nI ((knBody fke fhm i y).2.2.2))])), (co, .inl (cA, 8, .inl (aN ((knBody fke fhm i y).1)))), (sa, .inr (4, [.ref ra, .ref le, .ref ho, .ref tr, .ref ke, .int (nI nm), .int (nI kc), .int (nI cb), .int (nI ef)])), (ke, .inl (cA, 8, .inl (aN fke))), (hm, .inl (cA, 8, .inl (aN fhm)))] H := by rw [eB]; exact hP
            have hD : va_D A [(fa, .inr (2, [.ref co, .int (nI ((knBody fke fhm i y).2.1)), .int (nI ((knBody fke fhm i y).2.2.1)), .int (nI ((knBody fke fhm i y).2.2.2))])), (co, .inl (cA, 8, .inl (aN ((knBody fke fhm i y).1)))), (sa, .inr (4, [.ref ra, .ref le, .ref ho, .ref tr, .ref ke, .int (nI nm), .int (nI kc), .int (nI cb), .int (nI ef)])), (ke, .inl (cA, 8, .inl (aN fke))), (hm, .inl (cA, 8, .inl (aN fhm)))] := by rw [eB]; exact hD
            exact ih (i + 1) (knBody fke fhm i y) (by omega) _ _ _ hP hD hS (lv_sub hl [2, 3, 4, 5, 0] rfl) kk

set_option maxHeartbeats 4000000 in
set_option maxRecDepth 100000 in
theorem kX0_keep (l : Launch) (D : va_G) (cA : ClassId) (sz : Nat) (fa : Nat) (co : Nat) (sa : Nat) (le : Nat) (ho : Nat) (tr : Nat) (ke : Nat) (ra : Nat) (hm : Nat) (fco : Nat → Nat) (fke : Nat → Nat) (fhm : Nat → Nat) (gv : Nat) (ch : Nat) (dn : Nat) (nm : Nat) (kc : Nat) (cb : Nat) (ef : Nat) (nn : Nat) (hn : nn ≤ 8) (h1 : ∀ j, fhm j < 32) (h2 : ∀ j, fke j < 32) : zMv l yX0_keep wsX0_keep ({ frames := 1, cells := 0, slots := 0, locals := 21 }) D cA [.ref fa, .ref sa, .int (nI nn), .ref hm] sz [(fa, .inr (2, [.ref co, .int (nI gv), .int (nI ch), .int (nI dn)])), (co, .inl (cA, 8, .inl (aN fco))), (sa, .inr (4, [.ref ra, .ref le, .ref ho, .ref tr, .ref ke, .int (nI nm), .int (nI kc), .int (nI cb), .int (nI ef)])), (ke, .inl (cA, 8, .inl (aN fke))), (hm, .inl (cA, 8, .inl (aN fhm)))] [(fa, .inr (2, [.ref co, .int (nI ((zlp (knBody fke fhm) nn 0 (fco, 0, 0, 0)).2.1)), .int (nI ((zlp (knBody fke fhm) nn 0 (fco, 0, 0, 0)).2.2.1)), .int (nI ((zlp (knBody fke fhm) nn 0 (fco, 0, 0, 0)).2.2.2))])), (co, .inl (cA, 8, .inl (aN ((zlp (knBody fke fhm) nn 0 (fco, 0, 0, 0)).1)))), (sa, .inr (4, [.ref ra, .ref le, .ref ho, .ref tr, .ref ke, .int (nI nm), .int (nI kc), .int (nI cb), .int (nI ef)])), (ke, .inl (cA, 8, .inl (aN fke))), (hm, .inl (cA, 8, .inl (aN fhm)))] := by
  refine Met.ofW (cc := cX0_keep) (maxL := 6) (ret := none) (by decide) rfl ?_
  intro p e s m args below meth c s₁ B hml hv
  obtain ⟨rfl, hsz, hP, hK, hD0⟩ := hv
  have hx := B.exec
  have hb := B.bytes
  have hr := B.returns
  have hts := atoms_spec (ws := wsX0_keep) B.pre
  have hown : s.vm.findClass RX0 = some m.cls := findClass_of_methodNamed B.named
  have hlocks := B.notSynchronized
  subst hsz
  have hD := hD0.self (sz := s.heap.size)
  generalize hAe : va_A [(fa, .inr (2, [.ref co, .int (nI gv), .int (nI ch), .int (nI dn)])), (co, .inl (cA, 8, .inl (aN fco))), (sa, .inr (4, [.ref ra, .ref le, .ref ho, .ref tr, .ref ke, .int (nI nm), .int (nI kc), .int (nI cb), .int (nI ef)])), (ke, .inl (cA, 8, .inl (aN fke))), (hm, .inl (cA, 8, .inl (aN fhm)))] s.heap.size = A at hD ⊢
  have hA : ∀ q : Nat, s.heap.size ≤ q → A q := fun q h => by rw [← hAe]; exact Or.inr h
  have hS : va_S A s.heap s.heap [] := va_S.rf
  have hP : va_P D vwCl [(fa, .inr (2, [.ref co, .int (nI gv), .int (nI ch), .int (nI dn)])), (co, .inl (cA, 8, .inl (aN fco))), (sa, .inr (4, [.ref ra, .ref le, .ref ho, .ref tr, .ref ke, .int (nI nm), .int (nI kc), .int (nI cb), .int (nI ef)])), (ke, .inl (cA, 8, .inl (aN fke))), (hm, .inl (cA, 8, .inl (aN fhm)))] s.heap := hP
  have hl := lv_entry ([.ref fa, .ref sa, .int (nI nn), .ref hm]) (n := 6) (Nat.le_of_ble_eq_true rfl)
  rw [lg_entry_eq]
  generalize (lg_sl ([.ref fa, .ref sa, .int (nI nn), .ref hm]) ++ List.replicate (6 - (lg_sl ([.ref fa, .ref sa, .int (nI nn), .ref hm])).length) Slot.unset).toArray = ls at hl ⊢
  have hl : lv_has ls 6 [(0, .ref fa), (1, .ref sa), (2, .int (nI nn)), (3, .ref hm)] := hl
  refine lv_aload_n hx hb dX0_keep_0 rfl (lv_at hl 0 rfl) ?_
  refine lv_iconst (v := nI 0) hx hb dX0_keep_1 (by decide) ?_
  refine va_put (D := D) (ci := 2) (v := .int (nI 0)) (ty := .int) (C := RX0) (T := TX0) (N := 4) hx hb hts inX0_keep_X0 tyX0 tyX0_ok nmX0 hown hK.1 hP hD hS 0 rfl rfl 1 (by decide) (hts _ lkX0_keep_15) (fun _ h9 => h9) rfl (by decide +kernel) rfl rfl (Nat.le_of_ble_eq_true rfl) dX0_keep_2 (fun H locs hP hD hS => ?_)
  have hP : va_P D vwCl [(fa, .inr (2, [.ref co, .int (nI 0), .int (nI ch), .int (nI dn)])), (co, .inl (cA, 8, .inl (aN fco))), (sa, .inr (4, [.ref ra, .ref le, .ref ho, .ref tr, .ref ke, .int (nI nm), .int (nI kc), .int (nI cb), .int (nI ef)])), (ke, .inl (cA, 8, .inl (aN fke))), (hm, .inl (cA, 8, .inl (aN fhm)))] H := hP
  have hD : va_D A [(fa, .inr (2, [.ref co, .int (nI 0), .int (nI ch), .int (nI dn)])), (co, .inl (cA, 8, .inl (aN fco))), (sa, .inr (4, [.ref ra, .ref le, .ref ho, .ref tr, .ref ke, .int (nI nm), .int (nI kc), .int (nI cb), .int (nI ef)])), (ke, .inl (cA, 8, .inl (aN fke))), (hm, .inl (cA, 8, .inl (aN fhm)))] := hD
  refine lv_aload_n hx hb dX0_keep_5 rfl (lv_at hl 0 rfl) ?_
  refine lv_iconst (v := nI 0) hx hb dX0_keep_6 (by decide) ?_
  refine va_put (D := D) (ci := 2) (v := .int (nI 0)) (ty := .int) (C := RX0) (T := TX0) (N := 4) hx hb hts inX0_keep_X0 tyX0 tyX0_ok nmX0 hown hK.1 hP hD hS 0 rfl rfl 2 (by decide) (hts _ lkX0_keep_19) (fun _ h9 => h9) rfl (by decide +kernel) rfl rfl (Nat.le_of_ble_eq_true rfl) dX0_keep_7 (fun H locs hP hD hS => ?_)
  have hP : va_P D vwCl [(fa, .inr (2, [.ref co, .int (nI 0), .int (nI 0), .int (nI dn)])), (co, .inl (cA, 8, .inl (aN fco))), (sa, .inr (4, [.ref ra, .ref le, .ref ho, .ref tr, .ref ke, .int (nI nm), .int (nI kc), .int (nI cb), .int (nI ef)])), (ke, .inl (cA, 8, .inl (aN fke))), (hm, .inl (cA, 8, .inl (aN fhm)))] H := hP
  have hD : va_D A [(fa, .inr (2, [.ref co, .int (nI 0), .int (nI 0), .int (nI dn)])), (co, .inl (cA, 8, .inl (aN fco))), (sa, .inr (4, [.ref ra, .ref le, .ref ho, .ref tr, .ref ke, .int (nI nm), .int (nI kc), .int (nI cb), .int (nI ef)])), (ke, .inl (cA, 8, .inl (aN fke))), (hm, .inl (cA, 8, .inl (aN fhm)))] := hD
  refine lv_aload_n hx hb dX0_keep_10 rfl (lv_at hl 0 rfl) ?_
  refine lv_iconst (v := nI 0) hx hb dX0_keep_11 (by decide) ?_
  refine va_put (D := D) (ci := 2) (v := .int (nI 0)) (ty := .int) (C := RX0) (T := TX0) (N := 4) hx hb hts inX0_keep_X0 tyX0 tyX0_ok nmX0 hown hK.1 hP hD hS 0 rfl rfl 3 (by decide) (hts _ lkX0_keep_22) (fun _ h9 => h9) rfl (by decide +kernel) rfl rfl (Nat.le_of_ble_eq_true rfl) dX0_keep_12 (fun H locs hP hD hS => ?_)
  have hP : va_P D vwCl [(fa, .inr (2, [.ref co, .int (nI 0), .int (nI 0), .int (nI 0)])), (co, .inl (cA, 8, .inl (aN fco))), (sa, .inr (4, [.ref ra, .ref le, .ref ho, .ref tr, .ref ke, .int (nI nm), .int (nI kc), .int (nI cb), .int (nI ef)])), (ke, .inl (cA, 8, .inl (aN fke))), (hm, .inl (cA, 8, .inl (aN fhm)))] H := hP
  have hD : va_D A [(fa, .inr (2, [.ref co, .int (nI 0), .int (nI 0), .int (nI 0)])), (co, .inl (cA, 8, .inl (aN fco))), (sa, .inr (4, [.ref ra, .ref le, .ref ho, .ref tr, .ref ke, .int (nI nm), .int (nI kc), .int (nI cb), .int (nI ef)])), (ke, .inl (cA, 8, .inl (aN fke))), (hm, .inl (cA, 8, .inl (aN fhm)))] := hD
  refine lv_iconst (v := nI 0) hx hb dX0_keep_15 (by decide) ?_
  refine lv_istore (lv' := [(4, .int (nI 0)), (0, .ref fa), (1, .ref sa), (2, .int (nI nn)), (3, .ref hm)]) hx hb dX0_keep_16 hl (by decide) rfl (fun ls hl => ?_)
  refine bX0_keep hx hb hml hown hts hK hA fa co sa le ho tr ke ra hm fke fhm nm kc cb ef nn hn h1 h2 (Nat.le_of_ble_eq_true rfl) (Nat.le_of_ble_eq_true rfl) nn 0 (fco, 0, 0, 0) (by omega) _ _ ls hP hD hS (lv_sub hl [1, 2, 3, 4, 0] rfl) (fun H locs ls hP hD hS hl => ?_)
  exact W.vret hx hb hr (fun t ht hW => ⟨⟨(), rfl, trivial, by rw [ht]; exact hP, hD⟩, hS.F ht⟩) hS.2.2 dX0_keep_127
end
section

def toN (x : Int32) : Nat := x.toNatClampNeg
def toC (x : Int32) : Nat := (x + 1).toNatClampNeg
abbrev isN (x : Int32) (n : Nat) : Prop := ¬ x < 0 ∧ x < nI n
theorem toN_eq {x : Int32} (h : ¬ x < 0) : x = nI (toN x) := by
  obtain ⟨j, hj, rfl⟩ := nI_of h
  unfold toN
  rw [nI_clamp hj]
theorem toN_nI {n : Nat} (h : n < 2 ^ 31) : toN (nI n) = n := nI_clamp h
theorem toN_lt31 (x : Int32) : toN x < 2147483648 := by
  unfold toN Int32.toNatClampNeg
  have := Int32.toInt_lt x
  omega
theorem isN_lt {x : Int32} {n : Nat} (hn : n < 2147483648) (h : isN x n) : toN x < n := by
  have h2 := h.2
  rw [toN_eq h.1] at h2
  exact (nI_ltI (toN_lt31 x) hn).mp h2
theorem isN_nI {j n : Nat} (hj : j < n) (hn : n < 2147483648) : isN (nI j) n := ⟨nI_pos (Nat.lt_trans hj hn), nI_lt hj hn⟩
theorem toC_eq {x : Int32} (h1 : ¬ x < -1) (h2 : x ≤ nI 9) : x = mI (toC x) ∧ toC x ≤ 10 := by
  have e1 : (-1 : Int32).toInt = -1 := rfl
  have e9 : (nI 9).toInt = 9 := rfl
  have q1 : -1 ≤ x.toInt := by
    rw [Int32.lt_iff_toInt_lt, e1] at h1
    omega
  have q2 : x.toInt ≤ 9 := by
    rw [Int32.le_iff_toInt_le, e9] at h2
    exact h2
  have q3 : (x + 1).toInt = x.toInt + 1 := by
    rw [Int32.toInt_add, show (1 : Int32).toInt = 1 from rfl, Int.bmod_eq_of_le] <;> omega
  have q4 : (toC x : Int) = x.toInt + 1 := by
    unfold toC Int32.toNatClampNeg
    rw [q3]
    omega
  refine ⟨?_, by omega⟩
  apply Int32.toInt_inj.mp
  rw [mI_toInt (by omega), q4]
  omega
theorem nI_max {a b : Nat} (ha : a < 2147483648) (hb : b < 2147483648) : (if nI a < nI b then nI b else nI a) = nI (if a < b then b else a) := by
  by_cases h : a < b
  · rw [if_pos h, if_pos ((nI_ltI ha hb).mpr h)]
  · rw [if_neg h, if_neg (fun q => h ((nI_ltI ha hb).mp q))]
theorem rng_eq {x : Int32} (h1 : ¬ x < nI 1) (h2 : ¬ nI 6 < x) : x = nI (toN x) ∧ 1 ≤ toN x ∧ toN x ≤ 6 := by
  have h0 : ¬ x < 0 := fun q => h1 (Int32.lt_trans q (by decide))
  have e := toN_eq h0
  have l := toN_lt31 x
  refine ⟨e, ?_, ?_⟩
  · rcases Nat.lt_or_ge (toN x) 1 with q | q
    · exact absurd (by rw [e]; exact (nI_ltI l (by decide)).mpr q) h1
    · exact q
  · rcases Nat.lt_or_ge 6 (toN x) with q | q
    · exact absurd (by rw [e]; exact (nI_ltI (by decide) l).mpr q) h2
    · exact q

theorem lkX3_isName_48 : Cond.fieldLink RX3 48 "LeastChange" "nameCount" "I" ∈ wsX3_isName := by decide +kernel
theorem inX3_isName_X3 : ∀ w ∈ wsX30, w ∈ wsX3_isName := by decide +kernel
set_option maxHeartbeats 4000000 in
set_option maxRecDepth 100000 in
theorem kX3_isName (l : Launch) (D : va_G) (cA : ClassId) (sz : Nat) (lc : Nat) (ra : Nat) (sa : Nat) (fa : Nat) (ve : Nat) (lk : Nat) (jo : Nat) (ba : Nat) (ro : Nat) (nc : Nat) (rc : Nat) (xx : Int32) (hnc : nc ≤ 8) : zMi l yX3_isName wsX3_isName ({ frames := 0, cells := 0, slots := 0, locals := 0 }) D cA [.ref lc, .int xx] sz [(lc, .inr (5, [.ref ra, .ref sa, .ref fa, .ref ve, .ref lk, .ref jo, .ref ba, .ref ro, .int (nI nc), .int (nI rc)]))] [(lc, .inr (5, [.ref ra, .ref sa, .ref fa, .ref ve, .ref lk, .ref jo, .ref ba, .ref ro, .int (nI nc), .int (nI rc)]))] (nI (if isN xx nc then 1 else 0)) := by
  refine Met.ofW (cc := cX3_isName) (maxL := 2) (ret := (some .boolean)) (by decide) rfl ?_
  intro p e s m args below meth c s₁ B hml hv
  obtain ⟨rfl, hsz, hP, hK, hD0⟩ := hv
  have hx := B.exec
  have hb := B.bytes
  have hr := B.returns
  have hts := atoms_spec (ws := wsX3_isName) B.pre
  have hown : s.vm.findClass RX3 = some m.cls := findClass_of_methodNamed B.named
  have hlocks := B.notSynchronized
  subst hsz
  have hD := hD0.self (sz := s.heap.size)
  generalize hAe : va_A [(lc, .inr (5, [.ref ra, .ref sa, .ref fa, .ref ve, .ref lk, .ref jo, .ref ba, .ref ro, .int (nI nc), .int (nI rc)]))] s.heap.size = A at hD ⊢
  have hA : ∀ q : Nat, s.heap.size ≤ q → A q := fun q h => by rw [← hAe]; exact Or.inr h
  have hS : va_S A s.heap s.heap [] := va_S.rf
  have hP : va_P D vwCl [(lc, .inr (5, [.ref ra, .ref sa, .ref fa, .ref ve, .ref lk, .ref jo, .ref ba, .ref ro, .int (nI nc), .int (nI rc)]))] s.heap := hP
  have hl := lv_entry ([.ref lc, .int xx]) (n := 2) (Nat.le_of_ble_eq_true rfl)
  rw [lg_entry_eq]
  generalize (lg_sl ([.ref lc, .int xx]) ++ List.replicate (2 - (lg_sl ([.ref lc, .int xx])).length) Slot.unset).toArray = ls at hl ⊢
  have hl : lv_has ls 2 [(0, .ref lc), (1, .int xx)] := hl
  refine lv_iload_n hx hb dX3_isName_0 rfl (lv_at hl 1 rfl) ?_
  refine lv_if_lt (tgt := 16) hx hb dX3_isName_1 (by decide) (fun c_1 => ?_) (fun c_1 => ?_)
  · refine lv_iconst (v := nI 0) hx hb dX3_isName_16 (by decide) ?_
    exact W.zret (v := (nI 0)) hx hb hr rfl (fun t ht hW => ⟨⟨(nI 0), (), rfl, (by first | exact congrArg nI (if_pos (show isN xx nc from ⟨c_1, Int32.not_le.mp c_9⟩)).symm | exact congrArg nI (if_neg (fun q : isN xx nc => Int32.not_le.mpr q.2 c_9)).symm | exact congrArg nI (if_neg (fun q : isN xx nc => q.1 c_1)).symm), by rw [ht]; exact hP, hD⟩, hS.F ht⟩) hS.2.2 dX3_isName_17
  · refine lv_iload_n hx hb dX3_isName_4 rfl (lv_at hl 1 rfl) ?_
    refine lv_aload_n hx hb dX3_isName_5 rfl (lv_at hl 0 rfl) ?_
    refine va_get (D := D) (ci := 5) (v := .int (nI nc)) (C := RX3) (T := TX3) (N := 10) hx hb hts inX3_isName_X3 hown hK.1 hP 0 rfl rfl 8 (by decide) (hts _ lkX3_isName_48) (fun _ h9 => h9) rfl dX3_isName_6 ?_
    refine lv_icmp_ge (tgt := 16) hx hb dX3_isName_9 (by decide) (fun c_9 => ?_) (fun c_9 => ?_)
    · refine lv_iconst (v := nI 0) hx hb dX3_isName_16 (by decide) ?_
      exact W.zret (v := (nI 0)) hx hb hr rfl (fun t ht hW => ⟨⟨(nI 0), (), rfl, (by first | exact congrArg nI (if_pos (show isN xx nc from ⟨c_1, Int32.not_le.mp c_9⟩)).symm | exact congrArg nI (if_neg (fun q : isN xx nc => Int32.not_le.mpr q.2 c_9)).symm | exact congrArg nI (if_neg (fun q : isN xx nc => q.1 c_1)).symm), by rw [ht]; exact hP, hD⟩, hS.F ht⟩) hS.2.2 dX3_isName_17
    · refine lv_iconst (v := nI 1) hx hb dX3_isName_12 (by decide) ?_
      refine lv_goto (tgt := 17) hx hb dX3_isName_13 (by decide) ?_
      exact W.zret (v := (nI 1)) hx hb hr rfl (fun t ht hW => ⟨⟨(nI 1), (), rfl, (by first | exact congrArg nI (if_pos (show isN xx nc from ⟨c_1, Int32.not_le.mp c_9⟩)).symm | exact congrArg nI (if_neg (fun q : isN xx nc => Int32.not_le.mpr q.2 c_9)).symm | exact congrArg nI (if_neg (fun q : isN xx nc => q.1 c_1)).symm), by rw [ht]; exact hP, hD⟩, hS.F ht⟩) hS.2.2 dX3_isName_17

theorem lkX3_addRow_45 : Cond.fieldLink RX3 45 "LeastChange" "rows" "[I" ∈ wsX3_addRow := by decide +kernel
theorem lkX3_addRow_52 : Cond.fieldLink RX3 52 "LeastChange" "rowCount" "I" ∈ wsX3_addRow := by decide +kernel
theorem inX3_addRow_X3 : ∀ w ∈ wsX30, w ∈ wsX3_addRow := by decide +kernel
set_option maxHeartbeats 4000000 in
set_option maxRecDepth 100000 in
theorem kX3_addRow (l : Launch) (D : va_G) (cA : ClassId) (sz : Nat) (lc : Nat) (ra : Nat) (sa : Nat) (fa : Nat) (ve : Nat) (lk : Nat) (jo : Nat) (ba : Nat) (ro : Nat) (nc : Nat) (rc : Nat) (fro : Nat → Nat) (kd : Nat) (na : Nat) (vs : Nat) (ot : Nat) (hrc : rc < 60) : zMi l yX3_addRow wsX3_addRow ({ frames := 0, cells := 0, slots := 0, locals := 0 }) D cA [.ref lc, .int (nI kd), .int (nI na), .int (nI vs), .int (nI ot)] sz [(lc, .inr (5, [.ref ra, .ref sa, .ref fa, .ref ve, .ref lk, .ref jo, .ref ba, .ref ro, .int (nI nc), .int (nI rc)])), (ro, .inl (cA, 60, .inl (aN fro)))] [(lc, .inr (5, [.ref ra, .ref sa, .ref fa, .ref ve, .ref lk, .ref jo, .ref ba, .ref ro, .int (nI nc), .int (nI (rc + 1))])), (ro, .inl (cA, 60, .inl (aN (va_up fro rc (((kd * 8 + na) * 8 + vs) * 8 + ot)))))] (nI rc) := by
  refine Met.ofW (cc := cX3_addRow) (maxL := 6) (ret := (some .int)) (by decide) rfl ?_
  intro p e s m args below meth c s₁ B hml hv
  obtain ⟨rfl, hsz, hP, hK, hD0⟩ := hv
  have hx := B.exec
  have hb := B.bytes
  have hr := B.returns
  have hts := atoms_spec (ws := wsX3_addRow) B.pre
  have hown : s.vm.findClass RX3 = some m.cls := findClass_of_methodNamed B.named
  have hlocks := B.notSynchronized
  subst hsz
  have hD := hD0.self (sz := s.heap.size)
  generalize hAe : va_A [(lc, .inr (5, [.ref ra, .ref sa, .ref fa, .ref ve, .ref lk, .ref jo, .ref ba, .ref ro, .int (nI nc), .int (nI rc)])), (ro, .inl (cA, 60, .inl (aN fro)))] s.heap.size = A at hD ⊢
  have hA : ∀ q : Nat, s.heap.size ≤ q → A q := fun q h => by rw [← hAe]; exact Or.inr h
  have hS : va_S A s.heap s.heap [] := va_S.rf
  have hP : va_P D vwCl [(lc, .inr (5, [.ref ra, .ref sa, .ref fa, .ref ve, .ref lk, .ref jo, .ref ba, .ref ro, .int (nI nc), .int (nI rc)])), (ro, .inl (cA, 60, .inl (aN fro)))] s.heap := hP
  have hl := lv_entry ([.ref lc, .int (nI kd), .int (nI na), .int (nI vs), .int (nI ot)]) (n := 6) (Nat.le_of_ble_eq_true rfl)
  rw [lg_entry_eq]
  generalize (lg_sl ([.ref lc, .int (nI kd), .int (nI na), .int (nI vs), .int (nI ot)]) ++ List.replicate (6 - (lg_sl ([.ref lc, .int (nI kd), .int (nI na), .int (nI vs), .int (nI ot)])).length) Slot.unset).toArray = ls at hl ⊢
  have hl : lv_has ls 6 [(0, .ref lc), (1, .int (nI kd)), (2, .int (nI na)), (3, .int (nI vs)), (4, .int (nI ot))] := hl
  refine lv_aload_n hx hb dX3_addRow_0 rfl (lv_at hl 0 rfl) ?_
  refine va_get (D := D) (ci := 5) (v := .int (nI rc)) (C := RX3) (T := TX3) (N := 10) hx hb hts inX3_addRow_X3 hown hK.1 hP 0 rfl rfl 9 (by decide) (hts _ lkX3_addRow_52) (fun _ h9 => h9) rfl dX3_addRow_1 ?_
  refine lv_istore (lv' := [(5, .int (nI rc)), (0, .ref lc), (1, .int (nI kd)), (2, .int (nI na)), (3, .int (nI vs)), (4, .int (nI ot))]) hx hb dX3_addRow_4 hl (by decide) rfl (fun ls hl => ?_)
  refine lv_aload_n hx hb dX3_addRow_6 rfl (lv_at hl 1 rfl) ?_
  refine va_get (D := D) (ci := 5) (v := .ref ro) (C := RX3) (T := TX3) (N := 10) hx hb hts inX3_addRow_X3 hown hK.1 hP 0 rfl rfl 7 (by decide) (hts _ lkX3_addRow_45) (fun _ h9 => h9) rfl dX3_addRow_7 ?_
  refine lv_iload hx hb dX3_addRow_10 (lv_at hl 0 rfl) ?_
  refine lv_iload_n hx hb dX3_addRow_12 rfl (lv_at hl 2 rfl) ?_
  refine lv_bipush (v := nI 8) hx hb dX3_addRow_13 (by decide) ?_
  refine nn_imul hx hb dX3_addRow_15 ?_
  refine lv_iload_n hx hb dX3_addRow_16 rfl (lv_at hl 3 rfl) ?_
  refine nn_iadd hx hb dX3_addRow_17 ?_
  refine lv_bipush (v := nI 8) hx hb dX3_addRow_18 (by decide) ?_
  refine nn_imul hx hb dX3_addRow_20 ?_
  refine lv_iload_n hx hb dX3_addRow_21 rfl (lv_at hl 4 rfl) ?_
  refine nn_iadd hx hb dX3_addRow_22 ?_
  refine lv_bipush (v := nI 8) hx hb dX3_addRow_23 (by decide) ?_
  refine nn_imul hx hb dX3_addRow_25 ?_
  refine lv_iload hx hb dX3_addRow_26 (lv_at hl 5 rfl) ?_
  refine nn_iadd hx hb dX3_addRow_28 ?_
  refine nn_ast hx hb hK hP hD hS 1 rfl (by omega) (by decide) dX3_addRow_29 (fun H locs hP hD hS => ?_)
  have hP : va_P D vwCl [(lc, .inr (5, [.ref ra, .ref sa, .ref fa, .ref ve, .ref lk, .ref jo, .ref ba, .ref ro, .int (nI nc), .int (nI rc)])), (ro, .inl (cA, 60, .inl (aN (va_up fro rc ((((((kd * 8) + na) * 8) + vs) * 8) + ot)))))] H := hP
  have hD : va_D A [(lc, .inr (5, [.ref ra, .ref sa, .ref fa, .ref ve, .ref lk, .ref jo, .ref ba, .ref ro, .int (nI nc), .int (nI rc)])), (ro, .inl (cA, 60, .inl (aN (va_up fro rc ((((((kd * 8) + na) * 8) + vs) * 8) + ot)))))] := hD
  refine lv_aload_n hx hb dX3_addRow_30 rfl (lv_at hl 1 rfl) ?_
  refine lv_dup hx hb dX3_addRow_31 rfl ?_
  refine va_get (D := D) (ci := 5) (v := .int (nI rc)) (C := RX3) (T := TX3) (N := 10) hx hb hts inX3_addRow_X3 hown hK.1 hP 0 rfl rfl 9 (by decide) (hts _ lkX3_addRow_52) (fun _ h9 => h9) rfl dX3_addRow_32 ?_
  refine lv_iconst (v := nI 1) hx hb dX3_addRow_35 (by decide) ?_
  refine nn_iadd hx hb dX3_addRow_36 ?_
  refine va_put (D := D) (ci := 5) (v := .int (nI (rc + 1))) (ty := .int) (C := RX3) (T := TX3) (N := 10) hx hb hts inX3_addRow_X3 tyX3 tyX3_ok nmX3 hown hK.1 hP hD hS 0 rfl rfl 9 (by decide) (hts _ lkX3_addRow_52) (fun _ h9 => h9) rfl (by decide +kernel) rfl rfl (Nat.le_of_ble_eq_true rfl) dX3_addRow_37 (fun H locs hP hD hS => ?_)
  have hP : va_P D vwCl [(lc, .inr (5, [.ref ra, .ref sa, .ref fa, .ref ve, .ref lk, .ref jo, .ref ba, .ref ro, .int (nI nc), .int (nI (rc + 1))])), (ro, .inl (cA, 60, .inl (aN (va_up fro rc ((((((kd * 8) + na) * 8) + vs) * 8) + ot)))))] H := hP
  have hD : va_D A [(lc, .inr (5, [.ref ra, .ref sa, .ref fa, .ref ve, .ref lk, .ref jo, .ref ba, .ref ro, .int (nI nc), .int (nI (rc + 1))])), (ro, .inl (cA, 60, .inl (aN (va_up fro rc ((((((kd * 8) + na) * 8) + vs) * 8) + ot)))))] := hD
  refine lv_iload hx hb dX3_addRow_40 (lv_at hl 0 rfl) ?_
  have eW : ([(lc, .inr (5, [.ref ra, .ref sa, .ref fa, .ref ve, .ref lk, .ref jo, .ref ba, .ref ro, .int (nI nc), .int (nI (rc + 1))])), (ro, .inl (cA, 60, .inl (aN (va_up fro rc ((((((kd * 8) + na) * 8) + vs) * 8) + ot)))))] : va_W) = [(lc, .inr (5, [.ref ra, .ref sa, .ref fa, .ref ve, .ref lk, .ref jo, .ref ba, .ref ro, .int (nI nc), .int (nI (rc + 1))])), (ro, .inl (cA, 60, .inl (aN (va_up fro rc (((kd * 8 + na) * 8 + vs) * 8 + ot)))))] := by rfl
  rw [eW] at hP hD
  exact W.iret (v := (nI rc)) hx hb hr (fun t ht hW => ⟨⟨(nI rc), (), rfl, rfl, by rw [ht]; exact hP, hD⟩, hS.F ht⟩) hS.2.2 dX3_addRow_42


def asF (xx : Int32) (kd cs nc rc : Nat) (fal fro : Nat → Nat) : Int32 × (Nat → Nat) × (Nat → Nat) × Nat :=
  if isN xx nc then (if rc < 60 then (nI rc, va_up fal (toN xx) ((fal (toN xx)) &&& cs), va_up fro rc (((kd * 8 + toN xx) * 8 + 0) * 8 + 0), rc + 1) else (-4, fal, fro, rc)) else (-1, fal, fro, rc)

theorem lkX3_addSetRow_12 : Cond.fieldLink RX3 12 "LeastChange" "rules" "LLeastChange$Rules;" ∈ wsX3_addSetRow := by decide +kernel
theorem lkX3_addSetRow_52 : Cond.fieldLink RX3 52 "LeastChange" "rowCount" "I" ∈ wsX3_addSetRow := by decide +kernel
theorem inX3_addSetRow_X3 : ∀ w ∈ wsX30, w ∈ wsX3_addSetRow := by decide +kernel
theorem iniX3_addSetRow_X1 : Cond.initialized RX1 ∈ wsX3_addSetRow := by decide +kernel
theorem imX3_addSetRow_X1_narrow : Cond.instanceMethod yX1_narrow ∈ wsX3_addSetRow := by decide +kernel
theorem seX3_addSetRow_X1_narrow : Cond.selects RX1 yX1_narrow yX1_narrow ∈ wsX3_addSetRow := by decide +kernel
set_option maxHeartbeats 4000000 in
set_option maxRecDepth 100000 in
theorem kX3_addSetRow (l : Launch) (D : va_G) (cA : ClassId) (sz : Nat) (lc : Nat) (ra : Nat) (sa : Nat) (fa : Nat) (ve : Nat) (lk : Nat) (jo : Nat) (ba : Nat) (ro : Nat) (al : Nat) (be : Nat) (nc : Nat) (rc : Nat) (fro : Nat → Nat) (fal : Nat → Nat) (fbe : Nat → Nat) (kd : Nat) (xx : Int32) (cs : Nat) (hnc : nc ≤ 8) (hrc : rc < 2147483648) : zMi l yX3_addSetRow wsX3_addSetRow ({ frames := 1, cells := 0, slots := 0, locals := 25 }) D cA [.ref lc, .int (nI kd), .int xx, .int (nI cs)] sz [(lc, .inr (5, [.ref ra, .ref sa, .ref fa, .ref ve, .ref lk, .ref jo, .ref ba, .ref ro, .int (nI nc), .int (nI rc)])), (ro, .inl (cA, 60, .inl (aN fro))), (ra, .inr (3, [.ref al, .ref be])), (al, .inl (cA, 8, .inl (aN fal))), (be, .inl (cA, 448, .inl (aN fbe)))] [(lc, .inr (5, [.ref ra, .ref sa, .ref fa, .ref ve, .ref lk, .ref jo, .ref ba, .ref ro, .int (nI nc), .int (nI ((asF xx kd cs nc rc fal fro).2.2.2))])), (ro, .inl (cA, 60, .inl (aN ((asF xx kd cs nc rc fal fro).2.2.1)))), (ra, .inr (3, [.ref al, .ref be])), (al, .inl (cA, 8, .inl (aN ((asF xx kd cs nc rc fal fro).2.1)))), (be, .inl (cA, 448, .inl (aN fbe)))] ((asF xx kd cs nc rc fal fro).1) := by
  refine Met.ofW (cc := cX3_addSetRow) (maxL := 4) (ret := (some .int)) (by decide) rfl ?_
  intro p e s m args below meth c s₁ B hml hv
  obtain ⟨rfl, hsz, hP, hK, hD0⟩ := hv
  have hx := B.exec
  have hb := B.bytes
  have hr := B.returns
  have hts := atoms_spec (ws := wsX3_addSetRow) B.pre
  have hown : s.vm.findClass RX3 = some m.cls := findClass_of_methodNamed B.named
  have hlocks := B.notSynchronized
  subst hsz
  have hD := hD0.self (sz := s.heap.size)
  generalize hAe : va_A [(lc, .inr (5, [.ref ra, .ref sa, .ref fa, .ref ve, .ref lk, .ref jo, .ref ba, .ref ro, .int (nI nc), .int (nI rc)])), (ro, .inl (cA, 60, .inl (aN fro))), (ra, .inr (3, [.ref al, .ref be])), (al, .inl (cA, 8, .inl (aN fal))), (be, .inl (cA, 448, .inl (aN fbe)))] s.heap.size = A at hD ⊢
  have hA : ∀ q : Nat, s.heap.size ≤ q → A q := fun q h => by rw [← hAe]; exact Or.inr h
  have hS : va_S A s.heap s.heap [] := va_S.rf
  have hP : va_P D vwCl [(lc, .inr (5, [.ref ra, .ref sa, .ref fa, .ref ve, .ref lk, .ref jo, .ref ba, .ref ro, .int (nI nc), .int (nI rc)])), (ro, .inl (cA, 60, .inl (aN fro))), (ra, .inr (3, [.ref al, .ref be])), (al, .inl (cA, 8, .inl (aN fal))), (be, .inl (cA, 448, .inl (aN fbe)))] s.heap := hP
  have hl := lv_entry ([.ref lc, .int (nI kd), .int xx, .int (nI cs)]) (n := 4) (Nat.le_of_ble_eq_true rfl)
  rw [lg_entry_eq]
  generalize (lg_sl ([.ref lc, .int (nI kd), .int xx, .int (nI cs)]) ++ List.replicate (4 - (lg_sl ([.ref lc, .int (nI kd), .int xx, .int (nI cs)])).length) Slot.unset).toArray = ls at hl ⊢
  have hl : lv_has ls 4 [(0, .ref lc), (1, .int (nI kd)), (2, .int xx), (3, .int (nI cs))] := hl
  refine lv_aload_n hx hb dX3_addSetRow_0 rfl (lv_at hl 0 rfl) ?_
  refine lv_iload_n hx hb dX3_addSetRow_1 rfl (lv_at hl 2 rfl) ?_
  refine zz_callI (av := []) (wc := [(lc, .inr (5, [.ref ra, .ref sa, .ref fa, .ref ve, .ref lk, .ref jo, .ref ba, .ref ro, .int (nI nc), .int (nI rc)]))]) (wr := [(ro, .inl (cA, 60, .inl (aN fro))), (ra, .inr (3, [.ref al, .ref be])), (al, .inl (cA, 8, .inl (aN fal))), (be, .inl (cA, 448, .inl (aN fbe)))]) hS hA hP hD [0] [1, 2, 3, 4] rfl rfl (by decide) (by decide) (va_runV (As := [.int xx]) (rest := []) ⟨hx, hb, hml, hown, hts⟩ (kX3_isName l D cA s.heap.size lc ra sa fa ve lk jo ba ro nc rc xx (by omega)) (cwV 1 hts gX3_addSetRow_X3_isName rfl rfl rfl (by decide +kernel) ⟨Nat.le_of_ble_eq_true rfl, Nat.le_of_ble_eq_true rfl⟩) ⟨(zPreS (av := [.ref lc, .int xx]) (wc := [(lc, .inr (5, [.ref ra, .ref sa, .ref fa, .ref ve, .ref lk, .ref jo, .ref ba, .ref ro, .int (nI nc), .int (nI rc)]))]) hK hP hD [0] rfl (by decide) rfl).1, (va_recv hK.1 hP (ci := 5) (q0 := 0) rfl rfl), (zPreS (av := [.ref lc, .int xx]) (wc := [(lc, .inr (5, [.ref ra, .ref sa, .ref fa, .ref ve, .ref lk, .ref jo, .ref ba, .ref ro, .int (nI nc), .int (nI rc)]))]) hK hP hD [0] rfl (by decide) rfl).2⟩ rfl rfl hl.1 rfl (lv_room (Nat.le_of_ble_eq_true rfl)) dX3_addSetRow_2 ⟨Nat.zero_le _, Nat.zero_le _⟩) (fun H locs hP hD hS => ?_)
  have hP : va_P D vwCl [(ro, .inl (cA, 60, .inl (aN fro))), (ra, .inr (3, [.ref al, .ref be])), (al, .inl (cA, 8, .inl (aN fal))), (be, .inl (cA, 448, .inl (aN fbe))), (lc, .inr (5, [.ref ra, .ref sa, .ref fa, .ref ve, .ref lk, .ref jo, .ref ba, .ref ro, .int (nI nc), .int (nI rc)]))] H := hP
  have hD : va_D A [(ro, .inl (cA, 60, .inl (aN fro))), (ra, .inr (3, [.ref al, .ref be])), (al, .inl (cA, 8, .inl (aN fal))), (be, .inl (cA, 448, .inl (aN fbe))), (lc, .inr (5, [.ref ra, .ref sa, .ref fa, .ref ve, .ref lk, .ref jo, .ref ba, .ref ro, .int (nI nc), .int (nI rc)]))] := hD
  have hP : va_P D vwCl [(lc, .inr (5, [.ref ra, .ref sa, .ref fa, .ref ve, .ref lk, .ref jo, .ref ba, .ref ro, .int (nI nc), .int (nI rc)])), (ro, .inl (cA, 60, .inl (aN fro))), (ra, .inr (3, [.ref al, .ref be])), (al, .inl (cA, 8, .inl (aN fal))), (be, .inl (cA, 448, .inl (aN fbe)))] H := hP.sub [4, 0, 1, 2, 3] rfl
  have hD : va_D A [(lc, .inr (5, [.ref ra, .ref sa, .ref fa, .ref ve, .ref lk, .ref jo, .ref ba, .ref ro, .int (nI nc), .int (nI rc)])), (ro, .inl (cA, 60, .inl (aN fro))), (ra, .inr (3, [.ref al, .ref be])), (al, .inl (cA, 8, .inl (aN fal))), (be, .inl (cA, 448, .inl (aN fbe)))] := hD.sub [4, 0, 1, 2, 3] (by decide) rfl
  refine nn_if_ne (tgt := 10) hx hb dX3_addSetRow_5 (by decide) if01_lt (fun c_5 => ?_) (fun c_5 => ?_)
  · have c_5 := if01_ne c_5
    have e2 := toN_eq (c_5).1
    have b2 : toN xx < nc := isN_lt (by omega) c_5
    have hl : lv_has ls 4 [(0, .ref lc), (1, .int (nI kd)), (2, .int (nI (toN xx))), (3, .int (nI cs))] := by rw [← e2]; exact hl
    refine lv_aload_n hx hb dX3_addSetRow_10 rfl (lv_at hl 0 rfl) ?_
    refine va_get (D := D) (ci := 5) (v := .int (nI rc)) (C := RX3) (T := TX3) (N := 10) hx hb hts inX3_addSetRow_X3 hown hK.1 hP 0 rfl rfl 9 (by decide) (hts _ lkX3_addSetRow_52) (fun _ h9 => h9) rfl dX3_addSetRow_11 ?_
    refine lv_bipush (v := nI 60) hx hb dX3_addSetRow_14 (by decide) ?_
    refine nn_icmp_lt (tgt := 22) hx hb dX3_addSetRow_16 (by decide) (by omega) (by omega) (fun c_16 => ?_) (fun c_16 => ?_)
    · refine lv_aload_n hx hb dX3_addSetRow_22 rfl (lv_at hl 0 rfl) ?_
      refine va_get (D := D) (ci := 5) (v := .ref ra) (C := RX3) (T := TX3) (N := 10) hx hb hts inX3_addSetRow_X3 hown hK.1 hP 0 rfl rfl 0 (by decide) (hts _ lkX3_addSetRow_12) (fun _ h9 => h9) rfl dX3_addSetRow_23 ?_
      refine lv_iload_n hx hb dX3_addSetRow_26 rfl (lv_at hl 2 rfl) ?_
      refine lv_iload_n hx hb dX3_addSetRow_27 rfl (lv_at hl 3 rfl) ?_
      refine zz_callV (av := []) (wc := [(ra, .inr (3, [.ref al, .ref be])), (al, .inl (cA, 8, .inl (aN fal))), (be, .inl (cA, 448, .inl (aN fbe)))]) (wr := [(lc, .inr (5, [.ref ra, .ref sa, .ref fa, .ref ve, .ref lk, .ref jo, .ref ba, .ref ro, .int (nI nc), .int (nI rc)])), (ro, .inl (cA, 60, .inl (aN fro)))]) hS hA hP hD [2, 3, 4] [0, 1] rfl rfl (by decide) (by decide) (va_runVN (As := [.int (nI (toN xx)), .int (nI cs)]) (rest := []) ⟨hx, hb, hml, hown, hts⟩ (kX1_narrow l D cA H.size ra al be fal fbe (toN xx) cs (by omega)) ⟨va_cnB 2 hts gX3_addSetRow_X1_narrow_n148 rfl rfl rfl (hK.2 _ nkX3_148) (hts _ iniX3_addSetRow_X1) (by decide +kernel) ⟨Nat.le_of_ble_eq_true rfl, Nat.le_of_ble_eq_true rfl⟩, hts _ imX3_addSetRow_X1_narrow, hts _ seX3_addSetRow_X1_narrow⟩ ⟨(zPreS (av := [.ref ra, .int (nI (toN xx)), .int (nI cs)]) (wc := [(ra, .inr (3, [.ref al, .ref be])), (al, .inl (cA, 8, .inl (aN fal))), (be, .inl (cA, 448, .inl (aN fbe)))]) hK hP hD [2, 3, 4] rfl (by decide) rfl).1, (va_recv hK.1 hP (ci := 3) (q0 := 2) rfl rfl), (zPreS (av := [.ref ra, .int (nI (toN xx)), .int (nI cs)]) (wc := [(ra, .inr (3, [.ref al, .ref be])), (al, .inl (cA, 8, .inl (aN fal))), (be, .inl (cA, 448, .inl (aN fbe)))]) hK hP hD [2, 3, 4] rfl (by decide) rfl).2⟩ rfl rfl hl.1 rfl (lv_room (Nat.le_of_ble_eq_true rfl)) dX3_addSetRow_28 ⟨Nat.zero_le _, Nat.zero_le _⟩) (fun H locs hP hD hS => ?_)
      have hP : va_P D vwCl [(lc, .inr (5, [.ref ra, .ref sa, .ref fa, .ref ve, .ref lk, .ref jo, .ref ba, .ref ro, .int (nI nc), .int (nI rc)])), (ro, .inl (cA, 60, .inl (aN fro))), (ra, .inr (3, [.ref al, .ref be])), (al, .inl (cA, 8, .inl (aN (va_up fal (toN xx) ((fal (toN xx)) &&& cs))))), (be, .inl (cA, 448, .inl (aN fbe)))] H := hP
      have hD : va_D A [(lc, .inr (5, [.ref ra, .ref sa, .ref fa, .ref ve, .ref lk, .ref jo, .ref ba, .ref ro, .int (nI nc), .int (nI rc)])), (ro, .inl (cA, 60, .inl (aN fro))), (ra, .inr (3, [.ref al, .ref be])), (al, .inl (cA, 8, .inl (aN (va_up fal (toN xx) ((fal (toN xx)) &&& cs))))), (be, .inl (cA, 448, .inl (aN fbe)))] := hD
      refine lv_aload_n hx hb dX3_addSetRow_31 rfl (lv_at hl 0 rfl) ?_
      refine lv_iload_n hx hb dX3_addSetRow_32 rfl (lv_at hl 1 rfl) ?_
      refine lv_iload_n hx hb dX3_addSetRow_33 rfl (lv_at hl 2 rfl) ?_
      refine lv_iconst (v := nI 0) hx hb dX3_addSetRow_34 (by decide) ?_
      refine lv_iconst (v := nI 0) hx hb dX3_addSetRow_35 (by decide) ?_
      refine zz_callI (av := []) (wc := [(lc, .inr (5, [.ref ra, .ref sa, .ref fa, .ref ve, .ref lk, .ref jo, .ref ba, .ref ro, .int (nI nc), .int (nI rc)])), (ro, .inl (cA, 60, .inl (aN fro)))]) (wr := [(ra, .inr (3, [.ref al, .ref be])), (al, .inl (cA, 8, .inl (aN (va_up fal (toN xx) ((fal (toN xx)) &&& cs))))), (be, .inl (cA, 448, .inl (aN fbe)))]) hS hA hP hD [0, 1] [2, 3, 4] rfl rfl (by decide) (by decide) (va_runV (As := [.int (nI kd), .int (nI (toN xx)), .int (nI 0), .int (nI 0)]) (rest := []) ⟨hx, hb, hml, hown, hts⟩ (kX3_addRow l D cA H.size lc ra sa fa ve lk jo ba ro nc rc fro kd (toN xx) 0 0 (by omega)) (cwV 4 hts gX3_addSetRow_X3_addRow rfl rfl rfl (by decide +kernel) ⟨Nat.le_of_ble_eq_true rfl, Nat.le_of_ble_eq_true rfl⟩) ⟨(zPreS (av := [.ref lc, .int (nI kd), .int (nI (toN xx)), .int (nI 0), .int (nI 0)]) (wc := [(lc, .inr (5, [.ref ra, .ref sa, .ref fa, .ref ve, .ref lk, .ref jo, .ref ba, .ref ro, .int (nI nc), .int (nI rc)])), (ro, .inl (cA, 60, .inl (aN fro)))]) hK hP hD [0, 1] rfl (by decide) rfl).1, (va_recv hK.1 hP (ci := 5) (q0 := 0) rfl rfl), (zPreS (av := [.ref lc, .int (nI kd), .int (nI (toN xx)), .int (nI 0), .int (nI 0)]) (wc := [(lc, .inr (5, [.ref ra, .ref sa, .ref fa, .ref ve, .ref lk, .ref jo, .ref ba, .ref ro, .int (nI nc), .int (nI rc)])), (ro, .inl (cA, 60, .inl (aN fro)))]) hK hP hD [0, 1] rfl (by decide) rfl).2⟩ rfl rfl hl.1 rfl (lv_room (Nat.le_of_ble_eq_true rfl)) dX3_addSetRow_36 ⟨Nat.zero_le _, Nat.zero_le _⟩) (fun H locs hP hD hS => ?_)
      have hP : va_P D vwCl [(ra, .inr (3, [.ref al, .ref be])), (al, .inl (cA, 8, .inl (aN (va_up fal (toN xx) ((fal (toN xx)) &&& cs))))), (be, .inl (cA, 448, .inl (aN fbe))), (lc, .inr (5, [.ref ra, .ref sa, .ref fa, .ref ve, .ref lk, .ref jo, .ref ba, .ref ro, .int (nI nc), .int (nI (rc + 1))])), (ro, .inl (cA, 60, .inl (aN (va_up fro rc (((kd * 8 + (toN xx)) * 8 + 0) * 8 + 0)))))] H := hP
      have hD : va_D A [(ra, .inr (3, [.ref al, .ref be])), (al, .inl (cA, 8, .inl (aN (va_up fal (toN xx) ((fal (toN xx)) &&& cs))))), (be, .inl (cA, 448, .inl (aN fbe))), (lc, .inr (5, [.ref ra, .ref sa, .ref fa, .ref ve, .ref lk, .ref jo, .ref ba, .ref ro, .int (nI nc), .int (nI (rc + 1))])), (ro, .inl (cA, 60, .inl (aN (va_up fro rc (((kd * 8 + (toN xx)) * 8 + 0) * 8 + 0)))))] := hD
      have hP : va_P D vwCl [(lc, .inr (5, [.ref ra, .ref sa, .ref fa, .ref ve, .ref lk, .ref jo, .ref ba, .ref ro, .int (nI nc), .int (nI (rc + 1))])), (ro, .inl (cA, 60, .inl (aN (va_up fro rc (((kd * 8 + (toN xx)) * 8 + 0) * 8 + 0))))), (ra, .inr (3, [.ref al, .ref be])), (al, .inl (cA, 8, .inl (aN (va_up fal (toN xx) ((fal (toN xx)) &&& cs))))), (be, .inl (cA, 448, .inl (aN fbe)))] H := hP.sub [3, 4, 0, 1, 2] rfl
      have hD : va_D A [(lc, .inr (5, [.ref ra, .ref sa, .ref fa, .ref ve, .ref lk, .ref jo, .ref ba, .ref ro, .int (nI nc), .int (nI (rc + 1))])), (ro, .inl (cA, 60, .inl (aN (va_up fro rc (((kd * 8 + (toN xx)) * 8 + 0) * 8 + 0))))), (ra, .inr (3, [.ref al, .ref be])), (al, .inl (cA, 8, .inl (aN (va_up fal (toN xx) ((fal (toN xx)) &&& cs))))), (be, .inl (cA, 448, .inl (aN fbe)))] := hD.sub [3, 4, 0, 1, 2] (by decide) rfl
      have eF : (asF xx kd cs nc rc fal fro) = ((nI rc), va_up fal (toN xx) ((fal (toN xx)) &&& cs), va_up fro rc (((kd * 8 + (toN xx)) * 8 + 0) * 8 + 0), rc + 1) := by unfold asF; (repeat' (first | rfl | contradiction | split))
      have eW : ([(lc, .inr (5, [.ref ra, .ref sa, .ref fa, .ref ve, .ref lk, .ref jo, .ref ba, .ref ro, .int (nI nc), .int (nI (rc + 1))])), (ro, .inl (cA, 60, .inl (aN (va_up fro rc (((kd * 8 + (toN xx)) * 8 + 0) * 8 + 0))))), (ra, .inr (3, [.ref al, .ref be])), (al, .inl (cA, 8, .inl (aN (va_up fal (toN xx) ((fal (toN xx)) &&& cs))))), (be, .inl (cA, 448, .inl (aN fbe)))] : va_W) = [(lc, .inr (5, [.ref ra, .ref sa, .ref fa, .ref ve, .ref lk, .ref jo, .ref ba, .ref ro, .int (nI nc), .int (nI ((asF xx kd cs nc rc fal fro).2.2.2))])), (ro, .inl (cA, 60, .inl (aN ((asF xx kd cs nc rc fal fro).2.2.1)))), (ra, .inr (3, [.ref al, .ref be])), (al, .inl (cA, 8, .inl (aN ((asF xx kd cs nc rc fal fro).2.1)))), (be, .inl (cA, 448, .inl (aN fbe)))] := by rw [eF]
      rw [eW] at hP hD
      exact W.iret (v := (nI rc)) hx hb hr (fun t ht hW => ⟨⟨(nI rc), (), rfl, (by rw [eF]), by rw [ht]; exact hP, hD⟩, hS.F ht⟩) hS.2.2 dX3_addSetRow_39
    · refine lv_bipush (v := -4) hx hb dX3_addSetRow_19 (by decide) ?_
      have eF : (asF xx kd cs nc rc fal fro) = ((-4), fal, fro, rc) := by unfold asF; (repeat' (first | rfl | contradiction | split))
      have eW : ([(lc, .inr (5, [.ref ra, .ref sa, .ref fa, .ref ve, .ref lk, .ref jo, .ref ba, .ref ro, .int (nI nc), .int (nI rc)])), (ro, .inl (cA, 60, .inl (aN fro))), (ra, .inr (3, [.ref al, .ref be])), (al, .inl (cA, 8, .inl (aN fal))), (be, .inl (cA, 448, .inl (aN fbe)))] : va_W) = [(lc, .inr (5, [.ref ra, .ref sa, .ref fa, .ref ve, .ref lk, .ref jo, .ref ba, .ref ro, .int (nI nc), .int (nI ((asF xx kd cs nc rc fal fro).2.2.2))])), (ro, .inl (cA, 60, .inl (aN ((asF xx kd cs nc rc fal fro).2.2.1)))), (ra, .inr (3, [.ref al, .ref be])), (al, .inl (cA, 8, .inl (aN ((asF xx kd cs nc rc fal fro).2.1)))), (be, .inl (cA, 448, .inl (aN fbe)))] := by rw [eF]
      rw [eW] at hP hD
      exact W.iret (v := (-4)) hx hb hr (fun t ht hW => ⟨⟨(-4), (), rfl, (by rw [eF]), by rw [ht]; exact hP, hD⟩, hS.F ht⟩) hS.2.2 dX3_addSetRow_21
  · have c_5 := if01_eq c_5
    refine lv_iconst (v := -1) hx hb dX3_addSetRow_8 (by decide) ?_
    have eF : (asF xx kd cs nc rc fal fro) = ((-1), fal, fro, rc) := by unfold asF; (repeat' (first | rfl | contradiction | split))
    have eW : ([(lc, .inr (5, [.ref ra, .ref sa, .ref fa, .ref ve, .ref lk, .ref jo, .ref ba, .ref ro, .int (nI nc), .int (nI rc)])), (ro, .inl (cA, 60, .inl (aN fro))), (ra, .inr (3, [.ref al, .ref be])), (al, .inl (cA, 8, .inl (aN fal))), (be, .inl (cA, 448, .inl (aN fbe)))] : va_W) = [(lc, .inr (5, [.ref ra, .ref sa, .ref fa, .ref ve, .ref lk, .ref jo, .ref ba, .ref ro, .int (nI nc), .int (nI ((asF xx kd cs nc rc fal fro).2.2.2))])), (ro, .inl (cA, 60, .inl (aN ((asF xx kd cs nc rc fal fro).2.2.1)))), (ra, .inr (3, [.ref al, .ref be])), (al, .inl (cA, 8, .inl (aN ((asF xx kd cs nc rc fal fro).2.1)))), (be, .inl (cA, 448, .inl (aN fbe)))] := by rw [eF]
    rw [eW] at hP hD
    exact W.iret (v := (-1)) hx hb hr (fun t ht hW => ⟨⟨(-1), (), rfl, (by rw [eF]), by rw [ht]; exact hP, hD⟩, hS.F ht⟩) hS.2.2 dX3_addSetRow_9

set_option maxHeartbeats 4000000 in
set_option maxRecDepth 100000 in
theorem kX3_want (l : Launch) (D : va_G) (cA : ClassId) (sz : Nat) (lc : Nat) (ra : Nat) (sa : Nat) (fa : Nat) (ve : Nat) (lk : Nat) (jo : Nat) (ba : Nat) (ro : Nat) (al : Nat) (be : Nat) (nc : Nat) (rc : Nat) (fro : Nat → Nat) (fal : Nat → Nat) (fbe : Nat → Nat) (xx : Int32) (dd : Int64) (hnc : nc ≤ 8) (hrc : rc < 2147483648) : zMi l yX3_want wsX3_want ({ frames := 2, cells := 0, slots := 0, locals := 48 }) D cA [.ref lc, .int xx, .long dd] sz [(lc, .inr (5, [.ref ra, .ref sa, .ref fa, .ref ve, .ref lk, .ref jo, .ref ba, .ref ro, .int (nI nc), .int (nI rc)])), (ro, .inl (cA, 60, .inl (aN fro))), (ra, .inr (3, [.ref al, .ref be])), (al, .inl (cA, 8, .inl (aN fal))), (be, .inl (cA, 448, .inl (aN fbe)))] [(lc, .inr (5, [.ref ra, .ref sa, .ref fa, .ref ve, .ref lk, .ref jo, .ref ba, .ref ro, .int (nI nc), .int (nI ((asF xx 1 (2 * lo6 dd) nc rc fal fro).2.2.2))])), (ro, .inl (cA, 60, .inl (aN ((asF xx 1 (2 * lo6 dd) nc rc fal fro).2.2.1)))), (ra, .inr (3, [.ref al, .ref be])), (al, .inl (cA, 8, .inl (aN ((asF xx 1 (2 * lo6 dd) nc rc fal fro).2.1)))), (be, .inl (cA, 448, .inl (aN fbe)))] ((asF xx 1 (2 * lo6 dd) nc rc fal fro).1) := by
  refine Met.ofW (cc := cX3_want) (maxL := 4) (ret := (some .int)) (by decide) rfl ?_
  intro p e s m args below meth c s₁ B hml hv
  obtain ⟨rfl, hsz, hP, hK, hD0⟩ := hv
  have hx := B.exec
  have hb := B.bytes
  have hr := B.returns
  have hts := atoms_spec (ws := wsX3_want) B.pre
  have hown : s.vm.findClass RX3 = some m.cls := findClass_of_methodNamed B.named
  have hlocks := B.notSynchronized
  subst hsz
  have hD := hD0.self (sz := s.heap.size)
  generalize hAe : va_A [(lc, .inr (5, [.ref ra, .ref sa, .ref fa, .ref ve, .ref lk, .ref jo, .ref ba, .ref ro, .int (nI nc), .int (nI rc)])), (ro, .inl (cA, 60, .inl (aN fro))), (ra, .inr (3, [.ref al, .ref be])), (al, .inl (cA, 8, .inl (aN fal))), (be, .inl (cA, 448, .inl (aN fbe)))] s.heap.size = A at hD ⊢
  have hA : ∀ q : Nat, s.heap.size ≤ q → A q := fun q h => by rw [← hAe]; exact Or.inr h
  have hS : va_S A s.heap s.heap [] := va_S.rf
  have hP : va_P D vwCl [(lc, .inr (5, [.ref ra, .ref sa, .ref fa, .ref ve, .ref lk, .ref jo, .ref ba, .ref ro, .int (nI nc), .int (nI rc)])), (ro, .inl (cA, 60, .inl (aN fro))), (ra, .inr (3, [.ref al, .ref be])), (al, .inl (cA, 8, .inl (aN fal))), (be, .inl (cA, 448, .inl (aN fbe)))] s.heap := hP
  have hl := lv_entry ([.ref lc, .int xx, .long dd]) (n := 4) (Nat.le_of_ble_eq_true rfl)
  rw [lg_entry_eq]
  generalize (lg_sl ([.ref lc, .int xx, .long dd]) ++ List.replicate (4 - (lg_sl ([.ref lc, .int xx, .long dd])).length) Slot.unset).toArray = ls at hl ⊢
  have hl : lv_has ls 4 [(0, .ref lc), (1, .int xx), (2, .long dd)] := hl
  refine lv_aload_n hx hb dX3_want_0 rfl (lv_at hl 0 rfl) ?_
  refine lv_iconst (v := nI 1) hx hb dX3_want_1 (by decide) ?_
  refine lv_iload_n hx hb dX3_want_2 rfl (lv_at hl 1 rfl) ?_
  refine lv_lload_n hx hb dX3_want_3 rfl (lv_at hl 2 rfl) ?_
  refine zz_callI (av := []) (wc := []) (wr := [(lc, .inr (5, [.ref ra, .ref sa, .ref fa, .ref ve, .ref lk, .ref jo, .ref ba, .ref ro, .int (nI nc), .int (nI rc)])), (ro, .inl (cA, 60, .inl (aN fro))), (ra, .inr (3, [.ref al, .ref be])), (al, .inl (cA, 8, .inl (aN fal))), (be, .inl (cA, 448, .inl (aN fbe)))]) hS hA hP hD [] [0, 1, 2, 3, 4] rfl rfl (by decide) (by decide) (va_runS (As := [.long dd]) (rest := [.int xx, .int (nI 1), .ref lc]) ⟨hx, hb, hml, hown, hts⟩ (kX3_codesOf l D cA s.heap.size dd ) (va_cwS 1 hts gX3_want_X3_codesOf rfl rfl rfl (by decide +kernel) ⟨Nat.le_of_ble_eq_true rfl, Nat.le_of_ble_eq_true rfl⟩) (zPreS (av := [.long dd]) (wc := []) hK hP hD [] rfl (by decide) rfl) rfl rfl hl.1 rfl (lv_room (Nat.le_of_ble_eq_true rfl)) dX3_want_4 ⟨Nat.zero_le _, Nat.zero_le _⟩) (fun H locs hP hD hS => ?_)
  have hP : va_P D vwCl [(lc, .inr (5, [.ref ra, .ref sa, .ref fa, .ref ve, .ref lk, .ref jo, .ref ba, .ref ro, .int (nI nc), .int (nI rc)])), (ro, .inl (cA, 60, .inl (aN fro))), (ra, .inr (3, [.ref al, .ref be])), (al, .inl (cA, 8, .inl (aN fal))), (be, .inl (cA, 448, .inl (aN fbe)))] H := hP
  have hD : va_D A [(lc, .inr (5, [.ref ra, .ref sa, .ref fa, .ref ve, .ref lk, .ref jo, .ref ba, .ref ro, .int (nI nc), .int (nI rc)])), (ro, .inl (cA, 60, .inl (aN fro))), (ra, .inr (3, [.ref al, .ref be])), (al, .inl (cA, 8, .inl (aN fal))), (be, .inl (cA, 448, .inl (aN fbe)))] := hD
  refine zz_callI (av := []) (wc := [(lc, .inr (5, [.ref ra, .ref sa, .ref fa, .ref ve, .ref lk, .ref jo, .ref ba, .ref ro, .int (nI nc), .int (nI rc)])), (ro, .inl (cA, 60, .inl (aN fro))), (ra, .inr (3, [.ref al, .ref be])), (al, .inl (cA, 8, .inl (aN fal))), (be, .inl (cA, 448, .inl (aN fbe)))]) (wr := []) hS hA hP hD [0, 1, 2, 3, 4] [] rfl rfl (by decide) (by decide) (va_runV (As := [.int (nI 1), .int xx, .int (nI (2 * lo6 dd))]) (rest := []) ⟨hx, hb, hml, hown, hts⟩ (kX3_addSetRow l D cA H.size lc ra sa fa ve lk jo ba ro al be nc rc fro fal fbe 1 xx (2 * lo6 dd) (by omega) (by omega)) (cwV 3 hts gX3_want_X3_addSetRow rfl rfl rfl (by decide +kernel) ⟨Nat.le_of_ble_eq_true rfl, Nat.le_of_ble_eq_true rfl⟩) ⟨(zPreS (av := [.ref lc, .int (nI 1), .int xx, .int (nI (2 * lo6 dd))]) (wc := [(lc, .inr (5, [.ref ra, .ref sa, .ref fa, .ref ve, .ref lk, .ref jo, .ref ba, .ref ro, .int (nI nc), .int (nI rc)])), (ro, .inl (cA, 60, .inl (aN fro))), (ra, .inr (3, [.ref al, .ref be])), (al, .inl (cA, 8, .inl (aN fal))), (be, .inl (cA, 448, .inl (aN fbe)))]) hK hP hD [0, 1, 2, 3, 4] rfl (by decide) rfl).1, (va_recv hK.1 hP (ci := 5) (q0 := 0) rfl rfl), (zPreS (av := [.ref lc, .int (nI 1), .int xx, .int (nI (2 * lo6 dd))]) (wc := [(lc, .inr (5, [.ref ra, .ref sa, .ref fa, .ref ve, .ref lk, .ref jo, .ref ba, .ref ro, .int (nI nc), .int (nI rc)])), (ro, .inl (cA, 60, .inl (aN fro))), (ra, .inr (3, [.ref al, .ref be])), (al, .inl (cA, 8, .inl (aN fal))), (be, .inl (cA, 448, .inl (aN fbe)))]) hK hP hD [0, 1, 2, 3, 4] rfl (by decide) rfl).2⟩ rfl rfl hl.1 rfl (lv_room (Nat.le_of_ble_eq_true rfl)) dX3_want_7 ⟨Nat.zero_le _, Nat.zero_le _⟩) (fun H locs hP hD hS => ?_)
  have hP : va_P D vwCl [(lc, .inr (5, [.ref ra, .ref sa, .ref fa, .ref ve, .ref lk, .ref jo, .ref ba, .ref ro, .int (nI nc), .int (nI ((asF xx 1 (2 * lo6 dd) nc rc fal fro).2.2.2))])), (ro, .inl (cA, 60, .inl (aN ((asF xx 1 (2 * lo6 dd) nc rc fal fro).2.2.1)))), (ra, .inr (3, [.ref al, .ref be])), (al, .inl (cA, 8, .inl (aN ((asF xx 1 (2 * lo6 dd) nc rc fal fro).2.1)))), (be, .inl (cA, 448, .inl (aN fbe)))] H := hP
  have hD : va_D A [(lc, .inr (5, [.ref ra, .ref sa, .ref fa, .ref ve, .ref lk, .ref jo, .ref ba, .ref ro, .int (nI nc), .int (nI ((asF xx 1 (2 * lo6 dd) nc rc fal fro).2.2.2))])), (ro, .inl (cA, 60, .inl (aN ((asF xx 1 (2 * lo6 dd) nc rc fal fro).2.2.1)))), (ra, .inr (3, [.ref al, .ref be])), (al, .inl (cA, 8, .inl (aN ((asF xx 1 (2 * lo6 dd) nc rc fal fro).2.1)))), (be, .inl (cA, 448, .inl (aN fbe)))] := hD
  exact W.iret (v := ((asF xx 1 (2 * lo6 dd) nc rc fal fro).1)) hx hb hr (fun t ht hW => ⟨⟨((asF xx 1 (2 * lo6 dd) nc rc fal fro).1), (), rfl, rfl, by rw [ht]; exact hP, hD⟩, hS.F ht⟩) hS.2.2 dX3_want_10

set_option maxHeartbeats 4000000 in
set_option maxRecDepth 100000 in
theorem kX3_force (l : Launch) (D : va_G) (cA : ClassId) (sz : Nat) (lc : Nat) (ra : Nat) (sa : Nat) (fa : Nat) (ve : Nat) (lk : Nat) (jo : Nat) (ba : Nat) (ro : Nat) (al : Nat) (be : Nat) (nc : Nat) (rc : Nat) (fro : Nat → Nat) (fal : Nat → Nat) (fbe : Nat → Nat) (xx : Int32) (dd : Int64) (hnc : nc ≤ 8) (hrc : rc < 2147483648) : zMi l yX3_force wsX3_force ({ frames := 2, cells := 0, slots := 0, locals := 48 }) D cA [.ref lc, .int xx, .long dd] sz [(lc, .inr (5, [.ref ra, .ref sa, .ref fa, .ref ve, .ref lk, .ref jo, .ref ba, .ref ro, .int (nI nc), .int (nI rc)])), (ro, .inl (cA, 60, .inl (aN fro))), (ra, .inr (3, [.ref al, .ref be])), (al, .inl (cA, 8, .inl (aN fal))), (be, .inl (cA, 448, .inl (aN fbe)))] [(lc, .inr (5, [.ref ra, .ref sa, .ref fa, .ref ve, .ref lk, .ref jo, .ref ba, .ref ro, .int (nI nc), .int (nI ((asF xx 2 ((2 * lo6 dd) ||| 1) nc rc fal fro).2.2.2))])), (ro, .inl (cA, 60, .inl (aN ((asF xx 2 ((2 * lo6 dd) ||| 1) nc rc fal fro).2.2.1)))), (ra, .inr (3, [.ref al, .ref be])), (al, .inl (cA, 8, .inl (aN ((asF xx 2 ((2 * lo6 dd) ||| 1) nc rc fal fro).2.1)))), (be, .inl (cA, 448, .inl (aN fbe)))] ((asF xx 2 ((2 * lo6 dd) ||| 1) nc rc fal fro).1) := by
  refine Met.ofW (cc := cX3_force) (maxL := 4) (ret := (some .int)) (by decide) rfl ?_
  intro p e s m args below meth c s₁ B hml hv
  obtain ⟨rfl, hsz, hP, hK, hD0⟩ := hv
  have hx := B.exec
  have hb := B.bytes
  have hr := B.returns
  have hts := atoms_spec (ws := wsX3_force) B.pre
  have hown : s.vm.findClass RX3 = some m.cls := findClass_of_methodNamed B.named
  have hlocks := B.notSynchronized
  subst hsz
  have hD := hD0.self (sz := s.heap.size)
  generalize hAe : va_A [(lc, .inr (5, [.ref ra, .ref sa, .ref fa, .ref ve, .ref lk, .ref jo, .ref ba, .ref ro, .int (nI nc), .int (nI rc)])), (ro, .inl (cA, 60, .inl (aN fro))), (ra, .inr (3, [.ref al, .ref be])), (al, .inl (cA, 8, .inl (aN fal))), (be, .inl (cA, 448, .inl (aN fbe)))] s.heap.size = A at hD ⊢
  have hA : ∀ q : Nat, s.heap.size ≤ q → A q := fun q h => by rw [← hAe]; exact Or.inr h
  have hS : va_S A s.heap s.heap [] := va_S.rf
  have hP : va_P D vwCl [(lc, .inr (5, [.ref ra, .ref sa, .ref fa, .ref ve, .ref lk, .ref jo, .ref ba, .ref ro, .int (nI nc), .int (nI rc)])), (ro, .inl (cA, 60, .inl (aN fro))), (ra, .inr (3, [.ref al, .ref be])), (al, .inl (cA, 8, .inl (aN fal))), (be, .inl (cA, 448, .inl (aN fbe)))] s.heap := hP
  have hl := lv_entry ([.ref lc, .int xx, .long dd]) (n := 4) (Nat.le_of_ble_eq_true rfl)
  rw [lg_entry_eq]
  generalize (lg_sl ([.ref lc, .int xx, .long dd]) ++ List.replicate (4 - (lg_sl ([.ref lc, .int xx, .long dd])).length) Slot.unset).toArray = ls at hl ⊢
  have hl : lv_has ls 4 [(0, .ref lc), (1, .int xx), (2, .long dd)] := hl
  refine lv_aload_n hx hb dX3_force_0 rfl (lv_at hl 0 rfl) ?_
  refine lv_iconst (v := nI 2) hx hb dX3_force_1 (by decide) ?_
  refine lv_iload_n hx hb dX3_force_2 rfl (lv_at hl 1 rfl) ?_
  refine lv_lload_n hx hb dX3_force_3 rfl (lv_at hl 2 rfl) ?_
  refine zz_callI (av := []) (wc := []) (wr := [(lc, .inr (5, [.ref ra, .ref sa, .ref fa, .ref ve, .ref lk, .ref jo, .ref ba, .ref ro, .int (nI nc), .int (nI rc)])), (ro, .inl (cA, 60, .inl (aN fro))), (ra, .inr (3, [.ref al, .ref be])), (al, .inl (cA, 8, .inl (aN fal))), (be, .inl (cA, 448, .inl (aN fbe)))]) hS hA hP hD [] [0, 1, 2, 3, 4] rfl rfl (by decide) (by decide) (va_runS (As := [.long dd]) (rest := [.int xx, .int (nI 2), .ref lc]) ⟨hx, hb, hml, hown, hts⟩ (kX3_codesOf l D cA s.heap.size dd ) (va_cwS 1 hts gX3_force_X3_codesOf rfl rfl rfl (by decide +kernel) ⟨Nat.le_of_ble_eq_true rfl, Nat.le_of_ble_eq_true rfl⟩) (zPreS (av := [.long dd]) (wc := []) hK hP hD [] rfl (by decide) rfl) rfl rfl hl.1 rfl (lv_room (Nat.le_of_ble_eq_true rfl)) dX3_force_4 ⟨Nat.zero_le _, Nat.zero_le _⟩) (fun H locs hP hD hS => ?_)
  have hP : va_P D vwCl [(lc, .inr (5, [.ref ra, .ref sa, .ref fa, .ref ve, .ref lk, .ref jo, .ref ba, .ref ro, .int (nI nc), .int (nI rc)])), (ro, .inl (cA, 60, .inl (aN fro))), (ra, .inr (3, [.ref al, .ref be])), (al, .inl (cA, 8, .inl (aN fal))), (be, .inl (cA, 448, .inl (aN fbe)))] H := hP
  have hD : va_D A [(lc, .inr (5, [.ref ra, .ref sa, .ref fa, .ref ve, .ref lk, .ref jo, .ref ba, .ref ro, .int (nI nc), .int (nI rc)])), (ro, .inl (cA, 60, .inl (aN fro))), (ra, .inr (3, [.ref al, .ref be])), (al, .inl (cA, 8, .inl (aN fal))), (be, .inl (cA, 448, .inl (aN fbe)))] := hD
  refine lv_iconst (v := nI 1) hx hb dX3_force_7 (by decide) ?_
  refine nn_ior hx hb dX3_force_8 ?_
  refine zz_callI (av := []) (wc := [(lc, .inr (5, [.ref ra, .ref sa, .ref fa, .ref ve, .ref lk, .ref jo, .ref ba, .ref ro, .int (nI nc), .int (nI rc)])), (ro, .inl (cA, 60, .inl (aN fro))), (ra, .inr (3, [.ref al, .ref be])), (al, .inl (cA, 8, .inl (aN fal))), (be, .inl (cA, 448, .inl (aN fbe)))]) (wr := []) hS hA hP hD [0, 1, 2, 3, 4] [] rfl rfl (by decide) (by decide) (va_runV (As := [.int (nI 2), .int xx, .int (nI ((2 * lo6 dd) ||| 1))]) (rest := []) ⟨hx, hb, hml, hown, hts⟩ (kX3_addSetRow l D cA H.size lc ra sa fa ve lk jo ba ro al be nc rc fro fal fbe 2 xx ((2 * lo6 dd) ||| 1) (by omega) (by omega)) (cwV 3 hts gX3_force_X3_addSetRow rfl rfl rfl (by decide +kernel) ⟨Nat.le_of_ble_eq_true rfl, Nat.le_of_ble_eq_true rfl⟩) ⟨(zPreS (av := [.ref lc, .int (nI 2), .int xx, .int (nI ((2 * lo6 dd) ||| 1))]) (wc := [(lc, .inr (5, [.ref ra, .ref sa, .ref fa, .ref ve, .ref lk, .ref jo, .ref ba, .ref ro, .int (nI nc), .int (nI rc)])), (ro, .inl (cA, 60, .inl (aN fro))), (ra, .inr (3, [.ref al, .ref be])), (al, .inl (cA, 8, .inl (aN fal))), (be, .inl (cA, 448, .inl (aN fbe)))]) hK hP hD [0, 1, 2, 3, 4] rfl (by decide) rfl).1, (va_recv hK.1 hP (ci := 5) (q0 := 0) rfl rfl), (zPreS (av := [.ref lc, .int (nI 2), .int xx, .int (nI ((2 * lo6 dd) ||| 1))]) (wc := [(lc, .inr (5, [.ref ra, .ref sa, .ref fa, .ref ve, .ref lk, .ref jo, .ref ba, .ref ro, .int (nI nc), .int (nI rc)])), (ro, .inl (cA, 60, .inl (aN fro))), (ra, .inr (3, [.ref al, .ref be])), (al, .inl (cA, 8, .inl (aN fal))), (be, .inl (cA, 448, .inl (aN fbe)))]) hK hP hD [0, 1, 2, 3, 4] rfl (by decide) rfl).2⟩ rfl rfl hl.1 rfl (lv_room (Nat.le_of_ble_eq_true rfl)) dX3_force_9 ⟨Nat.zero_le _, Nat.zero_le _⟩) (fun H locs hP hD hS => ?_)
  have hP : va_P D vwCl [(lc, .inr (5, [.ref ra, .ref sa, .ref fa, .ref ve, .ref lk, .ref jo, .ref ba, .ref ro, .int (nI nc), .int (nI ((asF xx 2 ((2 * lo6 dd) ||| 1) nc rc fal fro).2.2.2))])), (ro, .inl (cA, 60, .inl (aN ((asF xx 2 ((2 * lo6 dd) ||| 1) nc rc fal fro).2.2.1)))), (ra, .inr (3, [.ref al, .ref be])), (al, .inl (cA, 8, .inl (aN ((asF xx 2 ((2 * lo6 dd) ||| 1) nc rc fal fro).2.1)))), (be, .inl (cA, 448, .inl (aN fbe)))] H := hP
  have hD : va_D A [(lc, .inr (5, [.ref ra, .ref sa, .ref fa, .ref ve, .ref lk, .ref jo, .ref ba, .ref ro, .int (nI nc), .int (nI ((asF xx 2 ((2 * lo6 dd) ||| 1) nc rc fal fro).2.2.2))])), (ro, .inl (cA, 60, .inl (aN ((asF xx 2 ((2 * lo6 dd) ||| 1) nc rc fal fro).2.2.1)))), (ra, .inr (3, [.ref al, .ref be])), (al, .inl (cA, 8, .inl (aN ((asF xx 2 ((2 * lo6 dd) ||| 1) nc rc fal fro).2.1)))), (be, .inl (cA, 448, .inl (aN fbe)))] := hD
  exact W.iret (v := ((asF xx 2 ((2 * lo6 dd) ||| 1) nc rc fal fro).1)) hx hb hr (fun t ht hW => ⟨⟨((asF xx 2 ((2 * lo6 dd) ||| 1) nc rc fal fro).1), (), rfl, rfl, by rw [ht]; exact hP, hD⟩, hS.F ht⟩) hS.2.2 dX3_force_12


abbrev okV (p0 p1 : Int32) : Prop := (¬ p0 < nI 1 ∧ ¬ nI 6 < p0) ∧ (¬ p1 < -1 ∧ p1 ≤ nI 9)
def nameF (p0 p1 : Int32) (nc : Nat) (fve flk fal : Nat → Nat) : Int32 × (Nat → Nat) × (Nat → Nat) × (Nat → Nat) × Nat :=
  if okV p0 p1 then (if nc < 8 then (nI nc, va_up fve nc (toN p0), va_up flk nc (toC p1), va_up fal nc ((2 <<< toN p0) - 1), nc + 1) else (-4, fve, flk, fal, nc)) else (-2, fve, flk, fal, nc)

theorem lkX3_name_12 : Cond.fieldLink RX3 12 "LeastChange" "rules" "LLeastChange$Rules;" ∈ wsX3_name := by decide +kernel
theorem lkX3_name_32 : Cond.fieldLink RX3 32 "LeastChange" "versions" "[I" ∈ wsX3_name := by decide +kernel
theorem lkX3_name_36 : Cond.fieldLink RX3 36 "LeastChange" "locked" "[I" ∈ wsX3_name := by decide +kernel
theorem lkX3_name_48 : Cond.fieldLink RX3 48 "LeastChange" "nameCount" "I" ∈ wsX3_name := by decide +kernel
theorem inX3_name_X3 : ∀ w ∈ wsX30, w ∈ wsX3_name := by decide +kernel
theorem iniX3_name_X1 : Cond.initialized RX1 ∈ wsX3_name := by decide +kernel
theorem imX3_name_X1_open : Cond.instanceMethod yX1_open ∈ wsX3_name := by decide +kernel
theorem seX3_name_X1_open : Cond.selects RX1 yX1_open yX1_open ∈ wsX3_name := by decide +kernel
set_option maxHeartbeats 4000000 in
set_option maxRecDepth 100000 in
theorem kX3_name (l : Launch) (D : va_G) (cA : ClassId) (sz : Nat) (lc : Nat) (ra : Nat) (sa : Nat) (fa : Nat) (ve : Nat) (lk : Nat) (jo : Nat) (ba : Nat) (ro : Nat) (al : Nat) (be : Nat) (nc : Nat) (rc : Nat) (fve : Nat → Nat) (flk : Nat → Nat) (fal : Nat → Nat) (fbe : Nat → Nat) (p0 : Int32) (p1 : Int32) (hnc : nc ≤ 8) : zMi l yX3_name wsX3_name ({ frames := 1, cells := 0, slots := 0, locals := 22 }) D cA [.ref lc, .int p0, .int p1] sz [(lc, .inr (5, [.ref ra, .ref sa, .ref fa, .ref ve, .ref lk, .ref jo, .ref ba, .ref ro, .int (nI nc), .int (nI rc)])), (ve, .inl (cA, 8, .inl (aN fve))), (lk, .inl (cA, 8, .inl (aN flk))), (ra, .inr (3, [.ref al, .ref be])), (al, .inl (cA, 8, .inl (aN fal))), (be, .inl (cA, 448, .inl (aN fbe)))] [(lc, .inr (5, [.ref ra, .ref sa, .ref fa, .ref ve, .ref lk, .ref jo, .ref ba, .ref ro, .int (nI ((nameF p0 p1 nc fve flk fal).2.2.2.2)), .int (nI rc)])), (ve, .inl (cA, 8, .inl (aN ((nameF p0 p1 nc fve flk fal).2.1)))), (lk, .inl (cA, 8, .inl (aN ((nameF p0 p1 nc fve flk fal).2.2.1)))), (ra, .inr (3, [.ref al, .ref be])), (al, .inl (cA, 8, .inl (aN ((nameF p0 p1 nc fve flk fal).2.2.2.1)))), (be, .inl (cA, 448, .inl (aN fbe)))] ((nameF p0 p1 nc fve flk fal).1) := by
  refine Met.ofW (cc := cX3_name) (maxL := 4) (ret := (some .int)) (by decide) rfl ?_
  intro p e s m args below meth c s₁ B hml hv
  obtain ⟨rfl, hsz, hP, hK, hD0⟩ := hv
  have hx := B.exec
  have hb := B.bytes
  have hr := B.returns
  have hts := atoms_spec (ws := wsX3_name) B.pre
  have hown : s.vm.findClass RX3 = some m.cls := findClass_of_methodNamed B.named
  have hlocks := B.notSynchronized
  subst hsz
  have hD := hD0.self (sz := s.heap.size)
  generalize hAe : va_A [(lc, .inr (5, [.ref ra, .ref sa, .ref fa, .ref ve, .ref lk, .ref jo, .ref ba, .ref ro, .int (nI nc), .int (nI rc)])), (ve, .inl (cA, 8, .inl (aN fve))), (lk, .inl (cA, 8, .inl (aN flk))), (ra, .inr (3, [.ref al, .ref be])), (al, .inl (cA, 8, .inl (aN fal))), (be, .inl (cA, 448, .inl (aN fbe)))] s.heap.size = A at hD ⊢
  have hA : ∀ q : Nat, s.heap.size ≤ q → A q := fun q h => by rw [← hAe]; exact Or.inr h
  have hS : va_S A s.heap s.heap [] := va_S.rf
  have hP : va_P D vwCl [(lc, .inr (5, [.ref ra, .ref sa, .ref fa, .ref ve, .ref lk, .ref jo, .ref ba, .ref ro, .int (nI nc), .int (nI rc)])), (ve, .inl (cA, 8, .inl (aN fve))), (lk, .inl (cA, 8, .inl (aN flk))), (ra, .inr (3, [.ref al, .ref be])), (al, .inl (cA, 8, .inl (aN fal))), (be, .inl (cA, 448, .inl (aN fbe)))] s.heap := hP
  have hl := lv_entry ([.ref lc, .int p0, .int p1]) (n := 4) (Nat.le_of_ble_eq_true rfl)
  rw [lg_entry_eq]
  generalize (lg_sl ([.ref lc, .int p0, .int p1]) ++ List.replicate (4 - (lg_sl ([.ref lc, .int p0, .int p1])).length) Slot.unset).toArray = ls at hl ⊢
  have hl : lv_has ls 4 [(0, .ref lc), (1, .int p0), (2, .int p1)] := hl
  refine lv_iload_n hx hb dX3_name_0 rfl (lv_at hl 1 rfl) ?_
  refine lv_iconst (v := nI 1) hx hb dX3_name_1 (by decide) ?_
  refine lv_icmp_lt (tgt := 22) hx hb dX3_name_2 (by decide) (fun c_2 => ?_) (fun c_2 => ?_)
  · have ck : ¬ okV p0 p1 := fun q => q.1.1 c_2
    refine lv_bipush (v := -2) hx hb dX3_name_22 (by decide) ?_
    have eF : (nameF p0 p1 nc fve flk fal) = ((-2), fve, flk, fal, nc) := by unfold nameF; (repeat' (first | rfl | contradiction | split))
    have eW : ([(lc, .inr (5, [.ref ra, .ref sa, .ref fa, .ref ve, .ref lk, .ref jo, .ref ba, .ref ro, .int (nI nc), .int (nI rc)])), (ve, .inl (cA, 8, .inl (aN fve))), (lk, .inl (cA, 8, .inl (aN flk))), (ra, .inr (3, [.ref al, .ref be])), (al, .inl (cA, 8, .inl (aN fal))), (be, .inl (cA, 448, .inl (aN fbe)))] : va_W) = [(lc, .inr (5, [.ref ra, .ref sa, .ref fa, .ref ve, .ref lk, .ref jo, .ref ba, .ref ro, .int (nI ((nameF p0 p1 nc fve flk fal).2.2.2.2)), .int (nI rc)])), (ve, .inl (cA, 8, .inl (aN ((nameF p0 p1 nc fve flk fal).2.1)))), (lk, .inl (cA, 8, .inl (aN ((nameF p0 p1 nc fve flk fal).2.2.1)))), (ra, .inr (3, [.ref al, .ref be])), (al, .inl (cA, 8, .inl (aN ((nameF p0 p1 nc fve flk fal).2.2.2.1)))), (be, .inl (cA, 448, .inl (aN fbe)))] := by rw [eF]
    rw [eW] at hP hD
    exact W.iret (v := (-2)) hx hb hr (fun t ht hW => ⟨⟨(-2), (), rfl, (by rw [eF]), by rw [ht]; exact hP, hD⟩, hS.F ht⟩) hS.2.2 dX3_name_24
  · refine lv_iload_n hx hb dX3_name_5 rfl (lv_at hl 1 rfl) ?_
    refine lv_bipush (v := nI 6) hx hb dX3_name_6 (by decide) ?_
    refine lv_icmp_gt (tgt := 22) hx hb dX3_name_8 (by decide) (fun c_8 => ?_) (fun c_8 => ?_)
    · have ck : ¬ okV p0 p1 := fun q => q.1.2 c_8
      refine lv_bipush (v := -2) hx hb dX3_name_22 (by decide) ?_
      have eF : (nameF p0 p1 nc fve flk fal) = ((-2), fve, flk, fal, nc) := by unfold nameF; (repeat' (first | rfl | contradiction | split))
      have eW : ([(lc, .inr (5, [.ref ra, .ref sa, .ref fa, .ref ve, .ref lk, .ref jo, .ref ba, .ref ro, .int (nI nc), .int (nI rc)])), (ve, .inl (cA, 8, .inl (aN fve))), (lk, .inl (cA, 8, .inl (aN flk))), (ra, .inr (3, [.ref al, .ref be])), (al, .inl (cA, 8, .inl (aN fal))), (be, .inl (cA, 448, .inl (aN fbe)))] : va_W) = [(lc, .inr (5, [.ref ra, .ref sa, .ref fa, .ref ve, .ref lk, .ref jo, .ref ba, .ref ro, .int (nI ((nameF p0 p1 nc fve flk fal).2.2.2.2)), .int (nI rc)])), (ve, .inl (cA, 8, .inl (aN ((nameF p0 p1 nc fve flk fal).2.1)))), (lk, .inl (cA, 8, .inl (aN ((nameF p0 p1 nc fve flk fal).2.2.1)))), (ra, .inr (3, [.ref al, .ref be])), (al, .inl (cA, 8, .inl (aN ((nameF p0 p1 nc fve flk fal).2.2.2.1)))), (be, .inl (cA, 448, .inl (aN fbe)))] := by rw [eF]
      rw [eW] at hP hD
      exact W.iret (v := (-2)) hx hb hr (fun t ht hW => ⟨⟨(-2), (), rfl, (by rw [eF]), by rw [ht]; exact hP, hD⟩, hS.F ht⟩) hS.2.2 dX3_name_24
    · refine lv_iload_n hx hb dX3_name_11 rfl (lv_at hl 2 rfl) ?_
      refine lv_iconst (v := -1) hx hb dX3_name_12 (by decide) ?_
      refine lv_icmp_lt (tgt := 22) hx hb dX3_name_13 (by decide) (fun c_13 => ?_) (fun c_13 => ?_)
      · have ck : ¬ okV p0 p1 := fun q => q.2.1 c_13
        refine lv_bipush (v := -2) hx hb dX3_name_22 (by decide) ?_
        have eF : (nameF p0 p1 nc fve flk fal) = ((-2), fve, flk, fal, nc) := by unfold nameF; (repeat' (first | rfl | contradiction | split))
        have eW : ([(lc, .inr (5, [.ref ra, .ref sa, .ref fa, .ref ve, .ref lk, .ref jo, .ref ba, .ref ro, .int (nI nc), .int (nI rc)])), (ve, .inl (cA, 8, .inl (aN fve))), (lk, .inl (cA, 8, .inl (aN flk))), (ra, .inr (3, [.ref al, .ref be])), (al, .inl (cA, 8, .inl (aN fal))), (be, .inl (cA, 448, .inl (aN fbe)))] : va_W) = [(lc, .inr (5, [.ref ra, .ref sa, .ref fa, .ref ve, .ref lk, .ref jo, .ref ba, .ref ro, .int (nI ((nameF p0 p1 nc fve flk fal).2.2.2.2)), .int (nI rc)])), (ve, .inl (cA, 8, .inl (aN ((nameF p0 p1 nc fve flk fal).2.1)))), (lk, .inl (cA, 8, .inl (aN ((nameF p0 p1 nc fve flk fal).2.2.1)))), (ra, .inr (3, [.ref al, .ref be])), (al, .inl (cA, 8, .inl (aN ((nameF p0 p1 nc fve flk fal).2.2.2.1)))), (be, .inl (cA, 448, .inl (aN fbe)))] := by rw [eF]
        rw [eW] at hP hD
        exact W.iret (v := (-2)) hx hb hr (fun t ht hW => ⟨⟨(-2), (), rfl, (by rw [eF]), by rw [ht]; exact hP, hD⟩, hS.F ht⟩) hS.2.2 dX3_name_24
      · refine lv_iload_n hx hb dX3_name_16 rfl (lv_at hl 2 rfl) ?_
        refine lv_bipush (v := nI 9) hx hb dX3_name_17 (by decide) ?_
        refine lv_icmp_le (tgt := 25) hx hb dX3_name_19 (by decide) (fun c_19 => ?_) (fun c_19 => ?_)
        · have ck : okV p0 p1 := ⟨⟨c_2, c_8⟩, c_13, c_19⟩
          obtain ⟨e1, b1, b2⟩ := rng_eq c_2 c_8
          obtain ⟨e2, b3⟩ := toC_eq c_13 c_19
          have hl : lv_has ls 4 [(0, .ref lc), (1, .int (nI (toN p0))), (2, .int p1)] := by rw [← e1]; exact hl
          have hl : lv_has ls 4 [(0, .ref lc), (1, .int (nI (toN p0))), (2, .int (mI (toC p1)))] := by rw [← e2]; exact hl
          refine lv_aload_n hx hb dX3_name_25 rfl (lv_at hl 0 rfl) ?_
          refine va_get (D := D) (ci := 5) (v := .int (nI nc)) (C := RX3) (T := TX3) (N := 10) hx hb hts inX3_name_X3 hown hK.1 hP 0 rfl rfl 8 (by decide) (hts _ lkX3_name_48) (fun _ h9 => h9) rfl dX3_name_26 ?_
          refine lv_bipush (v := nI 8) hx hb dX3_name_29 (by decide) ?_
          refine nn_icmp_lt (tgt := 37) hx hb dX3_name_31 (by decide) (by omega) (by omega) (fun c_31 => ?_) (fun c_31 => ?_)
          · refine lv_aload_n hx hb dX3_name_37 rfl (lv_at hl 0 rfl) ?_
            refine va_get (D := D) (ci := 5) (v := .int (nI nc)) (C := RX3) (T := TX3) (N := 10) hx hb hts inX3_name_X3 hown hK.1 hP 0 rfl rfl 8 (by decide) (hts _ lkX3_name_48) (fun _ h9 => h9) rfl dX3_name_38 ?_
            refine lv_istore_n (lv' := [(3, .int (nI nc)), (0, .ref lc), (1, .int (nI (toN p0))), (2, .int (mI (toC p1)))]) hx hb dX3_name_41 rfl hl (by decide) rfl (fun ls hl => ?_)
            refine lv_aload_n hx hb dX3_name_42 rfl (lv_at hl 1 rfl) ?_
            refine va_get (D := D) (ci := 5) (v := .ref ve) (C := RX3) (T := TX3) (N := 10) hx hb hts inX3_name_X3 hown hK.1 hP 0 rfl rfl 3 (by decide) (hts _ lkX3_name_32) (fun _ h9 => h9) rfl dX3_name_43 ?_
            refine lv_iload_n hx hb dX3_name_46 rfl (lv_at hl 0 rfl) ?_
            refine lv_iload_n hx hb dX3_name_47 rfl (lv_at hl 2 rfl) ?_
            refine nn_ast hx hb hK hP hD hS 1 rfl (by omega) (by decide) dX3_name_48 (fun H locs hP hD hS => ?_)
            have hP : va_P D vwCl [(lc, .inr (5, [.ref ra, .ref sa, .ref fa, .ref ve, .ref lk, .ref jo, .ref ba, .ref ro, .int (nI nc), .int (nI rc)])), (ve, .inl (cA, 8, .inl (aN (va_up fve nc (toN p0))))), (lk, .inl (cA, 8, .inl (aN flk))), (ra, .inr (3, [.ref al, .ref be])), (al, .inl (cA, 8, .inl (aN fal))), (be, .inl (cA, 448, .inl (aN fbe)))] H := hP
            have hD : va_D A [(lc, .inr (5, [.ref ra, .ref sa, .ref fa, .ref ve, .ref lk, .ref jo, .ref ba, .ref ro, .int (nI nc), .int (nI rc)])), (ve, .inl (cA, 8, .inl (aN (va_up fve nc (toN p0))))), (lk, .inl (cA, 8, .inl (aN flk))), (ra, .inr (3, [.ref al, .ref be])), (al, .inl (cA, 8, .inl (aN fal))), (be, .inl (cA, 448, .inl (aN fbe)))] := hD
            refine lv_aload_n hx hb dX3_name_49 rfl (lv_at hl 1 rfl) ?_
            refine va_get (D := D) (ci := 5) (v := .ref lk) (C := RX3) (T := TX3) (N := 10) hx hb hts inX3_name_X3 hown hK.1 hP 0 rfl rfl 4 (by decide) (hts _ lkX3_name_36) (fun _ h9 => h9) rfl dX3_name_50 ?_
            refine lv_iload_n hx hb dX3_name_53 rfl (lv_at hl 0 rfl) ?_
            refine lv_iload_n hx hb dX3_name_54 rfl (lv_at hl 3 rfl) ?_
            refine zz_callI (av := []) (wc := []) (wr := [(lc, .inr (5, [.ref ra, .ref sa, .ref fa, .ref ve, .ref lk, .ref jo, .ref ba, .ref ro, .int (nI nc), .int (nI rc)])), (ve, .inl (cA, 8, .inl (aN (va_up fve nc (toN p0))))), (lk, .inl (cA, 8, .inl (aN flk))), (ra, .inr (3, [.ref al, .ref be])), (al, .inl (cA, 8, .inl (aN fal))), (be, .inl (cA, 448, .inl (aN fbe)))]) hS hA hP hD [] [0, 1, 2, 3, 4, 5] rfl rfl (by decide) (by decide) (va_runS (As := [.int (mI (toC p1))]) (rest := [.int (nI nc), .ref lk]) ⟨hx, hb, hml, hown, hts⟩ (kX3_codeOf l D cA H.size (mI (toC p1)) ) (va_cwS 1 hts gX3_name_X3_codeOf rfl rfl rfl (by decide +kernel) ⟨Nat.le_of_ble_eq_true rfl, Nat.le_of_ble_eq_true rfl⟩) (zPreS (av := [.int (mI (toC p1))]) (wc := []) hK hP hD [] rfl (by decide) rfl) rfl rfl hl.1 rfl (lv_room (Nat.le_of_ble_eq_true rfl)) dX3_name_55 ⟨Nat.zero_le _, Nat.zero_le _⟩) (fun H locs hP hD hS => ?_)
            have hP : va_P D vwCl [(lc, .inr (5, [.ref ra, .ref sa, .ref fa, .ref ve, .ref lk, .ref jo, .ref ba, .ref ro, .int (nI nc), .int (nI rc)])), (ve, .inl (cA, 8, .inl (aN (va_up fve nc (toN p0))))), (lk, .inl (cA, 8, .inl (aN flk))), (ra, .inr (3, [.ref al, .ref be])), (al, .inl (cA, 8, .inl (aN fal))), (be, .inl (cA, 448, .inl (aN fbe)))] H := hP
            have hD : va_D A [(lc, .inr (5, [.ref ra, .ref sa, .ref fa, .ref ve, .ref lk, .ref jo, .ref ba, .ref ro, .int (nI nc), .int (nI rc)])), (ve, .inl (cA, 8, .inl (aN (va_up fve nc (toN p0))))), (lk, .inl (cA, 8, .inl (aN flk))), (ra, .inr (3, [.ref al, .ref be])), (al, .inl (cA, 8, .inl (aN fal))), (be, .inl (cA, 448, .inl (aN fbe)))] := hD
            refine zz_top (y := (nI (toC p1))) (mI_add1 _) ?_
            refine nn_ast hx hb hK hP hD hS 2 rfl (by omega) (by decide) dX3_name_58 (fun H locs hP hD hS => ?_)
            have hP : va_P D vwCl [(lc, .inr (5, [.ref ra, .ref sa, .ref fa, .ref ve, .ref lk, .ref jo, .ref ba, .ref ro, .int (nI nc), .int (nI rc)])), (ve, .inl (cA, 8, .inl (aN (va_up fve nc (toN p0))))), (lk, .inl (cA, 8, .inl (aN (va_up flk nc (toC p1))))), (ra, .inr (3, [.ref al, .ref be])), (al, .inl (cA, 8, .inl (aN fal))), (be, .inl (cA, 448, .inl (aN fbe)))] H := hP
            have hD : va_D A [(lc, .inr (5, [.ref ra, .ref sa, .ref fa, .ref ve, .ref lk, .ref jo, .ref ba, .ref ro, .int (nI nc), .int (nI rc)])), (ve, .inl (cA, 8, .inl (aN (va_up fve nc (toN p0))))), (lk, .inl (cA, 8, .inl (aN (va_up flk nc (toC p1))))), (ra, .inr (3, [.ref al, .ref be])), (al, .inl (cA, 8, .inl (aN fal))), (be, .inl (cA, 448, .inl (aN fbe)))] := hD
            refine lv_aload_n hx hb dX3_name_59 rfl (lv_at hl 1 rfl) ?_
            refine va_get (D := D) (ci := 5) (v := .ref ra) (C := RX3) (T := TX3) (N := 10) hx hb hts inX3_name_X3 hown hK.1 hP 0 rfl rfl 0 (by decide) (hts _ lkX3_name_12) (fun _ h9 => h9) rfl dX3_name_60 ?_
            refine lv_iload_n hx hb dX3_name_63 rfl (lv_at hl 0 rfl) ?_
            refine lv_iload_n hx hb dX3_name_64 rfl (lv_at hl 2 rfl) ?_
            refine zz_callV (av := []) (wc := [(ra, .inr (3, [.ref al, .ref be])), (al, .inl (cA, 8, .inl (aN fal))), (be, .inl (cA, 448, .inl (aN fbe)))]) (wr := [(lc, .inr (5, [.ref ra, .ref sa, .ref fa, .ref ve, .ref lk, .ref jo, .ref ba, .ref ro, .int (nI nc), .int (nI rc)])), (ve, .inl (cA, 8, .inl (aN (va_up fve nc (toN p0))))), (lk, .inl (cA, 8, .inl (aN (va_up flk nc (toC p1)))))]) hS hA hP hD [3, 4, 5] [0, 1, 2] rfl rfl (by decide) (by decide) (va_runVN (As := [.int (nI nc), .int (nI (toN p0))]) (rest := []) ⟨hx, hb, hml, hown, hts⟩ (kX1_open l D cA H.size ra al be fal fbe nc (toN p0) (by omega) (by omega)) ⟨va_cnB 2 hts gX3_name_X1_open_n59 rfl rfl rfl (hK.2 _ nkX3_59) (hts _ iniX3_name_X1) (by decide +kernel) ⟨Nat.le_of_ble_eq_true rfl, Nat.le_of_ble_eq_true rfl⟩, hts _ imX3_name_X1_open, hts _ seX3_name_X1_open⟩ ⟨(zPreS (av := [.ref ra, .int (nI nc), .int (nI (toN p0))]) (wc := [(ra, .inr (3, [.ref al, .ref be])), (al, .inl (cA, 8, .inl (aN fal))), (be, .inl (cA, 448, .inl (aN fbe)))]) hK hP hD [3, 4, 5] rfl (by decide) rfl).1, (va_recv hK.1 hP (ci := 3) (q0 := 3) rfl rfl), (zPreS (av := [.ref ra, .int (nI nc), .int (nI (toN p0))]) (wc := [(ra, .inr (3, [.ref al, .ref be])), (al, .inl (cA, 8, .inl (aN fal))), (be, .inl (cA, 448, .inl (aN fbe)))]) hK hP hD [3, 4, 5] rfl (by decide) rfl).2⟩ rfl rfl hl.1 rfl (lv_room (Nat.le_of_ble_eq_true rfl)) dX3_name_65 ⟨Nat.zero_le _, Nat.zero_le _⟩) (fun H locs hP hD hS => ?_)
            have hP : va_P D vwCl [(lc, .inr (5, [.ref ra, .ref sa, .ref fa, .ref ve, .ref lk, .ref jo, .ref ba, .ref ro, .int (nI nc), .int (nI rc)])), (ve, .inl (cA, 8, .inl (aN (va_up fve nc (toN p0))))), (lk, .inl (cA, 8, .inl (aN (va_up flk nc (toC p1))))), (ra, .inr (3, [.ref al, .ref be])), (al, .inl (cA, 8, .inl (aN (va_up fal nc ((2 <<< (toN p0)) - 1))))), (be, .inl (cA, 448, .inl (aN fbe)))] H := hP
            have hD : va_D A [(lc, .inr (5, [.ref ra, .ref sa, .ref fa, .ref ve, .ref lk, .ref jo, .ref ba, .ref ro, .int (nI nc), .int (nI rc)])), (ve, .inl (cA, 8, .inl (aN (va_up fve nc (toN p0))))), (lk, .inl (cA, 8, .inl (aN (va_up flk nc (toC p1))))), (ra, .inr (3, [.ref al, .ref be])), (al, .inl (cA, 8, .inl (aN (va_up fal nc ((2 <<< (toN p0)) - 1))))), (be, .inl (cA, 448, .inl (aN fbe)))] := hD
            refine lv_aload_n hx hb dX3_name_68 rfl (lv_at hl 1 rfl) ?_
            refine lv_dup hx hb dX3_name_69 rfl ?_
            refine va_get (D := D) (ci := 5) (v := .int (nI nc)) (C := RX3) (T := TX3) (N := 10) hx hb hts inX3_name_X3 hown hK.1 hP 0 rfl rfl 8 (by decide) (hts _ lkX3_name_48) (fun _ h9 => h9) rfl dX3_name_70 ?_
            refine lv_iconst (v := nI 1) hx hb dX3_name_73 (by decide) ?_
            refine nn_iadd hx hb dX3_name_74 ?_
            refine va_put (D := D) (ci := 5) (v := .int (nI (nc + 1))) (ty := .int) (C := RX3) (T := TX3) (N := 10) hx hb hts inX3_name_X3 tyX3 tyX3_ok nmX3 hown hK.1 hP hD hS 0 rfl rfl 8 (by decide) (hts _ lkX3_name_48) (fun _ h9 => h9) rfl (by decide +kernel) rfl rfl (Nat.le_of_ble_eq_true rfl) dX3_name_75 (fun H locs hP hD hS => ?_)
            have hP : va_P D vwCl [(lc, .inr (5, [.ref ra, .ref sa, .ref fa, .ref ve, .ref lk, .ref jo, .ref ba, .ref ro, .int (nI (nc + 1)), .int (nI rc)])), (ve, .inl (cA, 8, .inl (aN (va_up fve nc (toN p0))))), (lk, .inl (cA, 8, .inl (aN (va_up flk nc (toC p1))))), (ra, .inr (3, [.ref al, .ref be])), (al, .inl (cA, 8, .inl (aN (va_up fal nc ((2 <<< (toN p0)) - 1))))), (be, .inl (cA, 448, .inl (aN fbe)))] H := hP
            have hD : va_D A [(lc, .inr (5, [.ref ra, .ref sa, .ref fa, .ref ve, .ref lk, .ref jo, .ref ba, .ref ro, .int (nI (nc + 1)), .int (nI rc)])), (ve, .inl (cA, 8, .inl (aN (va_up fve nc (toN p0))))), (lk, .inl (cA, 8, .inl (aN (va_up flk nc (toC p1))))), (ra, .inr (3, [.ref al, .ref be])), (al, .inl (cA, 8, .inl (aN (va_up fal nc ((2 <<< (toN p0)) - 1))))), (be, .inl (cA, 448, .inl (aN fbe)))] := hD
            refine lv_iload_n hx hb dX3_name_78 rfl (lv_at hl 0 rfl) ?_
            have eF : (nameF p0 p1 nc fve flk fal) = ((nI nc), va_up fve nc (toN p0), va_up flk nc (toC p1), va_up fal nc ((2 <<< (toN p0)) - 1), nc + 1) := by unfold nameF; (repeat' (first | rfl | contradiction | split))
            have eW : ([(lc, .inr (5, [.ref ra, .ref sa, .ref fa, .ref ve, .ref lk, .ref jo, .ref ba, .ref ro, .int (nI (nc + 1)), .int (nI rc)])), (ve, .inl (cA, 8, .inl (aN (va_up fve nc (toN p0))))), (lk, .inl (cA, 8, .inl (aN (va_up flk nc (toC p1))))), (ra, .inr (3, [.ref al, .ref be])), (al, .inl (cA, 8, .inl (aN (va_up fal nc ((2 <<< (toN p0)) - 1))))), (be, .inl (cA, 448, .inl (aN fbe)))] : va_W) = [(lc, .inr (5, [.ref ra, .ref sa, .ref fa, .ref ve, .ref lk, .ref jo, .ref ba, .ref ro, .int (nI ((nameF p0 p1 nc fve flk fal).2.2.2.2)), .int (nI rc)])), (ve, .inl (cA, 8, .inl (aN ((nameF p0 p1 nc fve flk fal).2.1)))), (lk, .inl (cA, 8, .inl (aN ((nameF p0 p1 nc fve flk fal).2.2.1)))), (ra, .inr (3, [.ref al, .ref be])), (al, .inl (cA, 8, .inl (aN ((nameF p0 p1 nc fve flk fal).2.2.2.1)))), (be, .inl (cA, 448, .inl (aN fbe)))] := by rw [eF]
            rw [eW] at hP hD
            exact W.iret (v := (nI nc)) hx hb hr (fun t ht hW => ⟨⟨(nI nc), (), rfl, (by rw [eF]), by rw [ht]; exact hP, hD⟩, hS.F ht⟩) hS.2.2 dX3_name_79
          · refine lv_bipush (v := -4) hx hb dX3_name_34 (by decide) ?_
            have eF : (nameF p0 p1 nc fve flk fal) = ((-4), fve, flk, fal, nc) := by unfold nameF; (repeat' (first | rfl | contradiction | split))
            have eW : ([(lc, .inr (5, [.ref ra, .ref sa, .ref fa, .ref ve, .ref lk, .ref jo, .ref ba, .ref ro, .int (nI nc), .int (nI rc)])), (ve, .inl (cA, 8, .inl (aN fve))), (lk, .inl (cA, 8, .inl (aN flk))), (ra, .inr (3, [.ref al, .ref be])), (al, .inl (cA, 8, .inl (aN fal))), (be, .inl (cA, 448, .inl (aN fbe)))] : va_W) = [(lc, .inr (5, [.ref ra, .ref sa, .ref fa, .ref ve, .ref lk, .ref jo, .ref ba, .ref ro, .int (nI ((nameF p0 p1 nc fve flk fal).2.2.2.2)), .int (nI rc)])), (ve, .inl (cA, 8, .inl (aN ((nameF p0 p1 nc fve flk fal).2.1)))), (lk, .inl (cA, 8, .inl (aN ((nameF p0 p1 nc fve flk fal).2.2.1)))), (ra, .inr (3, [.ref al, .ref be])), (al, .inl (cA, 8, .inl (aN ((nameF p0 p1 nc fve flk fal).2.2.2.1)))), (be, .inl (cA, 448, .inl (aN fbe)))] := by rw [eF]
            rw [eW] at hP hD
            exact W.iret (v := (-4)) hx hb hr (fun t ht hW => ⟨⟨(-4), (), rfl, (by rw [eF]), by rw [ht]; exact hP, hD⟩, hS.F ht⟩) hS.2.2 dX3_name_36
        · have ck : ¬ okV p0 p1 := fun q => c_19 q.2.2
          refine lv_bipush (v := -2) hx hb dX3_name_22 (by decide) ?_
          have eF : (nameF p0 p1 nc fve flk fal) = ((-2), fve, flk, fal, nc) := by unfold nameF; (repeat' (first | rfl | contradiction | split))
          have eW : ([(lc, .inr (5, [.ref ra, .ref sa, .ref fa, .ref ve, .ref lk, .ref jo, .ref ba, .ref ro, .int (nI nc), .int (nI rc)])), (ve, .inl (cA, 8, .inl (aN fve))), (lk, .inl (cA, 8, .inl (aN flk))), (ra, .inr (3, [.ref al, .ref be])), (al, .inl (cA, 8, .inl (aN fal))), (be, .inl (cA, 448, .inl (aN fbe)))] : va_W) = [(lc, .inr (5, [.ref ra, .ref sa, .ref fa, .ref ve, .ref lk, .ref jo, .ref ba, .ref ro, .int (nI ((nameF p0 p1 nc fve flk fal).2.2.2.2)), .int (nI rc)])), (ve, .inl (cA, 8, .inl (aN ((nameF p0 p1 nc fve flk fal).2.1)))), (lk, .inl (cA, 8, .inl (aN ((nameF p0 p1 nc fve flk fal).2.2.1)))), (ra, .inr (3, [.ref al, .ref be])), (al, .inl (cA, 8, .inl (aN ((nameF p0 p1 nc fve flk fal).2.2.2.1)))), (be, .inl (cA, 448, .inl (aN fbe)))] := by rw [eF]
          rw [eW] at hP hD
          exact W.iret (v := (-2)) hx hb hr (fun t ht hW => ⟨⟨(-2), (), rfl, (by rw [eF]), by rw [ht]; exact hP, hD⟩, hS.F ht⟩) hS.2.2 dX3_name_24


def needF (p0 p1 p2 : Int32) (dd : Int64) (nc rc : Nat) (fve fal fbe fro : Nat → Nat) : Int32 × (Nat → Nat) × (Nat → Nat) × (Nat → Nat) × Nat :=
  if isN p0 nc then (if isN p2 nc then (if isN p1 (fve (toN p0)) then (if rc < 60 then (nI rc, tieAl (toN p0) (toN p1 + 1) (toN p2) (2 * lo6 dd) fal, tieBe (toN p0) (toN p1 + 1) (toN p2) (2 * lo6 dd) fbe, va_up fro rc (((0 * 8 + toN p0) * 8 + toN p1) * 8 + toN p2), rc + 1)
    else (-4, fal, fbe, fro, rc)) else (-2, fal, fbe, fro, rc)) else (-1, fal, fbe, fro, rc)) else (-1, fal, fbe, fro, rc)

theorem lkX3_needs_12 : Cond.fieldLink RX3 12 "LeastChange" "rules" "LLeastChange$Rules;" ∈ wsX3_needs := by decide +kernel
theorem lkX3_needs_32 : Cond.fieldLink RX3 32 "LeastChange" "versions" "[I" ∈ wsX3_needs := by decide +kernel
theorem lkX3_needs_52 : Cond.fieldLink RX3 52 "LeastChange" "rowCount" "I" ∈ wsX3_needs := by decide +kernel
theorem inX3_needs_X3 : ∀ w ∈ wsX30, w ∈ wsX3_needs := by decide +kernel
theorem iniX3_needs_X1 : Cond.initialized RX1 ∈ wsX3_needs := by decide +kernel
theorem imX3_needs_X1_tie : Cond.instanceMethod yX1_tie ∈ wsX3_needs := by decide +kernel
theorem seX3_needs_X1_tie : Cond.selects RX1 yX1_tie yX1_tie ∈ wsX3_needs := by decide +kernel
set_option maxHeartbeats 4000000 in
set_option maxRecDepth 100000 in
theorem kX3_needs (l : Launch) (D : va_G) (cA : ClassId) (sz : Nat) (lc : Nat) (ra : Nat) (sa : Nat) (fa : Nat) (ve : Nat) (lk : Nat) (jo : Nat) (ba : Nat) (ro : Nat) (al : Nat) (be : Nat) (nc : Nat) (rc : Nat) (fve : Nat → Nat) (fro : Nat → Nat) (fal : Nat → Nat) (fbe : Nat → Nat) (p0 : Int32) (p1 : Int32) (p2 : Int32) (dd : Int64) (hnc : nc ≤ 8) (hrc : rc < 2147483648) (hve : ∀ j, fve j ≤ 6) : zMi l yX3_needs wsX3_needs ({ frames := 2, cells := 0, slots := 0, locals := 47 }) D cA [.ref lc, .int p0, .int p1, .int p2, .long dd] sz [(lc, .inr (5, [.ref ra, .ref sa, .ref fa, .ref ve, .ref lk, .ref jo, .ref ba, .ref ro, .int (nI nc), .int (nI rc)])), (ve, .inl (cA, 8, .inl (aN fve))), (ro, .inl (cA, 60, .inl (aN fro))), (ra, .inr (3, [.ref al, .ref be])), (al, .inl (cA, 8, .inl (aN fal))), (be, .inl (cA, 448, .inl (aN fbe)))] [(lc, .inr (5, [.ref ra, .ref sa, .ref fa, .ref ve, .ref lk, .ref jo, .ref ba, .ref ro, .int (nI nc), .int (nI ((needF p0 p1 p2 dd nc rc fve fal fbe fro).2.2.2.2))])), (ve, .inl (cA, 8, .inl (aN fve))), (ro, .inl (cA, 60, .inl (aN ((needF p0 p1 p2 dd nc rc fve fal fbe fro).2.2.2.1)))), (ra, .inr (3, [.ref al, .ref be])), (al, .inl (cA, 8, .inl (aN ((needF p0 p1 p2 dd nc rc fve fal fbe fro).2.1)))), (be, .inl (cA, 448, .inl (aN ((needF p0 p1 p2 dd nc rc fve fal fbe fro).2.2.1))))] ((needF p0 p1 p2 dd nc rc fve fal fbe fro).1) := by
  refine Met.ofW (cc := cX3_needs) (maxL := 6) (ret := (some .int)) (by decide) rfl ?_
  intro p e s m args below meth c s₁ B hml hv
  obtain ⟨rfl, hsz, hP, hK, hD0⟩ := hv
  have hx := B.exec
  have hb := B.bytes
  have hr := B.returns
  have hts := atoms_spec (ws := wsX3_needs) B.pre
  have hown : s.vm.findClass RX3 = some m.cls := findClass_of_methodNamed B.named
  have hlocks := B.notSynchronized
  subst hsz
  have hD := hD0.self (sz := s.heap.size)
  generalize hAe : va_A [(lc, .inr (5, [.ref ra, .ref sa, .ref fa, .ref ve, .ref lk, .ref jo, .ref ba, .ref ro, .int (nI nc), .int (nI rc)])), (ve, .inl (cA, 8, .inl (aN fve))), (ro, .inl (cA, 60, .inl (aN fro))), (ra, .inr (3, [.ref al, .ref be])), (al, .inl (cA, 8, .inl (aN fal))), (be, .inl (cA, 448, .inl (aN fbe)))] s.heap.size = A at hD ⊢
  have hA : ∀ q : Nat, s.heap.size ≤ q → A q := fun q h => by rw [← hAe]; exact Or.inr h
  have hS : va_S A s.heap s.heap [] := va_S.rf
  have hP : va_P D vwCl [(lc, .inr (5, [.ref ra, .ref sa, .ref fa, .ref ve, .ref lk, .ref jo, .ref ba, .ref ro, .int (nI nc), .int (nI rc)])), (ve, .inl (cA, 8, .inl (aN fve))), (ro, .inl (cA, 60, .inl (aN fro))), (ra, .inr (3, [.ref al, .ref be])), (al, .inl (cA, 8, .inl (aN fal))), (be, .inl (cA, 448, .inl (aN fbe)))] s.heap := hP
  have hl := lv_entry ([.ref lc, .int p0, .int p1, .int p2, .long dd]) (n := 6) (Nat.le_of_ble_eq_true rfl)
  rw [lg_entry_eq]
  generalize (lg_sl ([.ref lc, .int p0, .int p1, .int p2, .long dd]) ++ List.replicate (6 - (lg_sl ([.ref lc, .int p0, .int p1, .int p2, .long dd])).length) Slot.unset).toArray = ls at hl ⊢
  have hl : lv_has ls 6 [(0, .ref lc), (1, .int p0), (2, .int p1), (3, .int p2), (4, .long dd)] := hl
  refine lv_aload_n hx hb dX3_needs_0 rfl (lv_at hl 0 rfl) ?_
  refine lv_iload_n hx hb dX3_needs_1 rfl (lv_at hl 1 rfl) ?_
  refine zz_callI (av := []) (wc := [(lc, .inr (5, [.ref ra, .ref sa, .ref fa, .ref ve, .ref lk, .ref jo, .ref ba, .ref ro, .int (nI nc), .int (nI rc)]))]) (wr := [(ve, .inl (cA, 8, .inl (aN fve))), (ro, .inl (cA, 60, .inl (aN fro))), (ra, .inr (3, [.ref al, .ref be])), (al, .inl (cA, 8, .inl (aN fal))), (be, .inl (cA, 448, .inl (aN fbe)))]) hS hA hP hD [0] [1, 2, 3, 4, 5] rfl rfl (by decide) (by decide) (va_runV (As := [.int p0]) (rest := []) ⟨hx, hb, hml, hown, hts⟩ (kX3_isName l D cA s.heap.size lc ra sa fa ve lk jo ba ro nc rc p0 (by omega)) (cwV 1 hts gX3_needs_X3_isName rfl rfl rfl (by decide +kernel) ⟨Nat.le_of_ble_eq_true rfl, Nat.le_of_ble_eq_true rfl⟩) ⟨(zPreS (av := [.ref lc, .int p0]) (wc := [(lc, .inr (5, [.ref ra, .ref sa, .ref fa, .ref ve, .ref lk, .ref jo, .ref ba, .ref ro, .int (nI nc), .int (nI rc)]))]) hK hP hD [0] rfl (by decide) rfl).1, (va_recv hK.1 hP (ci := 5) (q0 := 0) rfl rfl), (zPreS (av := [.ref lc, .int p0]) (wc := [(lc, .inr (5, [.ref ra, .ref sa, .ref fa, .ref ve, .ref lk, .ref jo, .ref ba, .ref ro, .int (nI nc), .int (nI rc)]))]) hK hP hD [0] rfl (by decide) rfl).2⟩ rfl rfl hl.1 rfl (lv_room (Nat.le_of_ble_eq_true rfl)) dX3_needs_2 ⟨Nat.zero_le _, Nat.zero_le _⟩) (fun H locs hP hD hS => ?_)
  have hP : va_P D vwCl [(ve, .inl (cA, 8, .inl (aN fve))), (ro, .inl (cA, 60, .inl (aN fro))), (ra, .inr (3, [.ref al, .ref be])), (al, .inl (cA, 8, .inl (aN fal))), (be, .inl (cA, 448, .inl (aN fbe))), (lc, .inr (5, [.ref ra, .ref sa, .ref fa, .ref ve, .ref lk, .ref jo, .ref ba, .ref ro, .int (nI nc), .int (nI rc)]))] H := hP
  have hD : va_D A [(ve, .inl (cA, 8, .inl (aN fve))), (ro, .inl (cA, 60, .inl (aN fro))), (ra, .inr (3, [.ref al, .ref be])), (al, .inl (cA, 8, .inl (aN fal))), (be, .inl (cA, 448, .inl (aN fbe))), (lc, .inr (5, [.ref ra, .ref sa, .ref fa, .ref ve, .ref lk, .ref jo, .ref ba, .ref ro, .int (nI nc), .int (nI rc)]))] := hD
  have hP : va_P D vwCl [(lc, .inr (5, [.ref ra, .ref sa, .ref fa, .ref ve, .ref lk, .ref jo, .ref ba, .ref ro, .int (nI nc), .int (nI rc)])), (ve, .inl (cA, 8, .inl (aN fve))), (ro, .inl (cA, 60, .inl (aN fro))), (ra, .inr (3, [.ref al, .ref be])), (al, .inl (cA, 8, .inl (aN fal))), (be, .inl (cA, 448, .inl (aN fbe)))] H := hP.sub [5, 0, 1, 2, 3, 4] rfl
  have hD : va_D A [(lc, .inr (5, [.ref ra, .ref sa, .ref fa, .ref ve, .ref lk, .ref jo, .ref ba, .ref ro, .int (nI nc), .int (nI rc)])), (ve, .inl (cA, 8, .inl (aN fve))), (ro, .inl (cA, 60, .inl (aN fro))), (ra, .inr (3, [.ref al, .ref be])), (al, .inl (cA, 8, .inl (aN fal))), (be, .inl (cA, 448, .inl (aN fbe)))] := hD.sub [5, 0, 1, 2, 3, 4] (by decide) rfl
  refine nn_if_eq (tgt := 16) hx hb dX3_needs_5 (by decide) if01_lt (fun c_5 => ?_) (fun c_5 => ?_)
  · have c_5 := if01_eq c_5
    refine lv_iconst (v := -1) hx hb dX3_needs_16 (by decide) ?_
    have eF : (needF p0 p1 p2 dd nc rc fve fal fbe fro) = ((-1), fal, fbe, fro, rc) := by unfold needF; (repeat' (first | rfl | contradiction | split))
    have eW : ([(lc, .inr (5, [.ref ra, .ref sa, .ref fa, .ref ve, .ref lk, .ref jo, .ref ba, .ref ro, .int (nI nc), .int (nI rc)])), (ve, .inl (cA, 8, .inl (aN fve))), (ro, .inl (cA, 60, .inl (aN fro))), (ra, .inr (3, [.ref al, .ref be])), (al, .inl (cA, 8, .inl (aN fal))), (be, .inl (cA, 448, .inl (aN fbe)))] : va_W) = [(lc, .inr (5, [.ref ra, .ref sa, .ref fa, .ref ve, .ref lk, .ref jo, .ref ba, .ref ro, .int (nI nc), .int (nI ((needF p0 p1 p2 dd nc rc fve fal fbe fro).2.2.2.2))])), (ve, .inl (cA, 8, .inl (aN fve))), (ro, .inl (cA, 60, .inl (aN ((needF p0 p1 p2 dd nc rc fve fal fbe fro).2.2.2.1)))), (ra, .inr (3, [.ref al, .ref be])), (al, .inl (cA, 8, .inl (aN ((needF p0 p1 p2 dd nc rc fve fal fbe fro).2.1)))), (be, .inl (cA, 448, .inl (aN ((needF p0 p1 p2 dd nc rc fve fal fbe fro).2.2.1))))] := by rw [eF]
    rw [eW] at hP hD
    exact W.iret (v := (-1)) hx hb hr (fun t ht hW => ⟨⟨(-1), (), rfl, (by rw [eF]), by rw [ht]; exact hP, hD⟩, hS.F ht⟩) hS.2.2 dX3_needs_17
  · have c_5 := if01_ne c_5
    refine lv_aload_n hx hb dX3_needs_8 rfl (lv_at hl 0 rfl) ?_
    refine lv_iload_n hx hb dX3_needs_9 rfl (lv_at hl 3 rfl) ?_
    refine zz_callI (av := []) (wc := [(lc, .inr (5, [.ref ra, .ref sa, .ref fa, .ref ve, .ref lk, .ref jo, .ref ba, .ref ro, .int (nI nc), .int (nI rc)]))]) (wr := [(ve, .inl (cA, 8, .inl (aN fve))), (ro, .inl (cA, 60, .inl (aN fro))), (ra, .inr (3, [.ref al, .ref be])), (al, .inl (cA, 8, .inl (aN fal))), (be, .inl (cA, 448, .inl (aN fbe)))]) hS hA hP hD [0] [1, 2, 3, 4, 5] rfl rfl (by decide) (by decide) (va_runV (As := [.int p2]) (rest := []) ⟨hx, hb, hml, hown, hts⟩ (kX3_isName l D cA H.size lc ra sa fa ve lk jo ba ro nc rc p2 (by omega)) (cwV 1 hts gX3_needs_X3_isName rfl rfl rfl (by decide +kernel) ⟨Nat.le_of_ble_eq_true rfl, Nat.le_of_ble_eq_true rfl⟩) ⟨(zPreS (av := [.ref lc, .int p2]) (wc := [(lc, .inr (5, [.ref ra, .ref sa, .ref fa, .ref ve, .ref lk, .ref jo, .ref ba, .ref ro, .int (nI nc), .int (nI rc)]))]) hK hP hD [0] rfl (by decide) rfl).1, (va_recv hK.1 hP (ci := 5) (q0 := 0) rfl rfl), (zPreS (av := [.ref lc, .int p2]) (wc := [(lc, .inr (5, [.ref ra, .ref sa, .ref fa, .ref ve, .ref lk, .ref jo, .ref ba, .ref ro, .int (nI nc), .int (nI rc)]))]) hK hP hD [0] rfl (by decide) rfl).2⟩ rfl rfl hl.1 rfl (lv_room (Nat.le_of_ble_eq_true rfl)) dX3_needs_10 ⟨Nat.zero_le _, Nat.zero_le _⟩) (fun H locs hP hD hS => ?_)
    have hP : va_P D vwCl [(ve, .inl (cA, 8, .inl (aN fve))), (ro, .inl (cA, 60, .inl (aN fro))), (ra, .inr (3, [.ref al, .ref be])), (al, .inl (cA, 8, .inl (aN fal))), (be, .inl (cA, 448, .inl (aN fbe))), (lc, .inr (5, [.ref ra, .ref sa, .ref fa, .ref ve, .ref lk, .ref jo, .ref ba, .ref ro, .int (nI nc), .int (nI rc)]))] H := hP
    have hD : va_D A [(ve, .inl (cA, 8, .inl (aN fve))), (ro, .inl (cA, 60, .inl (aN fro))), (ra, .inr (3, [.ref al, .ref be])), (al, .inl (cA, 8, .inl (aN fal))), (be, .inl (cA, 448, .inl (aN fbe))), (lc, .inr (5, [.ref ra, .ref sa, .ref fa, .ref ve, .ref lk, .ref jo, .ref ba, .ref ro, .int (nI nc), .int (nI rc)]))] := hD
    have hP : va_P D vwCl [(lc, .inr (5, [.ref ra, .ref sa, .ref fa, .ref ve, .ref lk, .ref jo, .ref ba, .ref ro, .int (nI nc), .int (nI rc)])), (ve, .inl (cA, 8, .inl (aN fve))), (ro, .inl (cA, 60, .inl (aN fro))), (ra, .inr (3, [.ref al, .ref be])), (al, .inl (cA, 8, .inl (aN fal))), (be, .inl (cA, 448, .inl (aN fbe)))] H := hP.sub [5, 0, 1, 2, 3, 4] rfl
    have hD : va_D A [(lc, .inr (5, [.ref ra, .ref sa, .ref fa, .ref ve, .ref lk, .ref jo, .ref ba, .ref ro, .int (nI nc), .int (nI rc)])), (ve, .inl (cA, 8, .inl (aN fve))), (ro, .inl (cA, 60, .inl (aN fro))), (ra, .inr (3, [.ref al, .ref be])), (al, .inl (cA, 8, .inl (aN fal))), (be, .inl (cA, 448, .inl (aN fbe)))] := hD.sub [5, 0, 1, 2, 3, 4] (by decide) rfl
    refine nn_if_ne (tgt := 18) hx hb dX3_needs_13 (by decide) if01_lt (fun c_13 => ?_) (fun c_13 => ?_)
    · have c_13 := if01_ne c_13
      have e1 := toN_eq (c_5).1
      have b1 : toN p0 < nc := isN_lt (by omega) c_5
      have hl : lv_has ls 6 [(0, .ref lc), (1, .int (nI (toN p0))), (2, .int p1), (3, .int p2), (4, .long dd)] := by rw [← e1]; exact hl
      have e3 := toN_eq (c_13).1
      have b3 : toN p2 < nc := isN_lt (by omega) c_13
      have hl : lv_has ls 6 [(0, .ref lc), (1, .int (nI (toN p0))), (2, .int p1), (3, .int (nI (toN p2))), (4, .long dd)] := by rw [← e3]; exact hl
      refine lv_iload_n hx hb dX3_needs_18 rfl (lv_at hl 2 rfl) ?_
      refine lv_if_lt (tgt := 32) hx hb dX3_needs_19 (by decide) (fun c_19 => ?_) (fun c_19 => ?_)
      · have cv : ¬ isN p1 (fve (toN p0)) := fun q => q.1 c_19
        refine lv_bipush (v := -2) hx hb dX3_needs_32 (by decide) ?_
        have eF : (needF p0 p1 p2 dd nc rc fve fal fbe fro) = ((-2), fal, fbe, fro, rc) := by unfold needF; (repeat' (first | rfl | contradiction | split))
        have eW : ([(lc, .inr (5, [.ref ra, .ref sa, .ref fa, .ref ve, .ref lk, .ref jo, .ref ba, .ref ro, .int (nI nc), .int (nI rc)])), (ve, .inl (cA, 8, .inl (aN fve))), (ro, .inl (cA, 60, .inl (aN fro))), (ra, .inr (3, [.ref al, .ref be])), (al, .inl (cA, 8, .inl (aN fal))), (be, .inl (cA, 448, .inl (aN fbe)))] : va_W) = [(lc, .inr (5, [.ref ra, .ref sa, .ref fa, .ref ve, .ref lk, .ref jo, .ref ba, .ref ro, .int (nI nc), .int (nI ((needF p0 p1 p2 dd nc rc fve fal fbe fro).2.2.2.2))])), (ve, .inl (cA, 8, .inl (aN fve))), (ro, .inl (cA, 60, .inl (aN ((needF p0 p1 p2 dd nc rc fve fal fbe fro).2.2.2.1)))), (ra, .inr (3, [.ref al, .ref be])), (al, .inl (cA, 8, .inl (aN ((needF p0 p1 p2 dd nc rc fve fal fbe fro).2.1)))), (be, .inl (cA, 448, .inl (aN ((needF p0 p1 p2 dd nc rc fve fal fbe fro).2.2.1))))] := by rw [eF]
        rw [eW] at hP hD
        exact W.iret (v := (-2)) hx hb hr (fun t ht hW => ⟨⟨(-2), (), rfl, (by rw [eF]), by rw [ht]; exact hP, hD⟩, hS.F ht⟩) hS.2.2 dX3_needs_34
      · refine lv_iload_n hx hb dX3_needs_22 rfl (lv_at hl 2 rfl) ?_
        refine lv_aload_n hx hb dX3_needs_23 rfl (lv_at hl 0 rfl) ?_
        refine va_get (D := D) (ci := 5) (v := .ref ve) (C := RX3) (T := TX3) (N := 10) hx hb hts inX3_needs_X3 hown hK.1 hP 0 rfl rfl 3 (by decide) (hts _ lkX3_needs_32) (fun _ h9 => h9) rfl dX3_needs_24 ?_
        refine lv_iload_n hx hb dX3_needs_27 rfl (lv_at hl 1 rfl) ?_
        refine nn_ald hx hb hK hP 1 rfl (by omega) (by decide) dX3_needs_28 ?_
        refine lv_icmp_lt (tgt := 35) hx hb dX3_needs_29 (by decide) (fun c_29 => ?_) (fun c_29 => ?_)
        · have cv : isN p1 (fve (toN p0)) := ⟨c_19, c_29⟩
          have hv6 := hve (toN p0)
          have e2 := toN_eq (cv).1
          have b2 : toN p1 < fve (toN p0) := isN_lt (by omega) cv
          have hl : lv_has ls 6 [(0, .ref lc), (1, .int (nI (toN p0))), (2, .int (nI (toN p1))), (3, .int (nI (toN p2))), (4, .long dd)] := by rw [← e2]; exact hl
          refine lv_aload_n hx hb dX3_needs_35 rfl (lv_at hl 0 rfl) ?_
          refine va_get (D := D) (ci := 5) (v := .int (nI rc)) (C := RX3) (T := TX3) (N := 10) hx hb hts inX3_needs_X3 hown hK.1 hP 0 rfl rfl 9 (by decide) (hts _ lkX3_needs_52) (fun _ h9 => h9) rfl dX3_needs_36 ?_
          refine lv_bipush (v := nI 60) hx hb dX3_needs_39 (by decide) ?_
          refine nn_icmp_lt (tgt := 47) hx hb dX3_needs_41 (by decide) (by omega) (by omega) (fun c_41 => ?_) (fun c_41 => ?_)
          · refine lv_aload_n hx hb dX3_needs_47 rfl (lv_at hl 0 rfl) ?_
            refine va_get (D := D) (ci := 5) (v := .ref ra) (C := RX3) (T := TX3) (N := 10) hx hb hts inX3_needs_X3 hown hK.1 hP 0 rfl rfl 0 (by decide) (hts _ lkX3_needs_12) (fun _ h9 => h9) rfl dX3_needs_48 ?_
            refine lv_iload_n hx hb dX3_needs_51 rfl (lv_at hl 1 rfl) ?_
            refine lv_iload_n hx hb dX3_needs_52 rfl (lv_at hl 2 rfl) ?_
            refine zz_callI (av := []) (wc := []) (wr := [(lc, .inr (5, [.ref ra, .ref sa, .ref fa, .ref ve, .ref lk, .ref jo, .ref ba, .ref ro, .int (nI nc), .int (nI rc)])), (ve, .inl (cA, 8, .inl (aN fve))), (ro, .inl (cA, 60, .inl (aN fro))), (ra, .inr (3, [.ref al, .ref be])), (al, .inl (cA, 8, .inl (aN fal))), (be, .inl (cA, 448, .inl (aN fbe)))]) hS hA hP hD [] [0, 1, 2, 3, 4, 5] rfl rfl (by decide) (by decide) (va_runS (As := [.int (nI (toN p1))]) (rest := [.int (nI (toN p0)), .ref ra]) ⟨hx, hb, hml, hown, hts⟩ (kX3_codeOf l D cA H.size (nI (toN p1)) ) (va_cwS 1 hts gX3_needs_X3_codeOf rfl rfl rfl (by decide +kernel) ⟨Nat.le_of_ble_eq_true rfl, Nat.le_of_ble_eq_true rfl⟩) (zPreS (av := [.int (nI (toN p1))]) (wc := []) hK hP hD [] rfl (by decide) rfl) rfl rfl hl.1 rfl (lv_room (Nat.le_of_ble_eq_true rfl)) dX3_needs_53 ⟨Nat.zero_le _, Nat.zero_le _⟩) (fun H locs hP hD hS => ?_)
            have hP : va_P D vwCl [(lc, .inr (5, [.ref ra, .ref sa, .ref fa, .ref ve, .ref lk, .ref jo, .ref ba, .ref ro, .int (nI nc), .int (nI rc)])), (ve, .inl (cA, 8, .inl (aN fve))), (ro, .inl (cA, 60, .inl (aN fro))), (ra, .inr (3, [.ref al, .ref be])), (al, .inl (cA, 8, .inl (aN fal))), (be, .inl (cA, 448, .inl (aN fbe)))] H := hP
            have hD : va_D A [(lc, .inr (5, [.ref ra, .ref sa, .ref fa, .ref ve, .ref lk, .ref jo, .ref ba, .ref ro, .int (nI nc), .int (nI rc)])), (ve, .inl (cA, 8, .inl (aN fve))), (ro, .inl (cA, 60, .inl (aN fro))), (ra, .inr (3, [.ref al, .ref be])), (al, .inl (cA, 8, .inl (aN fal))), (be, .inl (cA, 448, .inl (aN fbe)))] := hD
            refine zz_top (y := (nI (toN p1 + 1))) (nI_add _ _) ?_
            refine lv_iload_n hx hb dX3_needs_56 rfl (lv_at hl 3 rfl) ?_
            refine lv_lload hx hb dX3_needs_57 (lv_at hl 4 rfl) ?_
            refine zz_callI (av := []) (wc := []) (wr := [(lc, .inr (5, [.ref ra, .ref sa, .ref fa, .ref ve, .ref lk, .ref jo, .ref ba, .ref ro, .int (nI nc), .int (nI rc)])), (ve, .inl (cA, 8, .inl (aN fve))), (ro, .inl (cA, 60, .inl (aN fro))), (ra, .inr (3, [.ref al, .ref be])), (al, .inl (cA, 8, .inl (aN fal))), (be, .inl (cA, 448, .inl (aN fbe)))]) hS hA hP hD [] [0, 1, 2, 3, 4, 5] rfl rfl (by decide) (by decide) (va_runS (As := [.long dd]) (rest := [.int (nI (toN p2)), .int (nI (toN p1 + 1)), .int (nI (toN p0)), .ref ra]) ⟨hx, hb, hml, hown, hts⟩ (kX3_codesOf l D cA H.size dd ) (va_cwS 1 hts gX3_needs_X3_codesOf rfl rfl rfl (by decide +kernel) ⟨Nat.le_of_ble_eq_true rfl, Nat.le_of_ble_eq_true rfl⟩) (zPreS (av := [.long dd]) (wc := []) hK hP hD [] rfl (by decide) rfl) rfl rfl hl.1 rfl (lv_room (Nat.le_of_ble_eq_true rfl)) dX3_needs_59 ⟨Nat.zero_le _, Nat.zero_le _⟩) (fun H locs hP hD hS => ?_)
            have hP : va_P D vwCl [(lc, .inr (5, [.ref ra, .ref sa, .ref fa, .ref ve, .ref lk, .ref jo, .ref ba, .ref ro, .int (nI nc), .int (nI rc)])), (ve, .inl (cA, 8, .inl (aN fve))), (ro, .inl (cA, 60, .inl (aN fro))), (ra, .inr (3, [.ref al, .ref be])), (al, .inl (cA, 8, .inl (aN fal))), (be, .inl (cA, 448, .inl (aN fbe)))] H := hP
            have hD : va_D A [(lc, .inr (5, [.ref ra, .ref sa, .ref fa, .ref ve, .ref lk, .ref jo, .ref ba, .ref ro, .int (nI nc), .int (nI rc)])), (ve, .inl (cA, 8, .inl (aN fve))), (ro, .inl (cA, 60, .inl (aN fro))), (ra, .inr (3, [.ref al, .ref be])), (al, .inl (cA, 8, .inl (aN fal))), (be, .inl (cA, 448, .inl (aN fbe)))] := hD
            refine zz_callV (av := []) (wc := [(ra, .inr (3, [.ref al, .ref be])), (al, .inl (cA, 8, .inl (aN fal))), (be, .inl (cA, 448, .inl (aN fbe)))]) (wr := [(lc, .inr (5, [.ref ra, .ref sa, .ref fa, .ref ve, .ref lk, .ref jo, .ref ba, .ref ro, .int (nI nc), .int (nI rc)])), (ve, .inl (cA, 8, .inl (aN fve))), (ro, .inl (cA, 60, .inl (aN fro)))]) hS hA hP hD [3, 4, 5] [0, 1, 2] rfl rfl (by decide) (by decide) (va_runVN (As := [.int (nI (toN p0)), .int (nI (toN p1 + 1)), .int (nI (toN p2)), .int (nI (2 * lo6 dd))]) (rest := []) ⟨hx, hb, hml, hown, hts⟩ (kX1_tie l D cA H.size ra al be fal fbe (toN p0) (toN p1 + 1) (toN p2) (2 * lo6 dd) (by omega) (by omega) (by omega) (by have := lo6_lt dd; omega)) ⟨va_cnB 4 hts gX3_needs_X1_tie_n71 rfl rfl rfl (hK.2 _ nkX3_71) (hts _ iniX3_needs_X1) (by decide +kernel) ⟨Nat.le_of_ble_eq_true rfl, Nat.le_of_ble_eq_true rfl⟩, hts _ imX3_needs_X1_tie, hts _ seX3_needs_X1_tie⟩ ⟨(zPreS (av := [.ref ra, .int (nI (toN p0)), .int (nI (toN p1 + 1)), .int (nI (toN p2)), .int (nI (2 * lo6 dd))]) (wc := [(ra, .inr (3, [.ref al, .ref be])), (al, .inl (cA, 8, .inl (aN fal))), (be, .inl (cA, 448, .inl (aN fbe)))]) hK hP hD [3, 4, 5] rfl (by decide) rfl).1, (va_recv hK.1 hP (ci := 3) (q0 := 3) rfl rfl), (zPreS (av := [.ref ra, .int (nI (toN p0)), .int (nI (toN p1 + 1)), .int (nI (toN p2)), .int (nI (2 * lo6 dd))]) (wc := [(ra, .inr (3, [.ref al, .ref be])), (al, .inl (cA, 8, .inl (aN fal))), (be, .inl (cA, 448, .inl (aN fbe)))]) hK hP hD [3, 4, 5] rfl (by decide) rfl).2⟩ rfl rfl hl.1 rfl (lv_room (Nat.le_of_ble_eq_true rfl)) dX3_needs_62 ⟨Nat.zero_le _, Nat.zero_le _⟩) (fun H locs hP hD hS => ?_)
            have hP : va_P D vwCl [(lc, .inr (5, [.ref ra, .ref sa, .ref fa, .ref ve, .ref lk, .ref jo, .ref ba, .ref ro, .int (nI nc), .int (nI rc)])), (ve, .inl (cA, 8, .inl (aN fve))), (ro, .inl (cA, 60, .inl (aN fro))), (ra, .inr (3, [.ref al, .ref be])), (al, .inl (cA, 8, .inl (aN (tieAl (toN p0) (toN p1 + 1) (toN p2) (2 * lo6 dd) fal)))), (be, .inl (cA, 448, .inl (aN (tieBe (toN p0) (toN p1 + 1) (toN p2) (2 * lo6 dd) fbe))))] H := hP
            have hD : va_D A [(lc, .inr (5, [.ref ra, .ref sa, .ref fa, .ref ve, .ref lk, .ref jo, .ref ba, .ref ro, .int (nI nc), .int (nI rc)])), (ve, .inl (cA, 8, .inl (aN fve))), (ro, .inl (cA, 60, .inl (aN fro))), (ra, .inr (3, [.ref al, .ref be])), (al, .inl (cA, 8, .inl (aN (tieAl (toN p0) (toN p1 + 1) (toN p2) (2 * lo6 dd) fal)))), (be, .inl (cA, 448, .inl (aN (tieBe (toN p0) (toN p1 + 1) (toN p2) (2 * lo6 dd) fbe))))] := hD
            refine lv_aload_n hx hb dX3_needs_65 rfl (lv_at hl 0 rfl) ?_
            refine lv_iconst (v := nI 0) hx hb dX3_needs_66 (by decide) ?_
            refine lv_iload_n hx hb dX3_needs_67 rfl (lv_at hl 1 rfl) ?_
            refine lv_iload_n hx hb dX3_needs_68 rfl (lv_at hl 2 rfl) ?_
            refine lv_iload_n hx hb dX3_needs_69 rfl (lv_at hl 3 rfl) ?_
            refine zz_callI (av := []) (wc := [(lc, .inr (5, [.ref ra, .ref sa, .ref fa, .ref ve, .ref lk, .ref jo, .ref ba, .ref ro, .int (nI nc), .int (nI rc)])), (ro, .inl (cA, 60, .inl (aN fro)))]) (wr := [(ve, .inl (cA, 8, .inl (aN fve))), (ra, .inr (3, [.ref al, .ref be])), (al, .inl (cA, 8, .inl (aN (tieAl (toN p0) (toN p1 + 1) (toN p2) (2 * lo6 dd) fal)))), (be, .inl (cA, 448, .inl (aN (tieBe (toN p0) (toN p1 + 1) (toN p2) (2 * lo6 dd) fbe))))]) hS hA hP hD [0, 2] [1, 3, 4, 5] rfl rfl (by decide) (by decide) (va_runV (As := [.int (nI 0), .int (nI (toN p0)), .int (nI (toN p1)), .int (nI (toN p2))]) (rest := []) ⟨hx, hb, hml, hown, hts⟩ (kX3_addRow l D cA H.size lc ra sa fa ve lk jo ba ro nc rc fro 0 (toN p0) (toN p1) (toN p2) (by omega)) (cwV 4 hts gX3_needs_X3_addRow rfl rfl rfl (by decide +kernel) ⟨Nat.le_of_ble_eq_true rfl, Nat.le_of_ble_eq_true rfl⟩) ⟨(zPreS (av := [.ref lc, .int (nI 0), .int (nI (toN p0)), .int (nI (toN p1)), .int (nI (toN p2))]) (wc := [(lc, .inr (5, [.ref ra, .ref sa, .ref fa, .ref ve, .ref lk, .ref jo, .ref ba, .ref ro, .int (nI nc), .int (nI rc)])), (ro, .inl (cA, 60, .inl (aN fro)))]) hK hP hD [0, 2] rfl (by decide) rfl).1, (va_recv hK.1 hP (ci := 5) (q0 := 0) rfl rfl), (zPreS (av := [.ref lc, .int (nI 0), .int (nI (toN p0)), .int (nI (toN p1)), .int (nI (toN p2))]) (wc := [(lc, .inr (5, [.ref ra, .ref sa, .ref fa, .ref ve, .ref lk, .ref jo, .ref ba, .ref ro, .int (nI nc), .int (nI rc)])), (ro, .inl (cA, 60, .inl (aN fro)))]) hK hP hD [0, 2] rfl (by decide) rfl).2⟩ rfl rfl hl.1 rfl (lv_room (Nat.le_of_ble_eq_true rfl)) dX3_needs_70 ⟨Nat.zero_le _, Nat.zero_le _⟩) (fun H locs hP hD hS => ?_)
            have hP : va_P D vwCl [(ve, .inl (cA, 8, .inl (aN fve))), (ra, .inr (3, [.ref al, .ref be])), (al, .inl (cA, 8, .inl (aN (tieAl (toN p0) (toN p1 + 1) (toN p2) (2 * lo6 dd) fal)))), (be, .inl (cA, 448, .inl (aN (tieBe (toN p0) (toN p1 + 1) (toN p2) (2 * lo6 dd) fbe)))), (lc, .inr (5, [.ref ra, .ref sa, .ref fa, .ref ve, .ref lk, .ref jo, .ref ba, .ref ro, .int (nI nc), .int (nI (rc + 1))])), (ro, .inl (cA, 60, .inl (aN (va_up fro rc (((0 * 8 + (toN p0)) * 8 + (toN p1)) * 8 + (toN p2))))))] H := hP
            have hD : va_D A [(ve, .inl (cA, 8, .inl (aN fve))), (ra, .inr (3, [.ref al, .ref be])), (al, .inl (cA, 8, .inl (aN (tieAl (toN p0) (toN p1 + 1) (toN p2) (2 * lo6 dd) fal)))), (be, .inl (cA, 448, .inl (aN (tieBe (toN p0) (toN p1 + 1) (toN p2) (2 * lo6 dd) fbe)))), (lc, .inr (5, [.ref ra, .ref sa, .ref fa, .ref ve, .ref lk, .ref jo, .ref ba, .ref ro, .int (nI nc), .int (nI (rc + 1))])), (ro, .inl (cA, 60, .inl (aN (va_up fro rc (((0 * 8 + (toN p0)) * 8 + (toN p1)) * 8 + (toN p2))))))] := hD
            have hP : va_P D vwCl [(lc, .inr (5, [.ref ra, .ref sa, .ref fa, .ref ve, .ref lk, .ref jo, .ref ba, .ref ro, .int (nI nc), .int (nI (rc + 1))])), (ve, .inl (cA, 8, .inl (aN fve))), (ro, .inl (cA, 60, .inl (aN (va_up fro rc (((0 * 8 + (toN p0)) * 8 + (toN p1)) * 8 + (toN p2)))))), (ra, .inr (3, [.ref al, .ref be])), (al, .inl (cA, 8, .inl (aN (tieAl (toN p0) (toN p1 + 1) (toN p2) (2 * lo6 dd) fal)))), (be, .inl (cA, 448, .inl (aN (tieBe (toN p0) (toN p1 + 1) (toN p2) (2 * lo6 dd) fbe))))] H := hP.sub [4, 0, 5, 1, 2, 3] rfl
            have hD : va_D A [(lc, .inr (5, [.ref ra, .ref sa, .ref fa, .ref ve, .ref lk, .ref jo, .ref ba, .ref ro, .int (nI nc), .int (nI (rc + 1))])), (ve, .inl (cA, 8, .inl (aN fve))), (ro, .inl (cA, 60, .inl (aN (va_up fro rc (((0 * 8 + (toN p0)) * 8 + (toN p1)) * 8 + (toN p2)))))), (ra, .inr (3, [.ref al, .ref be])), (al, .inl (cA, 8, .inl (aN (tieAl (toN p0) (toN p1 + 1) (toN p2) (2 * lo6 dd) fal)))), (be, .inl (cA, 448, .inl (aN (tieBe (toN p0) (toN p1 + 1) (toN p2) (2 * lo6 dd) fbe))))] := hD.sub [4, 0, 5, 1, 2, 3] (by decide) rfl
            have eF : (needF p0 p1 p2 dd nc rc fve fal fbe fro) = ((nI rc), tieAl (toN p0) (toN p1 + 1) (toN p2) (2 * lo6 dd) fal, tieBe (toN p0) (toN p1 + 1) (toN p2) (2 * lo6 dd) fbe, va_up fro rc (((0 * 8 + (toN p0)) * 8 + (toN p1)) * 8 + (toN p2)), rc + 1) := by unfold needF; (repeat' (first | rfl | contradiction | split))
            have eW : ([(lc, .inr (5, [.ref ra, .ref sa, .ref fa, .ref ve, .ref lk, .ref jo, .ref ba, .ref ro, .int (nI nc), .int (nI (rc + 1))])), (ve, .inl (cA, 8, .inl (aN fve))), (ro, .inl (cA, 60, .inl (aN (va_up fro rc (((0 * 8 + (toN p0)) * 8 + (toN p1)) * 8 + (toN p2)))))), (ra, .inr (3, [.ref al, .ref be])), (al, .inl (cA, 8, .inl (aN (tieAl (toN p0) (toN p1 + 1) (toN p2) (2 * lo6 dd) fal)))), (be, .inl (cA, 448, .inl (aN (tieBe (toN p0) (toN p1 + 1) (toN p2) (2 * lo6 dd) fbe))))] : va_W) = [(lc, .inr (5, [.ref ra, .ref sa, .ref fa, .ref ve, .ref lk, .ref jo, .ref ba, .ref ro, .int (nI nc), .int (nI ((needF p0 p1 p2 dd nc rc fve fal fbe fro).2.2.2.2))])), (ve, .inl (cA, 8, .inl (aN fve))), (ro, .inl (cA, 60, .inl (aN ((needF p0 p1 p2 dd nc rc fve fal fbe fro).2.2.2.1)))), (ra, .inr (3, [.ref al, .ref be])), (al, .inl (cA, 8, .inl (aN ((needF p0 p1 p2 dd nc rc fve fal fbe fro).2.1)))), (be, .inl (cA, 448, .inl (aN ((needF p0 p1 p2 dd nc rc fve fal fbe fro).2.2.1))))] := by rw [eF]
            rw [eW] at hP hD
            exact W.iret (v := (nI rc)) hx hb hr (fun t ht hW => ⟨⟨(nI rc), (), rfl, (by rw [eF]), by rw [ht]; exact hP, hD⟩, hS.F ht⟩) hS.2.2 dX3_needs_73
          · refine lv_bipush (v := -4) hx hb dX3_needs_44 (by decide) ?_
            have eF : (needF p0 p1 p2 dd nc rc fve fal fbe fro) = ((-4), fal, fbe, fro, rc) := by unfold needF; (repeat' (first | rfl | contradiction | split))
            have eW : ([(lc, .inr (5, [.ref ra, .ref sa, .ref fa, .ref ve, .ref lk, .ref jo, .ref ba, .ref ro, .int (nI nc), .int (nI rc)])), (ve, .inl (cA, 8, .inl (aN fve))), (ro, .inl (cA, 60, .inl (aN fro))), (ra, .inr (3, [.ref al, .ref be])), (al, .inl (cA, 8, .inl (aN fal))), (be, .inl (cA, 448, .inl (aN fbe)))] : va_W) = [(lc, .inr (5, [.ref ra, .ref sa, .ref fa, .ref ve, .ref lk, .ref jo, .ref ba, .ref ro, .int (nI nc), .int (nI ((needF p0 p1 p2 dd nc rc fve fal fbe fro).2.2.2.2))])), (ve, .inl (cA, 8, .inl (aN fve))), (ro, .inl (cA, 60, .inl (aN ((needF p0 p1 p2 dd nc rc fve fal fbe fro).2.2.2.1)))), (ra, .inr (3, [.ref al, .ref be])), (al, .inl (cA, 8, .inl (aN ((needF p0 p1 p2 dd nc rc fve fal fbe fro).2.1)))), (be, .inl (cA, 448, .inl (aN ((needF p0 p1 p2 dd nc rc fve fal fbe fro).2.2.1))))] := by rw [eF]
            rw [eW] at hP hD
            exact W.iret (v := (-4)) hx hb hr (fun t ht hW => ⟨⟨(-4), (), rfl, (by rw [eF]), by rw [ht]; exact hP, hD⟩, hS.F ht⟩) hS.2.2 dX3_needs_46
        · have cv : ¬ isN p1 (fve (toN p0)) := fun q => c_29 q.2
          refine lv_bipush (v := -2) hx hb dX3_needs_32 (by decide) ?_
          have eF : (needF p0 p1 p2 dd nc rc fve fal fbe fro) = ((-2), fal, fbe, fro, rc) := by unfold needF; (repeat' (first | rfl | contradiction | split))
          have eW : ([(lc, .inr (5, [.ref ra, .ref sa, .ref fa, .ref ve, .ref lk, .ref jo, .ref ba, .ref ro, .int (nI nc), .int (nI rc)])), (ve, .inl (cA, 8, .inl (aN fve))), (ro, .inl (cA, 60, .inl (aN fro))), (ra, .inr (3, [.ref al, .ref be])), (al, .inl (cA, 8, .inl (aN fal))), (be, .inl (cA, 448, .inl (aN fbe)))] : va_W) = [(lc, .inr (5, [.ref ra, .ref sa, .ref fa, .ref ve, .ref lk, .ref jo, .ref ba, .ref ro, .int (nI nc), .int (nI ((needF p0 p1 p2 dd nc rc fve fal fbe fro).2.2.2.2))])), (ve, .inl (cA, 8, .inl (aN fve))), (ro, .inl (cA, 60, .inl (aN ((needF p0 p1 p2 dd nc rc fve fal fbe fro).2.2.2.1)))), (ra, .inr (3, [.ref al, .ref be])), (al, .inl (cA, 8, .inl (aN ((needF p0 p1 p2 dd nc rc fve fal fbe fro).2.1)))), (be, .inl (cA, 448, .inl (aN ((needF p0 p1 p2 dd nc rc fve fal fbe fro).2.2.1))))] := by rw [eF]
          rw [eW] at hP hD
          exact W.iret (v := (-2)) hx hb hr (fun t ht hW => ⟨⟨(-2), (), rfl, (by rw [eF]), by rw [ht]; exact hP, hD⟩, hS.F ht⟩) hS.2.2 dX3_needs_34
    · have c_13 := if01_eq c_13
      refine lv_iconst (v := -1) hx hb dX3_needs_16 (by decide) ?_
      have eF : (needF p0 p1 p2 dd nc rc fve fal fbe fro) = ((-1), fal, fbe, fro, rc) := by unfold needF; (repeat' (first | rfl | contradiction | split))
      have eW : ([(lc, .inr (5, [.ref ra, .ref sa, .ref fa, .ref ve, .ref lk, .ref jo, .ref ba, .ref ro, .int (nI nc), .int (nI rc)])), (ve, .inl (cA, 8, .inl (aN fve))), (ro, .inl (cA, 60, .inl (aN fro))), (ra, .inr (3, [.ref al, .ref be])), (al, .inl (cA, 8, .inl (aN fal))), (be, .inl (cA, 448, .inl (aN fbe)))] : va_W) = [(lc, .inr (5, [.ref ra, .ref sa, .ref fa, .ref ve, .ref lk, .ref jo, .ref ba, .ref ro, .int (nI nc), .int (nI ((needF p0 p1 p2 dd nc rc fve fal fbe fro).2.2.2.2))])), (ve, .inl (cA, 8, .inl (aN fve))), (ro, .inl (cA, 60, .inl (aN ((needF p0 p1 p2 dd nc rc fve fal fbe fro).2.2.2.1)))), (ra, .inr (3, [.ref al, .ref be])), (al, .inl (cA, 8, .inl (aN ((needF p0 p1 p2 dd nc rc fve fal fbe fro).2.1)))), (be, .inl (cA, 448, .inl (aN ((needF p0 p1 p2 dd nc rc fve fal fbe fro).2.2.1))))] := by rw [eF]
      rw [eW] at hP hD
      exact W.iret (v := (-1)) hx hb hr (fun t ht hW => ⟨⟨(-1), (), rfl, (by rw [eF]), by rw [ht]; exact hP, hD⟩, hS.F ht⟩) hS.2.2 dX3_needs_17


def grBody (na ot : Nat) : Nat → ((Nat → Nat) × (Nat → Nat)) → (Nat → Nat) × (Nat → Nat) := fun i y => (tieAl na i ot (1 ||| (1 <<< i)) y.1, tieBe na i ot (1 ||| (1 <<< i)) y.2)
def grpF (p0 p1 : Int32) (nc rc : Nat) (fal fbe fro : Nat → Nat) : Int32 × (Nat → Nat) × (Nat → Nat) × (Nat → Nat) × Nat :=
  if isN p0 nc then (if isN p1 nc then (if toN p0 = toN p1 then (-2, fal, fbe, fro, rc) else (if rc < 60 then (nI rc, (zlp (grBody (toN p0) (toN p1)) 6 1 (fal, fbe)).1, (zlp (grBody (toN p0) (toN p1)) 6 1 (fal, fbe)).2, va_up fro rc (((3 * 8 + toN p0) * 8 + 0) * 8 + toN p1), rc + 1)
    else (-4, fal, fbe, fro, rc))) else (-1, fal, fbe, fro, rc)) else (-1, fal, fbe, fro, rc)
theorem or_shl_lt {i : Nat} (h : i < 7) : 1 ||| (1 <<< i) < 2147483648 := by
  have : ∀ i, i < 7 → 1 ||| (1 <<< i) < 2147483648 := by decide
  exact this i h

theorem lkX3_group_12 : Cond.fieldLink RX3 12 "LeastChange" "rules" "LLeastChange$Rules;" ∈ wsX3_group := by decide +kernel
theorem inX3_group_X3 : ∀ w ∈ wsX30, w ∈ wsX3_group := by decide +kernel
theorem iniX3_group_X1 : Cond.initialized RX1 ∈ wsX3_group := by decide +kernel
theorem imX3_group_X1_tie : Cond.instanceMethod yX1_tie ∈ wsX3_group := by decide +kernel
theorem seX3_group_X1_tie : Cond.selects RX1 yX1_tie yX1_tie ∈ wsX3_group := by decide +kernel
set_option maxHeartbeats 4000000 in
set_option maxRecDepth 100000 in
theorem bX3_group {p : Program} {l : Launch} {e : Env} {R : Room} {s : State} {m : MethodId} {args : Array Value} {below : List Frame} {meth : Method} {c : Code} {Q : State → Prop} {A : Nat → Prop} {H0 : Heap} {D : va_G} {cA : ClassId} (hx : p.tables.exec = Jvm.exec) (hb : c.code = cX3_group) (hml : c.maxLocals = 4) (hown : s.vm.findClass RX3 = some m.cls) (hts : ∀ w ∈ wsX3_group, w.before args s = true) (hK : zK D cA s) (hA : ∀ q, H0.size ≤ q → A q) (lc : Nat) (ra : Nat) (sa : Nat) (fa : Nat) (ve : Nat) (lk : Nat) (jo : Nat) (ba : Nat) (ro : Nat) (al : Nat) (be : Nat) (nc : Nat) (rc : Nat) (fro : Nat → Nat) (na : Nat) (ot : Nat) (hn : na < 8) (ho : ot < 8) (hRf : 2 ≤ R.frames) (hRl : 47 ≤ R.locals)  : ∀ (k : Nat) (i : Nat) (y : (Nat → Nat) × (Nat → Nat)), (i + k = 7) → ∀ (H : Heap) (locs : List Loc) (ls : Array Slot), va_P D vwCl [(lc, .inr (5, [.ref ra, .ref sa, .ref fa, .ref ve, .ref lk, .ref jo, .ref ba, .ref ro, .int (nI nc), .int (nI rc)])), (ro, .inl (cA, 60, .inl (aN fro))), (ra, .inr (3, [.ref al, .ref be])), (al, .inl (cA, 8, .inl (aN y.1))), (be, .inl (cA, 448, .inl (aN y.2)))] H → va_D A [(lc, .inr (5, [.ref ra, .ref sa, .ref fa, .ref ve, .ref lk, .ref jo, .ref ba, .ref ro, .int (nI nc), .int (nI rc)])), (ro, .inl (cA, 60, .inl (aN fro))), (ra, .inr (3, [.ref al, .ref be])), (al, .inl (cA, 8, .inl (aN y.1))), (be, .inl (cA, 448, .inl (aN y.2)))] → va_S A H0 H locs → lv_has ls 4 [(0, .ref lc), (1, .int (nI na)), (2, .int (nI ot)), (3, .int (nI i))] → (∀ (H : Heap) (locs : List Loc) (ls : Array Slot), va_P D vwCl [(lc, .inr (5, [.ref ra, .ref sa, .ref fa, .ref ve, .ref lk, .ref jo, .ref ba, .ref ro, .int (nI nc), .int (nI rc)])), (ro, .inl (cA, 60, .inl (aN fro))), (ra, .inr (3, [.ref al, .ref be])), (al, .inl (cA, 8, .inl (aN ((zlp (grBody na ot) k i y).1)))), (be, .inl (cA, 448, .inl (aN ((zlp (grBody na ot) k i y).2))))] H → va_D A [(lc, .inr (5, [.ref ra, .ref sa, .ref fa, .ref ve, .ref lk, .ref jo, .ref ba, .ref ro, .int (nI nc), .int (nI rc)])), (ro, .inl (cA, 60, .inl (aN fro))), (ra, .inr (3, [.ref al, .ref be])), (al, .inl (cA, 8, .inl (aN ((zlp (grBody na ot) k i y).1)))), (be, .inl (cA, 448, .inl (aN ((zlp (grBody na ot) k i y).2))))] → va_S A H0 H locs → lv_has ls 4 [(0, .ref lc), (1, .int (nI na)), (2, .int (nI ot))] → W p l e R s m args below meth c H locs 0 0 Q (F0 m 67 ls [])) → W p l e R s m args below meth c H locs 0 0 Q (F0 m 40 ls []) := by
  intro k
  induction k with
  | zero =>
    intro i y hi H locs ls hP hD hS hl kk
    refine lv_iload_n hx hb dX3_group_40 rfl (lv_at hl 3 rfl) ?_
    refine lv_bipush (v := nI 7) hx hb dX3_group_41 (by decide) ?_
    refine nn_icmp_ge (tgt := 67) hx hb dX3_group_43 (by decide) (by omega) (by omega) (fun c_43 => ?_) (fun c_43 => ?_)
    · exact kk _ _ _ hP hD hS (lv_sub hl [0, 1, 2] rfl)
    · exfalso; omega
  | succ k ih =>
    intro i y hi H locs ls hP hD hS hl kk
    refine lv_iload_n hx hb dX3_group_40 rfl (lv_at hl 3 rfl) ?_
    refine lv_bipush (v := nI 7) hx hb dX3_group_41 (by decide) ?_
    refine nn_icmp_ge (tgt := 67) hx hb dX3_group_43 (by decide) (by omega) (by omega) (fun c_43 => ?_) (fun c_43 => ?_)
    · exfalso; omega
    · refine lv_aload_n hx hb dX3_group_46 rfl (lv_at hl 0 rfl) ?_
      refine va_get (D := D) (ci := 5) (v := .ref ra) (C := RX3) (T := TX3) (N := 10) hx hb hts inX3_group_X3 hown hK.1 hP 0 rfl rfl 0 (by decide) (hts _ lkX3_group_12) (fun _ h9 => h9) rfl dX3_group_47 ?_
      refine lv_iload_n hx hb dX3_group_50 rfl (lv_at hl 1 rfl) ?_
      refine lv_iload_n hx hb dX3_group_51 rfl (lv_at hl 3 rfl) ?_
      refine lv_iload_n hx hb dX3_group_52 rfl (lv_at hl 2 rfl) ?_
      refine lv_iconst (v := nI 1) hx hb dX3_group_53 (by decide) ?_
      refine lv_iconst (v := nI 1) hx hb dX3_group_54 (by decide) ?_
      refine lv_iload_n hx hb dX3_group_55 rfl (lv_at hl 3 rfl) ?_
      refine nn_ishl hx hb (by omega) dX3_group_56 ?_
      refine nn_ior hx hb dX3_group_57 ?_
      refine zz_callV (av := []) (wc := [(ra, .inr (3, [.ref al, .ref be])), (al, .inl (cA, 8, .inl (aN y.1))), (be, .inl (cA, 448, .inl (aN y.2)))]) (wr := [(lc, .inr (5, [.ref ra, .ref sa, .ref fa, .ref ve, .ref lk, .ref jo, .ref ba, .ref ro, .int (nI nc), .int (nI rc)])), (ro, .inl (cA, 60, .inl (aN fro)))]) hS hA hP hD [2, 3, 4] [0, 1] rfl rfl (by decide) (by decide) (va_runVN (As := [.int (nI na), .int (nI i), .int (nI ot), .int (nI (1 ||| (1 <<< i)))]) (rest := []) ⟨hx, hb, hml, hown, hts⟩ (kX1_tie l D cA H.size ra al be y.1 y.2 na i ot (1 ||| (1 <<< i)) (by omega) (by omega) (by omega) (or_shl_lt (by omega))) ⟨va_cnB 4 hts gX3_group_X1_tie_n71 rfl rfl rfl (hK.2 _ nkX3_71) (hts _ iniX3_group_X1) (by decide +kernel) ⟨Nat.le_trans (by decide) hRf, Nat.le_trans (by decide) hRl⟩, hts _ imX3_group_X1_tie, hts _ seX3_group_X1_tie⟩ ⟨(zPreS (av := [.ref ra, .int (nI na), .int (nI i), .int (nI ot), .int (nI (1 ||| (1 <<< i)))]) (wc := [(ra, .inr (3, [.ref al, .ref be])), (al, .inl (cA, 8, .inl (aN y.1))), (be, .inl (cA, 448, .inl (aN y.2)))]) hK hP hD [2, 3, 4] rfl (by decide) rfl).1, (va_recv hK.1 hP (ci := 3) (q0 := 2) rfl rfl), (zPreS (av := [.ref ra, .int (nI na), .int (nI i), .int (nI ot), .int (nI (1 ||| (1 <<< i)))]) (wc := [(ra, .inr (3, [.ref al, .ref be])), (al, .inl (cA, 8, .inl (aN y.1))), (be, .inl (cA, 448, .inl (aN y.2)))]) hK hP hD [2, 3, 4] rfl (by decide) rfl).2⟩ rfl rfl hl.1 rfl (lv_room (Nat.le_of_ble_eq_true rfl)) dX3_group_58 ⟨Nat.zero_le _, Nat.zero_le _⟩) (fun H locs hP hD hS => ?_)
      have hP : va_P D vwCl [(lc, .inr (5, [.ref ra, .ref sa, .ref fa, .ref ve, .ref lk, .ref jo, .ref ba, .ref ro, .int (nI nc), .int (nI rc)])), (ro, .inl (cA, 60, .inl (aN fro))), (ra, .inr (3, [.ref al, .ref be])), (al, .inl (cA, 8, .inl (aN (tieAl na i ot (1 ||| (1 <<< i)) y.1)))), (be, .inl (cA, 448, .inl (aN (tieBe na i ot (1 ||| (1 <<< i)) y.2))))] H := hP
      have hD : va_D A [(lc, .inr (5, [.ref ra, .ref sa, .ref fa, .ref ve, .ref lk, .ref jo, .ref ba, .ref ro, .int (nI nc), .int (nI rc)])), (ro, .inl (cA, 60, .inl (aN fro))), (ra, .inr (3, [.ref al, .ref be])), (al, .inl (cA, 8, .inl (aN (tieAl na i ot (1 ||| (1 <<< i)) y.1)))), (be, .inl (cA, 448, .inl (aN (tieBe na i ot (1 ||| (1 <<< i)) y.2))))] := hD
      refine lv_iinc (v := (nI (i + 1))) (lv' := [(3, .int (nI (i + 1))), (0, .ref lc), (1, .int (nI na)), (2, .int (nI ot))]) hx hb dX3_group_61 hl (k := 3) rfl (nI_add _ _) (by decide) rfl (fun ls hl => ?_)
      refine lv_goto (tgt := 40) hx hb dX3_group_64 (by decide) ?_
      exact ih (i + 1) (grBody na ot i y) (by omega) _ _ _ hP hD hS (lv_sub hl [1, 2, 3, 0] rfl) kk

theorem lkX3_group_52 : Cond.fieldLink RX3 52 "LeastChange" "rowCount" "I" ∈ wsX3_group := by decide +kernel
set_option maxHeartbeats 4000000 in
set_option maxRecDepth 100000 in
theorem kX3_group (l : Launch) (D : va_G) (cA : ClassId) (sz : Nat) (lc : Nat) (ra : Nat) (sa : Nat) (fa : Nat) (ve : Nat) (lk : Nat) (jo : Nat) (ba : Nat) (ro : Nat) (al : Nat) (be : Nat) (nc : Nat) (rc : Nat) (fro : Nat → Nat) (fal : Nat → Nat) (fbe : Nat → Nat) (p0 : Int32) (p1 : Int32) (hnc : nc ≤ 8) (hrc : rc < 2147483648) : zMi l yX3_group wsX3_group ({ frames := 2, cells := 0, slots := 0, locals := 47 }) D cA [.ref lc, .int p0, .int p1] sz [(lc, .inr (5, [.ref ra, .ref sa, .ref fa, .ref ve, .ref lk, .ref jo, .ref ba, .ref ro, .int (nI nc), .int (nI rc)])), (ro, .inl (cA, 60, .inl (aN fro))), (ra, .inr (3, [.ref al, .ref be])), (al, .inl (cA, 8, .inl (aN fal))), (be, .inl (cA, 448, .inl (aN fbe)))] [(lc, .inr (5, [.ref ra, .ref sa, .ref fa, .ref ve, .ref lk, .ref jo, .ref ba, .ref ro, .int (nI nc), .int (nI ((grpF p0 p1 nc rc fal fbe fro).2.2.2.2))])), (ro, .inl (cA, 60, .inl (aN ((grpF p0 p1 nc rc fal fbe fro).2.2.2.1)))), (ra, .inr (3, [.ref al, .ref be])), (al, .inl (cA, 8, .inl (aN ((grpF p0 p1 nc rc fal fbe fro).2.1)))), (be, .inl (cA, 448, .inl (aN ((grpF p0 p1 nc rc fal fbe fro).2.2.1))))] ((grpF p0 p1 nc rc fal fbe fro).1) := by
  refine Met.ofW (cc := cX3_group) (maxL := 4) (ret := (some .int)) (by decide) rfl ?_
  intro p e s m args below meth c s₁ B hml hv
  obtain ⟨rfl, hsz, hP, hK, hD0⟩ := hv
  have hx := B.exec
  have hb := B.bytes
  have hr := B.returns
  have hts := atoms_spec (ws := wsX3_group) B.pre
  have hown : s.vm.findClass RX3 = some m.cls := findClass_of_methodNamed B.named
  have hlocks := B.notSynchronized
  subst hsz
  have hD := hD0.self (sz := s.heap.size)
  generalize hAe : va_A [(lc, .inr (5, [.ref ra, .ref sa, .ref fa, .ref ve, .ref lk, .ref jo, .ref ba, .ref ro, .int (nI nc), .int (nI rc)])), (ro, .inl (cA, 60, .inl (aN fro))), (ra, .inr (3, [.ref al, .ref be])), (al, .inl (cA, 8, .inl (aN fal))), (be, .inl (cA, 448, .inl (aN fbe)))] s.heap.size = A at hD ⊢
  have hA : ∀ q : Nat, s.heap.size ≤ q → A q := fun q h => by rw [← hAe]; exact Or.inr h
  have hS : va_S A s.heap s.heap [] := va_S.rf
  have hP : va_P D vwCl [(lc, .inr (5, [.ref ra, .ref sa, .ref fa, .ref ve, .ref lk, .ref jo, .ref ba, .ref ro, .int (nI nc), .int (nI rc)])), (ro, .inl (cA, 60, .inl (aN fro))), (ra, .inr (3, [.ref al, .ref be])), (al, .inl (cA, 8, .inl (aN fal))), (be, .inl (cA, 448, .inl (aN fbe)))] s.heap := hP
  have hl := lv_entry ([.ref lc, .int p0, .int p1]) (n := 4) (Nat.le_of_ble_eq_true rfl)
  rw [lg_entry_eq]
  generalize (lg_sl ([.ref lc, .int p0, .int p1]) ++ List.replicate (4 - (lg_sl ([.ref lc, .int p0, .int p1])).length) Slot.unset).toArray = ls at hl ⊢
  have hl : lv_has ls 4 [(0, .ref lc), (1, .int p0), (2, .int p1)] := hl
  refine lv_aload_n hx hb dX3_group_0 rfl (lv_at hl 0 rfl) ?_
  refine lv_iload_n hx hb dX3_group_1 rfl (lv_at hl 1 rfl) ?_
  refine zz_callI (av := []) (wc := [(lc, .inr (5, [.ref ra, .ref sa, .ref fa, .ref ve, .ref lk, .ref jo, .ref ba, .ref ro, .int (nI nc), .int (nI rc)]))]) (wr := [(ro, .inl (cA, 60, .inl (aN fro))), (ra, .inr (3, [.ref al, .ref be])), (al, .inl (cA, 8, .inl (aN fal))), (be, .inl (cA, 448, .inl (aN fbe)))]) hS hA hP hD [0] [1, 2, 3, 4] rfl rfl (by decide) (by decide) (va_runV (As := [.int p0]) (rest := []) ⟨hx, hb, hml, hown, hts⟩ (kX3_isName l D cA s.heap.size lc ra sa fa ve lk jo ba ro nc rc p0 (by omega)) (cwV 1 hts gX3_group_X3_isName rfl rfl rfl (by decide +kernel) ⟨Nat.le_of_ble_eq_true rfl, Nat.le_of_ble_eq_true rfl⟩) ⟨(zPreS (av := [.ref lc, .int p0]) (wc := [(lc, .inr (5, [.ref ra, .ref sa, .ref fa, .ref ve, .ref lk, .ref jo, .ref ba, .ref ro, .int (nI nc), .int (nI rc)]))]) hK hP hD [0] rfl (by decide) rfl).1, (va_recv hK.1 hP (ci := 5) (q0 := 0) rfl rfl), (zPreS (av := [.ref lc, .int p0]) (wc := [(lc, .inr (5, [.ref ra, .ref sa, .ref fa, .ref ve, .ref lk, .ref jo, .ref ba, .ref ro, .int (nI nc), .int (nI rc)]))]) hK hP hD [0] rfl (by decide) rfl).2⟩ rfl rfl hl.1 rfl (lv_room (Nat.le_of_ble_eq_true rfl)) dX3_group_2 ⟨Nat.zero_le _, Nat.zero_le _⟩) (fun H locs hP hD hS => ?_)
  have hP : va_P D vwCl [(ro, .inl (cA, 60, .inl (aN fro))), (ra, .inr (3, [.ref al, .ref be])), (al, .inl (cA, 8, .inl (aN fal))), (be, .inl (cA, 448, .inl (aN fbe))), (lc, .inr (5, [.ref ra, .ref sa, .ref fa, .ref ve, .ref lk, .ref jo, .ref ba, .ref ro, .int (nI nc), .int (nI rc)]))] H := hP
  have hD : va_D A [(ro, .inl (cA, 60, .inl (aN fro))), (ra, .inr (3, [.ref al, .ref be])), (al, .inl (cA, 8, .inl (aN fal))), (be, .inl (cA, 448, .inl (aN fbe))), (lc, .inr (5, [.ref ra, .ref sa, .ref fa, .ref ve, .ref lk, .ref jo, .ref ba, .ref ro, .int (nI nc), .int (nI rc)]))] := hD
  have hP : va_P D vwCl [(lc, .inr (5, [.ref ra, .ref sa, .ref fa, .ref ve, .ref lk, .ref jo, .ref ba, .ref ro, .int (nI nc), .int (nI rc)])), (ro, .inl (cA, 60, .inl (aN fro))), (ra, .inr (3, [.ref al, .ref be])), (al, .inl (cA, 8, .inl (aN fal))), (be, .inl (cA, 448, .inl (aN fbe)))] H := hP.sub [4, 0, 1, 2, 3] rfl
  have hD : va_D A [(lc, .inr (5, [.ref ra, .ref sa, .ref fa, .ref ve, .ref lk, .ref jo, .ref ba, .ref ro, .int (nI nc), .int (nI rc)])), (ro, .inl (cA, 60, .inl (aN fro))), (ra, .inr (3, [.ref al, .ref be])), (al, .inl (cA, 8, .inl (aN fal))), (be, .inl (cA, 448, .inl (aN fbe)))] := hD.sub [4, 0, 1, 2, 3] (by decide) rfl
  refine nn_if_eq (tgt := 16) hx hb dX3_group_5 (by decide) if01_lt (fun c_5 => ?_) (fun c_5 => ?_)
  · have c_5 := if01_eq c_5
    refine lv_iconst (v := -1) hx hb dX3_group_16 (by decide) ?_
    have eF : (grpF p0 p1 nc rc fal fbe fro) = ((-1), fal, fbe, fro, rc) := by unfold grpF; (repeat' (first | rfl | contradiction | split))
    have eW : ([(lc, .inr (5, [.ref ra, .ref sa, .ref fa, .ref ve, .ref lk, .ref jo, .ref ba, .ref ro, .int (nI nc), .int (nI rc)])), (ro, .inl (cA, 60, .inl (aN fro))), (ra, .inr (3, [.ref al, .ref be])), (al, .inl (cA, 8, .inl (aN fal))), (be, .inl (cA, 448, .inl (aN fbe)))] : va_W) = [(lc, .inr (5, [.ref ra, .ref sa, .ref fa, .ref ve, .ref lk, .ref jo, .ref ba, .ref ro, .int (nI nc), .int (nI ((grpF p0 p1 nc rc fal fbe fro).2.2.2.2))])), (ro, .inl (cA, 60, .inl (aN ((grpF p0 p1 nc rc fal fbe fro).2.2.2.1)))), (ra, .inr (3, [.ref al, .ref be])), (al, .inl (cA, 8, .inl (aN ((grpF p0 p1 nc rc fal fbe fro).2.1)))), (be, .inl (cA, 448, .inl (aN ((grpF p0 p1 nc rc fal fbe fro).2.2.1))))] := by rw [eF]
    rw [eW] at hP hD
    exact W.iret (v := (-1)) hx hb hr (fun t ht hW => ⟨⟨(-1), (), rfl, (by rw [eF]), by rw [ht]; exact hP, hD⟩, hS.F ht⟩) hS.2.2 dX3_group_17
  · have c_5 := if01_ne c_5
    refine lv_aload_n hx hb dX3_group_8 rfl (lv_at hl 0 rfl) ?_
    refine lv_iload_n hx hb dX3_group_9 rfl (lv_at hl 2 rfl) ?_
    refine zz_callI (av := []) (wc := [(lc, .inr (5, [.ref ra, .ref sa, .ref fa, .ref ve, .ref lk, .ref jo, .ref ba, .ref ro, .int (nI nc), .int (nI rc)]))]) (wr := [(ro, .inl (cA, 60, .inl (aN fro))), (ra, .inr (3, [.ref al, .ref be])), (al, .inl (cA, 8, .inl (aN fal))), (be, .inl (cA, 448, .inl (aN fbe)))]) hS hA hP hD [0] [1, 2, 3, 4] rfl rfl (by decide) (by decide) (va_runV (As := [.int p1]) (rest := []) ⟨hx, hb, hml, hown, hts⟩ (kX3_isName l D cA H.size lc ra sa fa ve lk jo ba ro nc rc p1 (by omega)) (cwV 1 hts gX3_group_X3_isName rfl rfl rfl (by decide +kernel) ⟨Nat.le_of_ble_eq_true rfl, Nat.le_of_ble_eq_true rfl⟩) ⟨(zPreS (av := [.ref lc, .int p1]) (wc := [(lc, .inr (5, [.ref ra, .ref sa, .ref fa, .ref ve, .ref lk, .ref jo, .ref ba, .ref ro, .int (nI nc), .int (nI rc)]))]) hK hP hD [0] rfl (by decide) rfl).1, (va_recv hK.1 hP (ci := 5) (q0 := 0) rfl rfl), (zPreS (av := [.ref lc, .int p1]) (wc := [(lc, .inr (5, [.ref ra, .ref sa, .ref fa, .ref ve, .ref lk, .ref jo, .ref ba, .ref ro, .int (nI nc), .int (nI rc)]))]) hK hP hD [0] rfl (by decide) rfl).2⟩ rfl rfl hl.1 rfl (lv_room (Nat.le_of_ble_eq_true rfl)) dX3_group_10 ⟨Nat.zero_le _, Nat.zero_le _⟩) (fun H locs hP hD hS => ?_)
    have hP : va_P D vwCl [(ro, .inl (cA, 60, .inl (aN fro))), (ra, .inr (3, [.ref al, .ref be])), (al, .inl (cA, 8, .inl (aN fal))), (be, .inl (cA, 448, .inl (aN fbe))), (lc, .inr (5, [.ref ra, .ref sa, .ref fa, .ref ve, .ref lk, .ref jo, .ref ba, .ref ro, .int (nI nc), .int (nI rc)]))] H := hP
    have hD : va_D A [(ro, .inl (cA, 60, .inl (aN fro))), (ra, .inr (3, [.ref al, .ref be])), (al, .inl (cA, 8, .inl (aN fal))), (be, .inl (cA, 448, .inl (aN fbe))), (lc, .inr (5, [.ref ra, .ref sa, .ref fa, .ref ve, .ref lk, .ref jo, .ref ba, .ref ro, .int (nI nc), .int (nI rc)]))] := hD
    have hP : va_P D vwCl [(lc, .inr (5, [.ref ra, .ref sa, .ref fa, .ref ve, .ref lk, .ref jo, .ref ba, .ref ro, .int (nI nc), .int (nI rc)])), (ro, .inl (cA, 60, .inl (aN fro))), (ra, .inr (3, [.ref al, .ref be])), (al, .inl (cA, 8, .inl (aN fal))), (be, .inl (cA, 448, .inl (aN fbe)))] H := hP.sub [4, 0, 1, 2, 3] rfl
    have hD : va_D A [(lc, .inr (5, [.ref ra, .ref sa, .ref fa, .ref ve, .ref lk, .ref jo, .ref ba, .ref ro, .int (nI nc), .int (nI rc)])), (ro, .inl (cA, 60, .inl (aN fro))), (ra, .inr (3, [.ref al, .ref be])), (al, .inl (cA, 8, .inl (aN fal))), (be, .inl (cA, 448, .inl (aN fbe)))] := hD.sub [4, 0, 1, 2, 3] (by decide) rfl
    refine nn_if_ne (tgt := 18) hx hb dX3_group_13 (by decide) if01_lt (fun c_13 => ?_) (fun c_13 => ?_)
    · have c_13 := if01_ne c_13
      have e1 := toN_eq (c_5).1
      have b1 : toN p0 < nc := isN_lt (by omega) c_5
      have hl : lv_has ls 4 [(0, .ref lc), (1, .int (nI (toN p0))), (2, .int p1)] := by rw [← e1]; exact hl
      have e2 := toN_eq (c_13).1
      have b2 : toN p1 < nc := isN_lt (by omega) c_13
      have hl : lv_has ls 4 [(0, .ref lc), (1, .int (nI (toN p0))), (2, .int (nI (toN p1)))] := by rw [← e2]; exact hl
      refine lv_iload_n hx hb dX3_group_18 rfl (lv_at hl 1 rfl) ?_
      refine lv_iload_n hx hb dX3_group_19 rfl (lv_at hl 2 rfl) ?_
      refine nn_icmp_ne (tgt := 26) hx hb dX3_group_20 (by decide) (by omega) (by omega) (fun c_20 => ?_) (fun c_20 => ?_)
      · refine lv_aload_n hx hb dX3_group_26 rfl (lv_at hl 0 rfl) ?_
        refine va_get (D := D) (ci := 5) (v := .int (nI rc)) (C := RX3) (T := TX3) (N := 10) hx hb hts inX3_group_X3 hown hK.1 hP 0 rfl rfl 9 (by decide) (hts _ lkX3_group_52) (fun _ h9 => h9) rfl dX3_group_27 ?_
        refine lv_bipush (v := nI 60) hx hb dX3_group_30 (by decide) ?_
        refine nn_icmp_lt (tgt := 38) hx hb dX3_group_32 (by decide) (by omega) (by omega) (fun c_32 => ?_) (fun c_32 => ?_)
        · refine lv_iconst (v := nI 1) hx hb dX3_group_38 (by decide) ?_
          refine lv_istore_n (lv' := [(3, .int (nI 1)), (0, .ref lc), (1, .int (nI (toN p0))), (2, .int (nI (toN p1)))]) hx hb dX3_group_39 rfl hl (by decide) rfl (fun ls hl => ?_)
          refine bX3_group hx hb hml hown hts hK hA lc ra sa fa ve lk jo ba ro al be nc rc fro (toN p0) (toN p1) (by omega) (by omega) (Nat.le_of_ble_eq_true rfl) (Nat.le_of_ble_eq_true rfl) 6 1 (fal, fbe) (by omega) _ _ ls hP hD hS (lv_sub hl [1, 2, 3, 0] rfl) (fun H locs ls hP hD hS hl => ?_)
          refine lv_aload_n hx hb dX3_group_67 rfl (lv_at hl 0 rfl) ?_
          refine lv_iconst (v := nI 3) hx hb dX3_group_68 (by decide) ?_
          refine lv_iload_n hx hb dX3_group_69 rfl (lv_at hl 1 rfl) ?_
          refine lv_iconst (v := nI 0) hx hb dX3_group_70 (by decide) ?_
          refine lv_iload_n hx hb dX3_group_71 rfl (lv_at hl 2 rfl) ?_
          refine zz_callI (av := []) (wc := [(lc, .inr (5, [.ref ra, .ref sa, .ref fa, .ref ve, .ref lk, .ref jo, .ref ba, .ref ro, .int (nI nc), .int (nI rc)])), (ro, .inl (cA, 60, .inl (aN fro)))]) (wr := [(ra, .inr (3, [.ref al, .ref be])), (al, .inl (cA, 8, .inl (aN ((zlp (grBody (toN p0) (toN p1)) 6 1 (fal, fbe)).1)))), (be, .inl (cA, 448, .inl (aN ((zlp (grBody (toN p0) (toN p1)) 6 1 (fal, fbe)).2))))]) hS hA hP hD [0, 1] [2, 3, 4] rfl rfl (by decide) (by decide) (va_runV (As := [.int (nI 3), .int (nI (toN p0)), .int (nI 0), .int (nI (toN p1))]) (rest := []) ⟨hx, hb, hml, hown, hts⟩ (kX3_addRow l D cA H.size lc ra sa fa ve lk jo ba ro nc rc fro 3 (toN p0) 0 (toN p1) (by omega)) (cwV 4 hts gX3_group_X3_addRow rfl rfl rfl (by decide +kernel) ⟨Nat.le_of_ble_eq_true rfl, Nat.le_of_ble_eq_true rfl⟩) ⟨(zPreS (av := [.ref lc, .int (nI 3), .int (nI (toN p0)), .int (nI 0), .int (nI (toN p1))]) (wc := [(lc, .inr (5, [.ref ra, .ref sa, .ref fa, .ref ve, .ref lk, .ref jo, .ref ba, .ref ro, .int (nI nc), .int (nI rc)])), (ro, .inl (cA, 60, .inl (aN fro)))]) hK hP hD [0, 1] rfl (by decide) rfl).1, (va_recv hK.1 hP (ci := 5) (q0 := 0) rfl rfl), (zPreS (av := [.ref lc, .int (nI 3), .int (nI (toN p0)), .int (nI 0), .int (nI (toN p1))]) (wc := [(lc, .inr (5, [.ref ra, .ref sa, .ref fa, .ref ve, .ref lk, .ref jo, .ref ba, .ref ro, .int (nI nc), .int (nI rc)])), (ro, .inl (cA, 60, .inl (aN fro)))]) hK hP hD [0, 1] rfl (by decide) rfl).2⟩ rfl rfl hl.1 rfl (lv_room (Nat.le_of_ble_eq_true rfl)) dX3_group_72 ⟨Nat.zero_le _, Nat.zero_le _⟩) (fun H locs hP hD hS => ?_)
          have hP : va_P D vwCl [(ra, .inr (3, [.ref al, .ref be])), (al, .inl (cA, 8, .inl (aN ((zlp (grBody (toN p0) (toN p1)) 6 1 (fal, fbe)).1)))), (be, .inl (cA, 448, .inl (aN ((zlp (grBody (toN p0) (toN p1)) 6 1 (fal, fbe)).2)))), (lc, .inr (5, [.ref ra, .ref sa, .ref fa, .ref ve, .ref lk, .ref jo, .ref ba, .ref ro, .int (nI nc), .int (nI (rc + 1))])), (ro, .inl (cA, 60, .inl (aN (va_up fro rc (((3 * 8 + (toN p0)) * 8 + 0) * 8 + (toN p1))))))] H := hP
          have hD : va_D A [(ra, .inr (3, [.ref al, .ref be])), (al, .inl (cA, 8, .inl (aN ((zlp (grBody (toN p0) (toN p1)) 6 1 (fal, fbe)).1)))), (be, .inl (cA, 448, .inl (aN ((zlp (grBody (toN p0) (toN p1)) 6 1 (fal, fbe)).2)))), (lc, .inr (5, [.ref ra, .ref sa, .ref fa, .ref ve, .ref lk, .ref jo, .ref ba, .ref ro, .int (nI nc), .int (nI (rc + 1))])), (ro, .inl (cA, 60, .inl (aN (va_up fro rc (((3 * 8 + (toN p0)) * 8 + 0) * 8 + (toN p1))))))] := hD
          have hP : va_P D vwCl [(lc, .inr (5, [.ref ra, .ref sa, .ref fa, .ref ve, .ref lk, .ref jo, .ref ba, .ref ro, .int (nI nc), .int (nI (rc + 1))])), (ro, .inl (cA, 60, .inl (aN (va_up fro rc (((3 * 8 + (toN p0)) * 8 + 0) * 8 + (toN p1)))))), (ra, .inr (3, [.ref al, .ref be])), (al, .inl (cA, 8, .inl (aN ((zlp (grBody (toN p0) (toN p1)) 6 1 (fal, fbe)).1)))), (be, .inl (cA, 448, .inl (aN ((zlp (grBody (toN p0) (toN p1)) 6 1 (fal, fbe)).2))))] H := hP.sub [3, 4, 0, 1, 2] rfl
          have hD : va_D A [(lc, .inr (5, [.ref ra, .ref sa, .ref fa, .ref ve, .ref lk, .ref jo, .ref ba, .ref ro, .int (nI nc), .int (nI (rc + 1))])), (ro, .inl (cA, 60, .inl (aN (va_up fro rc (((3 * 8 + (toN p0)) * 8 + 0) * 8 + (toN p1)))))), (ra, .inr (3, [.ref al, .ref be])), (al, .inl (cA, 8, .inl (aN ((zlp (grBody (toN p0) (toN p1)) 6 1 (fal, fbe)).1)))), (be, .inl (cA, 448, .inl (aN ((zlp (grBody (toN p0) (toN p1)) 6 1 (fal, fbe)).2))))] := hD.sub [3, 4, 0, 1, 2] (by decide) rfl
          have eF : (grpF p0 p1 nc rc fal fbe fro) = ((nI rc), (zlp (grBody (toN p0) (toN p1)) 6 1 (fal, fbe)).1, (zlp (grBody (toN p0) (toN p1)) 6 1 (fal, fbe)).2, va_up fro rc (((3 * 8 + (toN p0)) * 8 + 0) * 8 + (toN p1)), rc + 1) := by unfold grpF; (repeat' (first | rfl | contradiction | split))
          have eW : ([(lc, .inr (5, [.ref ra, .ref sa, .ref fa, .ref ve, .ref lk, .ref jo, .ref ba, .ref ro, .int (nI nc), .int (nI (rc + 1))])), (ro, .inl (cA, 60, .inl (aN (va_up fro rc (((3 * 8 + (toN p0)) * 8 + 0) * 8 + (toN p1)))))), (ra, .inr (3, [.ref al, .ref be])), (al, .inl (cA, 8, .inl (aN ((zlp (grBody (toN p0) (toN p1)) 6 1 (fal, fbe)).1)))), (be, .inl (cA, 448, .inl (aN ((zlp (grBody (toN p0) (toN p1)) 6 1 (fal, fbe)).2))))] : va_W) = [(lc, .inr (5, [.ref ra, .ref sa, .ref fa, .ref ve, .ref lk, .ref jo, .ref ba, .ref ro, .int (nI nc), .int (nI ((grpF p0 p1 nc rc fal fbe fro).2.2.2.2))])), (ro, .inl (cA, 60, .inl (aN ((grpF p0 p1 nc rc fal fbe fro).2.2.2.1)))), (ra, .inr (3, [.ref al, .ref be])), (al, .inl (cA, 8, .inl (aN ((grpF p0 p1 nc rc fal fbe fro).2.1)))), (be, .inl (cA, 448, .inl (aN ((grpF p0 p1 nc rc fal fbe fro).2.2.1))))] := by rw [eF]
          rw [eW] at hP hD
          exact W.iret (v := (nI rc)) hx hb hr (fun t ht hW => ⟨⟨(nI rc), (), rfl, (by rw [eF]), by rw [ht]; exact hP, hD⟩, hS.F ht⟩) hS.2.2 dX3_group_75
        · refine lv_bipush (v := -4) hx hb dX3_group_35 (by decide) ?_
          have eF : (grpF p0 p1 nc rc fal fbe fro) = ((-4), fal, fbe, fro, rc) := by unfold grpF; (repeat' (first | rfl | contradiction | split))
          have eW : ([(lc, .inr (5, [.ref ra, .ref sa, .ref fa, .ref ve, .ref lk, .ref jo, .ref ba, .ref ro, .int (nI nc), .int (nI rc)])), (ro, .inl (cA, 60, .inl (aN fro))), (ra, .inr (3, [.ref al, .ref be])), (al, .inl (cA, 8, .inl (aN fal))), (be, .inl (cA, 448, .inl (aN fbe)))] : va_W) = [(lc, .inr (5, [.ref ra, .ref sa, .ref fa, .ref ve, .ref lk, .ref jo, .ref ba, .ref ro, .int (nI nc), .int (nI ((grpF p0 p1 nc rc fal fbe fro).2.2.2.2))])), (ro, .inl (cA, 60, .inl (aN ((grpF p0 p1 nc rc fal fbe fro).2.2.2.1)))), (ra, .inr (3, [.ref al, .ref be])), (al, .inl (cA, 8, .inl (aN ((grpF p0 p1 nc rc fal fbe fro).2.1)))), (be, .inl (cA, 448, .inl (aN ((grpF p0 p1 nc rc fal fbe fro).2.2.1))))] := by rw [eF]
          rw [eW] at hP hD
          exact W.iret (v := (-4)) hx hb hr (fun t ht hW => ⟨⟨(-4), (), rfl, (by rw [eF]), by rw [ht]; exact hP, hD⟩, hS.F ht⟩) hS.2.2 dX3_group_37
      · refine lv_bipush (v := -2) hx hb dX3_group_23 (by decide) ?_
        have eF : (grpF p0 p1 nc rc fal fbe fro) = ((-2), fal, fbe, fro, rc) := by unfold grpF; (repeat' (first | rfl | contradiction | split))
        have eW : ([(lc, .inr (5, [.ref ra, .ref sa, .ref fa, .ref ve, .ref lk, .ref jo, .ref ba, .ref ro, .int (nI nc), .int (nI rc)])), (ro, .inl (cA, 60, .inl (aN fro))), (ra, .inr (3, [.ref al, .ref be])), (al, .inl (cA, 8, .inl (aN fal))), (be, .inl (cA, 448, .inl (aN fbe)))] : va_W) = [(lc, .inr (5, [.ref ra, .ref sa, .ref fa, .ref ve, .ref lk, .ref jo, .ref ba, .ref ro, .int (nI nc), .int (nI ((grpF p0 p1 nc rc fal fbe fro).2.2.2.2))])), (ro, .inl (cA, 60, .inl (aN ((grpF p0 p1 nc rc fal fbe fro).2.2.2.1)))), (ra, .inr (3, [.ref al, .ref be])), (al, .inl (cA, 8, .inl (aN ((grpF p0 p1 nc rc fal fbe fro).2.1)))), (be, .inl (cA, 448, .inl (aN ((grpF p0 p1 nc rc fal fbe fro).2.2.1))))] := by rw [eF]
        rw [eW] at hP hD
        exact W.iret (v := (-2)) hx hb hr (fun t ht hW => ⟨⟨(-2), (), rfl, (by rw [eF]), by rw [ht]; exact hP, hD⟩, hS.F ht⟩) hS.2.2 dX3_group_25
    · have c_13 := if01_eq c_13
      refine lv_iconst (v := -1) hx hb dX3_group_16 (by decide) ?_
      have eF : (grpF p0 p1 nc rc fal fbe fro) = ((-1), fal, fbe, fro, rc) := by unfold grpF; (repeat' (first | rfl | contradiction | split))
      have eW : ([(lc, .inr (5, [.ref ra, .ref sa, .ref fa, .ref ve, .ref lk, .ref jo, .ref ba, .ref ro, .int (nI nc), .int (nI rc)])), (ro, .inl (cA, 60, .inl (aN fro))), (ra, .inr (3, [.ref al, .ref be])), (al, .inl (cA, 8, .inl (aN fal))), (be, .inl (cA, 448, .inl (aN fbe)))] : va_W) = [(lc, .inr (5, [.ref ra, .ref sa, .ref fa, .ref ve, .ref lk, .ref jo, .ref ba, .ref ro, .int (nI nc), .int (nI ((grpF p0 p1 nc rc fal fbe fro).2.2.2.2))])), (ro, .inl (cA, 60, .inl (aN ((grpF p0 p1 nc rc fal fbe fro).2.2.2.1)))), (ra, .inr (3, [.ref al, .ref be])), (al, .inl (cA, 8, .inl (aN ((grpF p0 p1 nc rc fal fbe fro).2.1)))), (be, .inl (cA, 448, .inl (aN ((grpF p0 p1 nc rc fal fbe fro).2.2.1))))] := by rw [eF]
      rw [eW] at hP hD
      exact W.iret (v := (-1)) hx hb hr (fun t ht hW => ⟨⟨(-1), (), rfl, (by rw [eF]), by rw [ht]; exact hP, hD⟩, hS.F ht⟩) hS.2.2 dX3_group_17
end
