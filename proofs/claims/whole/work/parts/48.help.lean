theorem tieAl_pt {na cd ot cs n : Nat} {f f' : Nat → Nat} (h : f n = f' n) : tieAl na cd ot cs f n = tieAl na cd ot cs f' n := by
  unfold tieAl
  split
  · split
    · rw [va_up_at, va_up_at]
      split
      · next q => rw [← q, h]
      · exact h
    · exact h
  · exact h
theorem tieBody_pt {na cd ot cs i j : Nat} {f f' : Nat → Nat} (h : f j = f' j) : tieBody na cd ot cs i f j = tieBody na cd ot cs i f' j := by
  unfold tieBody
  split
  · rw [va_up_at, va_up_at]
    split
    · next q => rw [← q, h]
    · exact h
  · exact h
theorem zlp_pt {body : Nat → (Nat → Nat) → Nat → Nat} {j : Nat} (hb : ∀ i f f', f j = f' j → body i f j = body i f' j) : ∀ k i f f', f j = f' j → zlp body k i f j = zlp body k i f' j := by
  intro k
  induction k with
  | zero => intro i f f' h; exact h
  | succ k ih => intro i f f' h; exact ih (i + 1) _ _ (hb i f f' h)
theorem tieBe_pt {na cd ot cs j : Nat} {f f' : Nat → Nat} (h : f j = f' j) : tieBe na cd ot cs f j = tieBe na cd ot cs f' j := by
  unfold tieBe
  split
  · exact h
  · refine zlp_pt (body := tieBody na cd ot cs) (fun i f f' h => tieBody_pt h) 7 0 _ _ ?_
    rw [va_up_at, va_up_at]
    split
    · next q => rw [← q, h]
    · exact h
theorem grBe_pt {a b j : Nat} {f f' : Nat → Nat} (h : f j = f' j) : grBe a b f j = grBe a b f' j := zlp_pt (body := fun i f => tieBe a i b (1 ||| (1 <<< i)) f) (fun _ _ _ h => tieBe_pt h) 6 1 _ _ h
theorem alS_pt {gki gfi gat gse gst : Nat → Nat} {r n : Nat} {f f' : Nat → Nat} (h : f n = f' n) : alS gki gfi gat gse gst r f n = alS gki gfi gat gse gst r f' n := by
  unfold alS
  split
  · exact tieAl_pt h
  · split
    · rw [va_up_at, va_up_at]
      split
      · next q => rw [← q, h]
      · exact h
    · split
      · rw [va_up_at, va_up_at]
        split
        · next q => rw [← q, h]
        · exact h
      · exact h
theorem alR_gve {gve gve' gki gfi gat gse gst : Nat → Nat} {n : Nat} (mr : Nat) (h : gve n = gve' n) : alR gve gki gfi gat gse gst mr n = alR gve' gki gfi gat gse gst mr n := zlp_pt (body := alS gki gfi gat gse gst) (fun _ _ _ h => alS_pt h) mr 0 _ _ (by show (2 <<< gve n) - 1 = (2 <<< gve' n) - 1; rw [h])
theorem alR_free {gve gki gfi gat gse gst : Nat → Nat} {n : Nat} : ∀ mr, (∀ r, r < mr → ¬ n = gfi r) → alR gve gki gfi gat gse gst mr n = (2 <<< gve n) - 1 := by
  intro mr
  induction mr with
  | zero => intro _; rfl
  | succ r ih =>
    intro h
    unfold alR at ih ⊢
    rw [zlp_last, Nat.zero_add]
    have hn := h r (by omega)
    have hi := ih (fun r' hr' => h r' (by omega))
    generalize zlp (alS gki gfi gat gse gst) r 0 (fun n => (2 <<< gve n) - 1) = G at hi ⊢
    unfold alS tieAl
    repeat' split
    all_goals first | exact hi | (rw [va_up_at, if_neg hn]; exact hi)
theorem zlp_rows {σ : Type} {b b' : Nat → σ → σ} : ∀ k i x, (∀ r, i ≤ r → r < i + k → ∀ y, b r y = b' r y) → zlp b k i x = zlp b' k i x := by
  intro k
  induction k with
  | zero => intro i x _; rfl
  | succ k ih =>
    intro i x h
    show zlp b k (i + 1) (b i x) = zlp b' k (i + 1) (b' i x)
    rw [h i (Nat.le_refl _) (by omega), ih (i + 1) _ (fun r h1 h2 => h r (by omega) (by omega))]
theorem up_ne {f : Nat → Nat} {i v j : Nat} (h : j < i) : va_up f i v j = f j := by rw [va_up_at, if_neg (by omega)]
theorem alR_push {gve gki gfi gat gse gst : Nat → Nat} {mr kd a v b st : Nat} : alR gve (va_up gki mr kd) (va_up gfi mr a) (va_up gat mr v) (va_up gse mr b) (va_up gst mr st) (mr + 1) =
    (if kd = 0 then tieAl a (v + 1) b (2 * st) (alR gve gki gfi gat gse gst mr) else if kd = 1 then va_up (alR gve gki gfi gat gse gst mr) a ((alR gve gki gfi gat gse gst mr a) &&& (2 * st)) else if kd = 2 then va_up (alR gve gki gfi gat gse gst mr) a ((alR gve gki gfi gat gse gst mr a) &&& ((2 * st) ||| 1)) else alR gve gki gfi gat gse gst mr) := by
  unfold alR
  rw [zlp_last, Nat.zero_add, zlp_rows (b := alS (va_up gki mr kd) (va_up gfi mr a) (va_up gat mr v) (va_up gse mr b) (va_up gst mr st)) (b' := alS gki gfi gat gse gst) mr 0 _ (fun r _ hr y => by
    unfold alS
    rw [up_ne (by omega), up_ne (by omega), up_ne (by omega), up_ne (by omega), up_ne (by omega)])]
  show alS (va_up gki mr kd) (va_up gfi mr a) (va_up gat mr v) (va_up gse mr b) (va_up gst mr st) mr _ = _
  unfold alS
  rw [va_up_self, va_up_self, va_up_self, va_up_self, va_up_self]
theorem beR_push {gki gfi gat gse gst : Nat → Nat} {mr kd a v b st : Nat} : beR (va_up gki mr kd) (va_up gfi mr a) (va_up gat mr v) (va_up gse mr b) (va_up gst mr st) (mr + 1) =
    (if kd = 0 then tieBe a (v + 1) b (2 * st) (beR gki gfi gat gse gst mr) else if kd = 3 then grBe a b (beR gki gfi gat gse gst mr) else beR gki gfi gat gse gst mr) := by
  unfold beR
  rw [zlp_last, Nat.zero_add, zlp_rows (b := beS (va_up gki mr kd) (va_up gfi mr a) (va_up gat mr v) (va_up gse mr b) (va_up gst mr st)) (b' := beS gki gfi gat gse gst) mr 0 _ (fun r _ hr y => by
    unfold beS
    rw [up_ne (by omega), up_ne (by omega), up_ne (by omega), up_ne (by omega), up_ne (by omega)])]
  show beS (va_up gki mr kd) (va_up gfi mr a) (va_up gat mr v) (va_up gse mr b) (va_up gst mr st) mr _ = _
  unfold beS
  rw [va_up_self, va_up_self, va_up_self, va_up_self, va_up_self]
theorem up_ltn {f g : Nat → Nat} {N i v w : Nat} (h : ∀ j, j < N → f j = g j) (hv : v = w) (hi : i = N) : ∀ j, j < N + 1 → va_up f i v j = va_up g i w j := by
  intro j hj
  rw [va_up_at, va_up_at]
  split
  · exact hv
  · exact h j (by omega)
set_option maxRecDepth 100000 in
theorem dig_off : ∀ g, g < 64 → ∀ c, c < 6 → (2 * g) &&& ((1 <<< (c + 1)) ^^^ 4294967295) = 2 * (g &&& ((1 <<< c) ^^^ 4294967295)) ∧ g &&& ((1 <<< c) ^^^ 4294967295) < 64 := by decide +kernel
theorem dig_on : ∀ g, g < 64 → ∀ c, c < 6 → (2 * g) ||| (1 <<< (c + 1)) = 2 * (g ||| (1 <<< c)) ∧ g ||| (1 <<< c) < 64 := by decide +kernel
theorem lo6_0 : lo6 0 = 0 := by decide
