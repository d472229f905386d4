/-! pure: the rows as the class holds them and as the reference reads them -/
theorem zlp_last {σ : Type} (body : Nat → σ → σ) : ∀ k i x, zlp body (k + 1) i x = body (i + k) (zlp body k i x) := by
  intro k
  induction k with
  | zero => intro i x; rfl
  | succ k ih =>
    intro i x
    show zlp body (k + 1) (i + 1) (body i x) = _
    rw [ih (i + 1) (body i x), show i + 1 + k = i + (k + 1) by omega]
    rfl
def grBe (a b : Nat) (f : Nat → Nat) : Nat → Nat := zlp (fun i f => tieBe a i b (1 ||| (1 <<< i)) f) 6 1 f
theorem grBody_2 (a b : Nat) : ∀ k i (y : (Nat → Nat) × (Nat → Nat)), (zlp (grBody a b) k i y).2 = zlp (fun i f => tieBe a i b (1 ||| (1 <<< i)) f) k i y.2 := by
  intro k
  induction k with
  | zero => intro i y; rfl
  | succ k ih => intro i y; exact ih (i + 1) _
theorem grBody_1 {a b : Nat} (h : ¬ a = b) : ∀ k i (y : (Nat → Nat) × (Nat → Nat)), (zlp (grBody a b) k i y).1 = y.1 := by
  intro k
  induction k with
  | zero => intro i y; rfl
  | succ k ih =>
    intro i y
    refine (ih (i + 1) _).trans ?_
    show tieAl a i b _ y.1 = y.1
    unfold tieAl
    rw [if_neg h]
def alS (gki gfi gat gse gst : Nat → Nat) : Nat → (Nat → Nat) → Nat → Nat := fun r f =>
  if gki r = 0 then tieAl (gfi r) (gat r + 1) (gse r) (2 * gst r) f else if gki r = 1 then va_up f (gfi r) ((f (gfi r)) &&& (2 * gst r)) else if gki r = 2 then va_up f (gfi r) ((f (gfi r)) &&& ((2 * gst r) ||| 1)) else f
def beS (gki gfi gat gse gst : Nat → Nat) : Nat → (Nat → Nat) → Nat → Nat := fun r f =>
  if gki r = 0 then tieBe (gfi r) (gat r + 1) (gse r) (2 * gst r) f else if gki r = 3 then grBe (gfi r) (gse r) f else f
def alR (gve gki gfi gat gse gst : Nat → Nat) (mr : Nat) : Nat → Nat := zlp (alS gki gfi gat gse gst) mr 0 (fun n => (2 <<< gve n) - 1)
def beR (gki gfi gat gse gst : Nat → Nat) (mr : Nat) : Nat → Nat := zlp (beS gki gfi gat gse gst) mr 0 (fun _ => 127)
set_option maxRecDepth 100000 in
theorem toM_and : ∀ a, a < 128 → ∀ b, b < 128 → toM (a &&& b) = toM a &&& toM b := by decide +kernel
theorem toM_and' {a b : Nat} (ha : a < 128) (hb : b < 128) : toM (a &&& b) = toM a &&& toM b := toM_and a ha b hb
theorem toM_st : ∀ st, st < 64 → toM (2 * st) = st ∧ 2 * st < 128 ∧ toM ((2 * st) ||| 1) = st ||| 64 ∧ (2 * st) ||| 1 < 128 := by decide +kernel
set_option maxRecDepth 100000 in
theorem toM_off : ∀ c, c < 128 → ∀ a, a < 6 → toM (c &&& ((1 <<< (a + 1)) ^^^ 4294967295)) = toM c &&& ((1 <<< a) ^^^ 4294967295) := by decide +kernel
theorem st_bit : ∀ st, st < 64 → ∀ a, a < 6 → ((2 * st) >>> (a + 1)) &&& 1 = (st >>> a) &&& 1 := by decide +kernel
theorem st_bitv : ∀ st, st < 64 → ∀ v, v < 7 → (((2 * st) >>> gvC v) &&& 1 = 0 ↔ (v = 6 ∨ (st >>> v) &&& 1 = 0)) := by decide +kernel
theorem bg_init : ∀ ve, ve < 7 → ∀ ba, ba < 64 → ((((1 <<< ve) - 1) &&& (ba ^^^ 4294967295)) ||| 64) = toM (((2 <<< ve) - 1) &&& ((2 * ba) ^^^ 4294967295)) ∧ (2 <<< ve) - 1 < 128 := by decide +kernel
theorem bgN_at (gve gba : Nat → Nat) : ∀ k i f n, zlp (bgN gve gba) k i f n = if i ≤ n ∧ n < i + k then ((((1 <<< gve n) - 1) &&& (gba n ^^^ 4294967295)) ||| 64) else f n := by
  intro k
  induction k with
  | zero => intro i f n; rw [if_neg (by omega)]; rfl
  | succ k ih =>
    intro i f n
    show zlp (bgN gve gba) k (i + 1) (bgN gve gba i f) n = _
    rw [ih]
    by_cases h1 : i + 1 ≤ n ∧ n < i + 1 + k
    · rw [if_pos h1, if_pos (by omega)]
    · rw [if_neg h1]
      unfold bgN va_up
      by_cases h2 : n = i
      · rw [if_pos h2, if_pos (by omega), h2]
      · rw [if_neg h2, if_neg (by omega)]
theorem alS_lt {gki gfi gat gse gst : Nat → Nat} {r : Nat} {f : Nat → Nat} (h : ∀ j, f j < 128) : ∀ j, alS gki gfi gat gse gst r f j < 128 := by
  unfold alS tieAl
  repeat' split
  all_goals first | exact h | exact up_lt h (and_lt128 (h _))
theorem alR_lt {gve gki gfi gat gse gst : Nat → Nat} (hve : ∀ j, gve j ≤ 6) (mr : Nat) : ∀ j, alR gve gki gfi gat gse gst mr j < 128 :=
  zlp_inv (P := fun f : Nat → Nat => ∀ j, f j < 128) (fun _ _ hf => alS_lt hf) mr 0 _ (fun j => (bg_init (gve j) (by have := hve j; omega) 0 (by decide)).2)
theorem va_up_at {f : Nat → Nat} {i v j : Nat} : va_up f i v j = if j = i then v else f j := rfl
theorem and_swap (a m nb : Nat) : (a &&& m) &&& nb = (a &&& nb) &&& m := by rw [Nat.and_assoc, Nat.and_comm m, ← Nat.and_assoc]
/-- begin: what each name may be given alone -/
theorem begin_at {gve gba gki gfi gat gse gst : Nat → Nat} {mn mr : Nat} (hve : ∀ j, gve j ≤ 6) (hba : ∀ j, gba j < 64) (hst : ∀ j, gst j < 64) (hat : ∀ j, gat j < 6) (lf : Nat → Nat) : ∀ n, n < mn → beginF mn mr gve gba gki gfi gat gse gst lf n = toM ((alR gve gki gfi gat gse gst mr n) &&& ((2 * gba n) ^^^ 4294967295)) := by
  intro n hn
  unfold beginF
  have hall : ∀ r, zlp (bgRow gki gfi gat gse gst) r 0 (zlp (bgN gve gba) mn 0 lf) n = toM ((alR gve gki gfi gat gse gst r n) &&& ((2 * gba n) ^^^ 4294967295)) := by
    intro r
    induction r with
    | zero =>
      show zlp (bgN gve gba) mn 0 lf n = _
      rw [bgN_at, if_pos (by omega), (bg_init (gve n) (by have := hve n; omega) (gba n) (hba n)).1]
      rfl
    | succ r ih =>
      unfold alR at ih ⊢
      rw [zlp_last, zlp_last, Nat.zero_add]
      generalize hF : zlp (bgRow gki gfi gat gse gst) r 0 (zlp (bgN gve gba) mn 0 lf) = F at ih ⊢
      have hlt := alR_lt (gki := gki) (gfi := gfi) (gat := gat) (gse := gse) (gst := gst) hve r n
      unfold alR at hlt
      generalize hG : zlp (alS gki gfi gat gse gst) r 0 (fun n => (2 <<< gve n) - 1) = G at ih hlt ⊢
      have hst' := toM_st (gst r) (hst r)
      unfold bgRow bg3 bg2 bg1 alS tieAl
      by_cases k1 : gki r = 1
      · rw [if_pos k1, if_neg (by omega), if_neg (by omega), if_neg (by omega), if_pos k1, va_up_at, va_up_at]
        by_cases hn' : n = gfi r
        · rw [if_pos hn', if_pos hn', ← hn', ih, and_swap, toM_and' (and_lt128 hlt) hst'.2.1, hst'.1]
        · rw [if_neg hn', if_neg hn', ih]
      · rw [if_neg k1]
        by_cases k2 : gki r = 2
        · rw [if_pos k2, if_neg (by omega), if_neg (by omega), if_neg (by omega), if_pos k2, va_up_at, va_up_at]
          by_cases hn' : n = gfi r
          · rw [if_pos hn', if_pos hn', ← hn', ih, and_swap, toM_and' (and_lt128 hlt) hst'.2.2.2, hst'.2.2.1]
          · rw [if_neg hn', if_neg hn', ih]
        · rw [if_neg k2]
          by_cases k0 : gki r = 0
          · rw [if_pos k0, if_pos k0]
            by_cases hs : gse r = gfi r
            · rw [if_pos hs, if_pos hs.symm, st_bit (gst r) (hst r) (gat r) (hat r)]
              by_cases hb : ((gst r) >>> (gat r)) &&& 1 = 0
              · rw [if_pos hb, if_pos hb, va_up_at, va_up_at]
                by_cases hn' : n = gfi r
                · rw [if_pos hn', if_pos hn', ← hn', ih, and_swap, toM_off _ (and_lt128 hlt) (gat r) (hat r)]
                · rw [if_neg hn', if_neg hn', ih]
              · rw [if_neg hb, if_neg hb, ih]
            · rw [if_neg hs, if_neg (fun z => hs z.symm), ih]
          · rw [if_neg k0, if_neg k0, if_neg k1, if_neg k2, ih]
  exact hall mr
/-- a tie, at one place of the table -/
theorem tieB_at {na cd ot cs n c k : Nat} (hn : n < 8) (hc : c < 7) (hk : k < 8) (hna : na < 8) (hot : ot < 8) : ∀ w i f, i + w ≤ 7 → zlp (tieBody na cd ot cs) w i f ((n * 7 + c) * 8 + 0 + k) = if (i ≤ c ∧ c < i + w) ∧ n = ot ∧ k = na ∧ (cs >>> c) &&& 1 = 0 then (f ((n * 7 + c) * 8 + 0 + k)) &&& ((1 <<< cd) ^^^ 4294967295) else f ((n * 7 + c) * 8 + 0 + k) := by
  intro w
  induction w with
  | zero => intro i f _; rw [if_neg (by omega)]; rfl
  | succ w ih =>
    intro i f hi
    show zlp (tieBody na cd ot cs) w (i + 1) (tieBody na cd ot cs i f) _ = _
    rw [ih (i + 1) _ (by omega)]
    have e : tieBody na cd ot cs i f ((n * 7 + c) * 8 + 0 + k) = if i = c ∧ n = ot ∧ k = na ∧ (cs >>> i) &&& 1 = 0 then (f ((n * 7 + c) * 8 + 0 + k)) &&& ((1 <<< cd) ^^^ 4294967295) else f ((n * 7 + c) * 8 + 0 + k) := by
      unfold tieBody
      by_cases hb : (cs >>> i) &&& 1 = 0
      · rw [if_pos hb, va_up_at]
        by_cases hp : (n * 7 + c) * 8 + 0 + k = (ot * 7 + i) * 8 + na
        · rw [if_pos hp, if_pos (by refine ⟨?_, ?_, ?_, hb⟩ <;> omega), ← hp]
        · rw [if_neg hp, if_neg (fun z => hp (by rw [z.1, z.2.1, z.2.2.1]; rfl))]
      · rw [if_neg hb, if_neg (fun z => hb z.2.2.2)]
    rw [e]
    by_cases h1 : (i + 1 ≤ c ∧ c < i + 1 + w) ∧ n = ot ∧ k = na ∧ (cs >>> c) &&& 1 = 0
    · rw [if_pos h1, if_neg (by omega), if_pos ⟨by omega, h1.2⟩]
    · rw [if_neg h1]
      by_cases h2 : i = c ∧ n = ot ∧ k = na ∧ (cs >>> i) &&& 1 = 0
      · rw [if_pos h2, if_pos]
        obtain ⟨rfl, a, b, d⟩ := h2
        exact ⟨by omega, a, b, d⟩
      · rw [if_neg h2, if_neg]
        intro z
        by_cases h3 : i = c
        · exact h2 ⟨h3, z.2.1, z.2.2.1, by rw [h3]; exact z.2.2.2⟩
        · exact h1 ⟨by omega, z.2⟩
theorem tie_at {na cd ot cs n c k : Nat} (hn : n < 8) (hc : c < 7) (hk : k < 8) (hna : na < 8) (hot : ot < 8) (hcd : cd < 7) (hne : ¬ na = ot) (g : Nat → Nat) : tieBe na cd ot cs g ((n * 7 + c) * 8 + 0 + k) =
    if n = na ∧ c = cd ∧ k = ot then (g ((n * 7 + c) * 8 + 0 + k)) &&& cs else if n = ot ∧ k = na ∧ (cs >>> c) &&& 1 = 0 then (g ((n * 7 + c) * 8 + 0 + k)) &&& ((1 <<< cd) ^^^ 4294967295) else g ((n * 7 + c) * 8 + 0 + k) := by
  unfold tieBe
  rw [if_neg hne, tieB_at hn hc hk hna hot 7 0 _ (by decide), va_up_at]
  by_cases h1 : n = na ∧ c = cd ∧ k = ot
  · rw [if_pos h1, if_neg (by omega), if_pos (by obtain ⟨rfl, rfl, rfl⟩ := h1; rfl)]
    obtain ⟨rfl, rfl, rfl⟩ := h1
    rfl
  · rw [if_neg h1]
    have hp : ¬ (n * 7 + c) * 8 + 0 + k = (na * 7 + cd) * 8 + ot := fun z => h1 (by refine ⟨?_, ?_, ?_⟩ <;> omega)
    rw [if_neg hp]
    by_cases h2 : n = ot ∧ k = na ∧ (cs >>> c) &&& 1 = 0
    · rw [if_pos h2, if_pos ⟨by omega, h2⟩]
    · rw [if_neg h2, if_neg (fun z => h2 z.2)]
/-- group at one place: as a walk of one number -/
def grSc (n na ot c k : Nat) : Nat → Nat → Nat := fun i x => if n = na ∧ c = i ∧ k = ot then x &&& (1 ||| (1 <<< i)) else if n = ot ∧ k = na ∧ ((1 ||| (1 <<< i)) >>> c) &&& 1 = 0 then x &&& ((1 <<< i) ^^^ 4294967295) else x
theorem grBe_at {na ot n c k : Nat} (hn : n < 8) (hc : c < 7) (hk : k < 8) (hna : na < 8) (hot : ot < 8) (hne : ¬ na = ot) : ∀ w i f, i + w ≤ 7 → zlp (fun i f => tieBe na i ot (1 ||| (1 <<< i)) f) w i f ((n * 7 + c) * 8 + 0 + k) = zlp (grSc n na ot c k) w i (f ((n * 7 + c) * 8 + 0 + k)) := by
  intro w
  induction w with
  | zero => intro i f _; rfl
  | succ w ih =>
    intro i f hi
    show zlp (fun i f => tieBe na i ot (1 ||| (1 <<< i)) f) w (i + 1) (tieBe na i ot (1 ||| (1 <<< i)) f) _ = zlp (grSc n na ot c k) w (i + 1) (grSc n na ot c k i (f ((n * 7 + c) * 8 + 0 + k)))
    rw [ih (i + 1) _ (by omega), tie_at hn hc hk hna hot (by omega) hne]
    rfl
def grA (c : Nat) : Nat → Nat → Nat := fun i x => if c = i then x &&& (1 ||| (1 <<< i)) else x
def grB (c : Nat) : Nat → Nat → Nat := fun i x => if ((1 ||| (1 <<< i)) >>> c) &&& 1 = 0 then x &&& ((1 <<< i) ^^^ 4294967295) else x
set_option maxRecDepth 100000 in
theorem grA_v : ∀ x, x < 128 → ∀ v, v < 7 → toM (zlp (grA (gvC v)) 6 1 x) = if v = 6 then toM x else toM x &&& ((1 <<< v) ||| 64) := by decide +kernel
set_option maxRecDepth 100000 in
theorem grB_v : ∀ x, x < 128 → ∀ v, v < 7 → toM (zlp (grB (gvC v)) 6 1 x) = if v = 6 then toM x else toM x &&& ((1 <<< v) ||| 64) := by decide +kernel
theorem zlp_ext {σ : Type} {b b' : Nat → σ → σ} (h : ∀ i x, b i x = b' i x) : ∀ k i x, zlp b k i x = zlp b' k i x := by
  intro k
  induction k with
  | zero => intro i x; rfl
  | succ k ih => intro i x; show zlp b k (i + 1) (b i x) = zlp b' k (i + 1) (b' i x); rw [h, ih]
theorem zlp_id {σ : Type} {b : Nat → σ → σ} (h : ∀ i x, b i x = x) : ∀ k i x, zlp b k i x = x := by
  intro k
  induction k with
  | zero => intro i x; rfl
  | succ k ih => intro i x; show zlp b k (i + 1) (b i x) = x; rw [h, ih]
/-- masks: the narrowing of the group's and of the needs' rows comes through the other mask -/
theorem grSc_and (n na ot c k : Nat) (M : Nat) : ∀ w i x, M &&& (zlp (grSc n na ot c k) w i x) = zlp (grSc n na ot c k) w i (M &&& x) := by
  intro w
  induction w with
  | zero => intro i x; rfl
  | succ w ih =>
    intro i x
    show M &&& zlp (grSc n na ot c k) w (i + 1) (grSc n na ot c k i x) = zlp (grSc n na ot c k) w (i + 1) (grSc n na ot c k i (M &&& x))
    rw [ih]
    congr 1
    unfold grSc
    repeat' split
    all_goals first | rfl | rw [Nat.and_assoc]
