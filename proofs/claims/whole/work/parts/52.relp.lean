set_option maxHeartbeats 4000000 in
set_option maxRecDepth 100000 in
theorem rel_name {nc : Nat} {rc : Nat} {fve : Nat → Nat} {flk : Nat → Nat} {fjo : Nat → Nat} {fba : Nat → Nat} {fro : Nat → Nat} {fal : Nat → Nat} {fbe : Nat → Nat} {fco : Nat → Nat} {gv : Nat} {ch : Nat} {dn : Nat} {fle : Nat → Nat} {fho : Nat → Nat} {ftr : Nat → Nat} {fke : Nat → Nat} {nm : Nat} {kc : Nat} {cb : Nat} {ef : Nat} {th : Nat} {mn : Nat} {mr : Nat} {fn : Nat} {gve : Nat → Nat} {glk : Nat → Nat} {gba : Nat → Nat} {gki : Nat → Nat} {gfi : Nat → Nat} {gat : Nat → Nat} {gse : Nat → Nat} {gst : Nat → Nat} {gbs : Nat → Nat} {gga : Nat → Nat} {gwa : Nat → Nat} {z : Zg} (hR : Rel nc rc fve flk fjo fba fro fal fbe fco gv ch dn fle fho ftr fke nm kc cb ef th mn mr fn gve glk gba gki gfi gat gse gst gbs gga gwa z) (p0 : Int32) (p1 : Int32) : (nameF p0 p1 nc fve flk fal).1 = (mnameF p0 p1 mn gve glk).1 ∧ Rel ((nameF p0 p1 nc fve flk fal).2.2.2.2) rc ((nameF p0 p1 nc fve flk fal).2.1) ((nameF p0 p1 nc fve flk fal).2.2.1) fjo fba fro ((nameF p0 p1 nc fve flk fal).2.2.2.1) fbe fco gv ch dn fle fho ftr fke nm kc cb ef 0 ((mnameF p0 p1 mn gve glk).2.2.2) mr fn ((mnameF p0 p1 mn gve glk).2.1) ((mnameF p0 p1 mn gve glk).2.2.1) gba gki gfi gat gse gst gbs gga gwa z := by
  have hR0 := hR
  obtain ⟨hB, hS⟩ := hR
  obtain ⟨hnc, hrc, hemn, hemr, hfn, h1, hjo, h2, h3, h4, htr, hke, hco, hgv, hch, hdn, hvc, hve, hlk, hbs, hga, hwa, hfi, hse, hat, hst, hki, hZ, hZb6⟩ := hB
  obtain ⟨sve, slk, sba, sb64, sro, sal, sbe, srw, sco, sc0, sgv, sch, sdn⟩ := hS
  have e1 := hemn.symm
  subst e1
  have e2 := hemr.symm
  subst e2
  subst sve
  unfold nameF mnameF
  by_cases h : okV p0 p1
  · rw [if_pos h, if_pos h]
    by_cases h8 : nc < 8
    · rw [if_pos h8, if_neg (show ¬ nc = 8 by omega)]
      obtain ⟨_, b1, b2⟩ := rng_eq h.1.1 h.1.2
      obtain ⟨_, b3⟩ := toC_eq h.2.1 h.2.2
      refine ⟨rfl, ?_⟩
      dsimp only
      have hv : (2 <<< toN p0) - 1 < 128 := (bg_init (toN p0) (by omega) 0 (by decide)).2
      have hvv : ∀ j, va_up fve nc (toN p0) j ≤ 6 := up_le9 hvc b2
      refine ⟨⟨(by show nc + 1 ≤ 8; omega), hrc, rfl, rfl, (by show fn ≤ nc + 1; omega), (up_lt h1 (by omega)), hjo, h2, (up_lt h3 hv), h4, htr, hke, hco, hgv, hch, hdn, hvv, hvv, (up_lt hlk (by omega)), hbs, hga, hwa, hfi, hse, hat, hst, hki, hZ, hZb6⟩, ⟨rfl, (up_ltn slk rfl rfl), sba, sb64, sro, ?_, sbe, ?_, sco, sc0, sgv, sch, sdn⟩⟩
      · intro n hn
        show va_up fal nc ((2 <<< toN p0) - 1) n = _
        rw [va_up_at]
        by_cases hq : n = nc
        · rw [if_pos hq, alR_free rc (fun r hr => by have := (srw r hr).1; omega), va_up_at, if_pos hq]
        · rw [if_neg hq, sal n (by have : n < nc + 1 := hn; omega)]
          exact alR_gve rc (by rw [va_up_at, if_neg hq])
      · intro r hr
        have := srw r hr
        exact ⟨by show _ < nc + 1; omega, by show _ < nc + 1; omega, this.2.2⟩
    · rw [if_neg h8, if_pos (show nc = 8 by omega)]
      exact ⟨rfl, hR0⟩
  · rw [if_neg h, if_neg h]
    exact ⟨rfl, hR0⟩

set_option maxHeartbeats 4000000 in
set_option maxRecDepth 100000 in
theorem rel_needs {nc : Nat} {rc : Nat} {fve : Nat → Nat} {flk : Nat → Nat} {fjo : Nat → Nat} {fba : Nat → Nat} {fro : Nat → Nat} {fal : Nat → Nat} {fbe : Nat → Nat} {fco : Nat → Nat} {gv : Nat} {ch : Nat} {dn : Nat} {fle : Nat → Nat} {fho : Nat → Nat} {ftr : Nat → Nat} {fke : Nat → Nat} {nm : Nat} {kc : Nat} {cb : Nat} {ef : Nat} {th : Nat} {mn : Nat} {mr : Nat} {fn : Nat} {gve : Nat → Nat} {glk : Nat → Nat} {gba : Nat → Nat} {gki : Nat → Nat} {gfi : Nat → Nat} {gat : Nat → Nat} {gse : Nat → Nat} {gst : Nat → Nat} {gbs : Nat → Nat} {gga : Nat → Nat} {gwa : Nat → Nat} {z : Zg} (hR : Rel nc rc fve flk fjo fba fro fal fbe fco gv ch dn fle fho ftr fke nm kc cb ef th mn mr fn gve glk gba gki gfi gat gse gst gbs gga gwa z) (p0 : Int32) (p1 : Int32) (p2 : Int32) (dd : Int64) : (needF p0 p1 p2 dd nc rc fve fal fbe fro).1 = (mneedF p0 p1 p2 dd mn mr gve gki gfi gat gse gst).1 ∧ Rel nc ((needF p0 p1 p2 dd nc rc fve fal fbe fro).2.2.2.2) fve flk fjo fba ((needF p0 p1 p2 dd nc rc fve fal fbe fro).2.2.2.1) ((needF p0 p1 p2 dd nc rc fve fal fbe fro).2.1) ((needF p0 p1 p2 dd nc rc fve fal fbe fro).2.2.1) fco gv ch dn fle fho ftr fke nm kc cb ef 0 mn ((mneedF p0 p1 p2 dd mn mr gve gki gfi gat gse gst).2.2.2.2.2.2) fn gve glk gba ((mneedF p0 p1 p2 dd mn mr gve gki gfi gat gse gst).2.1) ((mneedF p0 p1 p2 dd mn mr gve gki gfi gat gse gst).2.2.1) ((mneedF p0 p1 p2 dd mn mr gve gki gfi gat gse gst).2.2.2.1) ((mneedF p0 p1 p2 dd mn mr gve gki gfi gat gse gst).2.2.2.2.1) ((mneedF p0 p1 p2 dd mn mr gve gki gfi gat gse gst).2.2.2.2.2.1) gbs gga gwa z := by
  have hR0 := hR
  obtain ⟨hB, hS⟩ := hR
  obtain ⟨hnc, hrc, hemn, hemr, hfn, h1, hjo, h2, h3, h4, htr, hke, hco, hgv, hch, hdn, hvc, hve, hlk, hbs, hga, hwa, hfi, hse, hat, hst, hki, hZ, hZb6⟩ := hB
  obtain ⟨sve, slk, sba, sb64, sro, sal, sbe, srw, sco, sc0, sgv, sch, sdn⟩ := hS
  have e1 := hemn.symm
  subst e1
  have e2 := hemr.symm
  subst e2
  subst sve
  unfold needF mneedF
  by_cases c0 : isN p0 nc
  · rw [if_pos c0, if_pos c0]
    by_cases c2 : isN p2 nc
    · rw [if_pos c2, if_pos c2]
      by_cases c1 : isN p1 (fve (toN p0))
      · rw [if_pos c1, if_pos c1]
        have hv6 := hvc (toN p0)
        have hlt1 : toN p1 < fve (toN p0) := isN_lt (by omega) c1
        by_cases h60 : rc < 60
        · skip
          have hne : ¬ rc = 60 := by omega
          rw [if_pos h60, addF, if_neg hne]
          have hl6 := lo6_lt dd
          refine ⟨rfl, ?_⟩
          dsimp only
          refine ⟨⟨hnc, (by show rc + 1 ≤ 60; omega), rfl, rfl, hfn, h1, hjo, h2, (fun j => by show tieAl _ _ _ _ fal j < 128; unfold tieAl; (repeat' split) <;> first | exact h3 j | exact up_lt h3 (and_lt128 (h3 _)) j), h4, htr, hke, hco, hgv, hch, hdn, hvc, hve, hlk, hbs, hga, hwa, (up_lt hfi (Nat.lt_of_lt_of_le (isN_lt (by omega) c0) hnc)), (up_lt hse (Nat.lt_of_lt_of_le (isN_lt (by omega) c2) hnc)), (up_lt hat (by omega)), (up_lt hst hl6), (up_lt hki (by decide)), hZ, hZb6⟩, ⟨rfl, slk, sba, sb64, ?_, ?_, ?_, ?_, sco, sc0, sgv, sch, sdn⟩⟩
          · intro j hj
            show va_up fro rc _ j = _
            rw [va_up_at, va_up_at, va_up_at, va_up_at, va_up_at]
            by_cases hq : j = rc
            · rw [if_pos hq, if_pos hq, if_pos hq, if_pos hq, if_pos hq]
            · rw [if_neg hq, if_neg hq, if_neg hq, if_neg hq, if_neg hq]
              exact sro j (by have : j < rc + 1 := hj; omega)
          · intro n hn
            rw [alR_push]
            rw [if_pos rfl]
            show tieAl _ _ _ _ fal n = _
            exact tieAl_pt (sal n hn)
          · intro j hj
            rw [beR_push]
            rw [if_pos rfl]
            show tieBe _ _ _ _ fbe j = _
            exact tieBe_pt (sbe j hj)
          · intro r hr
            show va_up gfi rc _ r < nc ∧ va_up gse rc _ r < nc ∧ (va_up gki rc _ r = 3 → ¬ va_up gfi rc _ r = va_up gse rc _ r)
            rw [va_up_at, va_up_at, va_up_at]
            by_cases hq : r = rc
            · rw [if_pos hq, if_pos hq, if_pos hq]
              exact ⟨(isN_lt (by omega) c0), (isN_lt (by omega) c2), (fun z => absurd z (by decide))⟩
            · rw [if_neg hq, if_neg hq, if_neg hq]
              exact srw r (by have : r < rc + 1 := hr; omega)
        · rw [if_neg h60, addF, if_pos (show rc = 60 by omega)]
          exact ⟨rfl, hR0⟩
      · rw [if_neg c1, if_neg c1]
        exact ⟨rfl, hR0⟩
    · rw [if_neg c2, if_neg c2]
      exact ⟨rfl, hR0⟩
  · rw [if_neg c0, if_neg c0]
    exact ⟨rfl, hR0⟩

set_option maxHeartbeats 4000000 in
set_option maxRecDepth 100000 in
theorem rel_want {nc : Nat} {rc : Nat} {fve : Nat → Nat} {flk : Nat → Nat} {fjo : Nat → Nat} {fba : Nat → Nat} {fro : Nat → Nat} {fal : Nat → Nat} {fbe : Nat → Nat} {fco : Nat → Nat} {gv : Nat} {ch : Nat} {dn : Nat} {fle : Nat → Nat} {fho : Nat → Nat} {ftr : Nat → Nat} {fke : Nat → Nat} {nm : Nat} {kc : Nat} {cb : Nat} {ef : Nat} {th : Nat} {mn : Nat} {mr : Nat} {fn : Nat} {gve : Nat → Nat} {glk : Nat → Nat} {gba : Nat → Nat} {gki : Nat → Nat} {gfi : Nat → Nat} {gat : Nat → Nat} {gse : Nat → Nat} {gst : Nat → Nat} {gbs : Nat → Nat} {gga : Nat → Nat} {gwa : Nat → Nat} {z : Zg} (hR : Rel nc rc fve flk fjo fba fro fal fbe fco gv ch dn fle fho ftr fke nm kc cb ef th mn mr fn gve glk gba gki gfi gat gse gst gbs gga gwa z) (p0 : Int32) (dd : Int64) : (asF p0 1 (2 * lo6 dd) nc rc fal fro).1 = (msetF p0 1 dd mn mr gki gfi gat gse gst).1 ∧ Rel nc ((asF p0 1 (2 * lo6 dd) nc rc fal fro).2.2.2) fve flk fjo fba ((asF p0 1 (2 * lo6 dd) nc rc fal fro).2.2.1) ((asF p0 1 (2 * lo6 dd) nc rc fal fro).2.1) fbe fco gv ch dn fle fho ftr fke nm kc cb ef 0 mn ((msetF p0 1 dd mn mr gki gfi gat gse gst).2.2.2.2.2.2) fn gve glk gba ((msetF p0 1 dd mn mr gki gfi gat gse gst).2.1) ((msetF p0 1 dd mn mr gki gfi gat gse gst).2.2.1) ((msetF p0 1 dd mn mr gki gfi gat gse gst).2.2.2.1) ((msetF p0 1 dd mn mr gki gfi gat gse gst).2.2.2.2.1) ((msetF p0 1 dd mn mr gki gfi gat gse gst).2.2.2.2.2.1) gbs gga gwa z := by
  have hR0 := hR
  obtain ⟨hB, hS⟩ := hR
  obtain ⟨hnc, hrc, hemn, hemr, hfn, h1, hjo, h2, h3, h4, htr, hke, hco, hgv, hch, hdn, hvc, hve, hlk, hbs, hga, hwa, hfi, hse, hat, hst, hki, hZ, hZb6⟩ := hB
  obtain ⟨sve, slk, sba, sb64, sro, sal, sbe, srw, sco, sc0, sgv, sch, sdn⟩ := hS
  have e1 := hemn.symm
  subst e1
  have e2 := hemr.symm
  subst e2
  subst sve
  unfold asF msetF
  by_cases c0 : isN p0 nc
  · have hpos : 0 < nc := Nat.lt_of_le_of_lt (Nat.zero_le _) (isN_lt (by omega) c0)
    rw [if_pos c0, if_pos c0]
    by_cases h60 : rc < 60
    · skip
      have hne : ¬ rc = 60 := by omega
      rw [if_pos h60, addF, if_neg hne]
      have hl6 := lo6_lt dd
      refine ⟨rfl, ?_⟩
      dsimp only
      refine ⟨⟨hnc, (by show rc + 1 ≤ 60; omega), rfl, rfl, hfn, h1, hjo, h2, (up_lt h3 (and_lt128 (h3 _))), h4, htr, hke, hco, hgv, hch, hdn, hvc, hve, hlk, hbs, hga, hwa, (up_lt hfi (Nat.lt_of_lt_of_le (isN_lt (by omega) c0) hnc)), (up_lt hse (by decide)), (up_lt hat (by decide)), (up_lt hst hl6), (up_lt hki (by decide)), hZ, hZb6⟩, ⟨rfl, slk, sba, sb64, ?_, ?_, ?_, ?_, sco, sc0, sgv, sch, sdn⟩⟩
      · intro j hj
        show va_up fro rc _ j = _
        rw [va_up_at, va_up_at, va_up_at, va_up_at, va_up_at]
        by_cases hq : j = rc
        · rw [if_pos hq, if_pos hq, if_pos hq, if_pos hq, if_pos hq]
        · rw [if_neg hq, if_neg hq, if_neg hq, if_neg hq, if_neg hq]
          exact sro j (by have : j < rc + 1 := hj; omega)
      · intro n hn
        rw [alR_push]
        rw [if_neg (by decide), if_pos rfl]
        show va_up fal (toN p0) _ n = _
        rw [va_up_at, va_up_at]
        by_cases hq : n = toN p0
        · rw [if_pos hq, if_pos hq, ← hq, sal n hn]
        · rw [if_neg hq, if_neg hq, sal n hn]
      · intro j hj
        rw [beR_push]
        rw [if_neg (by decide), if_neg (by decide)]
        exact sbe j hj
      · intro r hr
        show va_up gfi rc _ r < nc ∧ va_up gse rc _ r < nc ∧ (va_up gki rc _ r = 3 → ¬ va_up gfi rc _ r = va_up gse rc _ r)
        rw [va_up_at, va_up_at, va_up_at]
        by_cases hq : r = rc
        · rw [if_pos hq, if_pos hq, if_pos hq]
          exact ⟨(isN_lt (by omega) c0), hpos, (fun z => absurd z (by decide))⟩
        · rw [if_neg hq, if_neg hq, if_neg hq]
          exact srw r (by have : r < rc + 1 := hr; omega)
    · rw [if_neg h60, addF, if_pos (show rc = 60 by omega)]
      exact ⟨rfl, hR0⟩
  · rw [if_neg c0, if_neg c0]
    exact ⟨rfl, hR0⟩

set_option maxHeartbeats 4000000 in
set_option maxRecDepth 100000 in
theorem rel_force {nc : Nat} {rc : Nat} {fve : Nat → Nat} {flk : Nat → Nat} {fjo : Nat → Nat} {fba : Nat → Nat} {fro : Nat → Nat} {fal : Nat → Nat} {fbe : Nat → Nat} {fco : Nat → Nat} {gv : Nat} {ch : Nat} {dn : Nat} {fle : Nat → Nat} {fho : Nat → Nat} {ftr : Nat → Nat} {fke : Nat → Nat} {nm : Nat} {kc : Nat} {cb : Nat} {ef : Nat} {th : Nat} {mn : Nat} {mr : Nat} {fn : Nat} {gve : Nat → Nat} {glk : Nat → Nat} {gba : Nat → Nat} {gki : Nat → Nat} {gfi : Nat → Nat} {gat : Nat → Nat} {gse : Nat → Nat} {gst : Nat → Nat} {gbs : Nat → Nat} {gga : Nat → Nat} {gwa : Nat → Nat} {z : Zg} (hR : Rel nc rc fve flk fjo fba fro fal fbe fco gv ch dn fle fho ftr fke nm kc cb ef th mn mr fn gve glk gba gki gfi gat gse gst gbs gga gwa z) (p0 : Int32) (dd : Int64) : (asF p0 2 ((2 * lo6 dd) ||| 1) nc rc fal fro).1 = (msetF p0 2 dd mn mr gki gfi gat gse gst).1 ∧ Rel nc ((asF p0 2 ((2 * lo6 dd) ||| 1) nc rc fal fro).2.2.2) fve flk fjo fba ((asF p0 2 ((2 * lo6 dd) ||| 1) nc rc fal fro).2.2.1) ((asF p0 2 ((2 * lo6 dd) ||| 1) nc rc fal fro).2.1) fbe fco gv ch dn fle fho ftr fke nm kc cb ef 0 mn ((msetF p0 2 dd mn mr gki gfi gat gse gst).2.2.2.2.2.2) fn gve glk gba ((msetF p0 2 dd mn mr gki gfi gat gse gst).2.1) ((msetF p0 2 dd mn mr gki gfi gat gse gst).2.2.1) ((msetF p0 2 dd mn mr gki gfi gat gse gst).2.2.2.1) ((msetF p0 2 dd mn mr gki gfi gat gse gst).2.2.2.2.1) ((msetF p0 2 dd mn mr gki gfi gat gse gst).2.2.2.2.2.1) gbs gga gwa z := by
  have hR0 := hR
  obtain ⟨hB, hS⟩ := hR
  obtain ⟨hnc, hrc, hemn, hemr, hfn, h1, hjo, h2, h3, h4, htr, hke, hco, hgv, hch, hdn, hvc, hve, hlk, hbs, hga, hwa, hfi, hse, hat, hst, hki, hZ, hZb6⟩ := hB
  obtain ⟨sve, slk, sba, sb64, sro, sal, sbe, srw, sco, sc0, sgv, sch, sdn⟩ := hS
  have e1 := hemn.symm
  subst e1
  have e2 := hemr.symm
  subst e2
  subst sve
  unfold asF msetF
  by_cases c0 : isN p0 nc
  · have hpos : 0 < nc := Nat.lt_of_le_of_lt (Nat.zero_le _) (isN_lt (by omega) c0)
    rw [if_pos c0, if_pos c0]
    by_cases h60 : rc < 60
    · skip
      have hne : ¬ rc = 60 := by omega
      rw [if_pos h60, addF, if_neg hne]
      have hl6 := lo6_lt dd
      refine ⟨rfl, ?_⟩
      dsimp only
      refine ⟨⟨hnc, (by show rc + 1 ≤ 60; omega), rfl, rfl, hfn, h1, hjo, h2, (up_lt h3 (and_lt128 (h3 _))), h4, htr, hke, hco, hgv, hch, hdn, hvc, hve, hlk, hbs, hga, hwa, (up_lt hfi (Nat.lt_of_lt_of_le (isN_lt (by omega) c0) hnc)), (up_lt hse (by decide)), (up_lt hat (by decide)), (up_lt hst hl6), (up_lt hki (by decide)), hZ, hZb6⟩, ⟨rfl, slk, sba, sb64, ?_, ?_, ?_, ?_, sco, sc0, sgv, sch, sdn⟩⟩
      · intro j hj
        show va_up fro rc _ j = _
        rw [va_up_at, va_up_at, va_up_at, va_up_at, va_up_at]
        by_cases hq : j = rc
        · rw [if_pos hq, if_pos hq, if_pos hq, if_pos hq, if_pos hq]
        · rw [if_neg hq, if_neg hq, if_neg hq, if_neg hq, if_neg hq]
          exact sro j (by have : j < rc + 1 := hj; omega)
      · intro n hn
        rw [alR_push]
        rw [if_neg (by decide), if_neg (by decide), if_pos rfl]
        show va_up fal (toN p0) _ n = _
        rw [va_up_at, va_up_at]
        by_cases hq : n = toN p0
        · rw [if_pos hq, if_pos hq, ← hq, sal n hn]
        · rw [if_neg hq, if_neg hq, sal n hn]
      · intro j hj
        rw [beR_push]
        rw [if_neg (by decide), if_neg (by decide)]
        exact sbe j hj
      · intro r hr
        show va_up gfi rc _ r < nc ∧ va_up gse rc _ r < nc ∧ (va_up gki rc _ r = 3 → ¬ va_up gfi rc _ r = va_up gse rc _ r)
        rw [va_up_at, va_up_at, va_up_at]
        by_cases hq : r = rc
        · rw [if_pos hq, if_pos hq, if_pos hq]
          exact ⟨(isN_lt (by omega) c0), hpos, (fun z => absurd z (by decide))⟩
        · rw [if_neg hq, if_neg hq, if_neg hq]
          exact srw r (by have : r < rc + 1 := hr; omega)
    · rw [if_neg h60, addF, if_pos (show rc = 60 by omega)]
      exact ⟨rfl, hR0⟩
  · rw [if_neg c0, if_neg c0]
    exact ⟨rfl, hR0⟩

set_option maxHeartbeats 4000000 in
set_option maxRecDepth 100000 in
theorem rel_group {nc : Nat} {rc : Nat} {fve : Nat → Nat} {flk : Nat → Nat} {fjo : Nat → Nat} {fba : Nat → Nat} {fro : Nat → Nat} {fal : Nat → Nat} {fbe : Nat → Nat} {fco : Nat → Nat} {gv : Nat} {ch : Nat} {dn : Nat} {fle : Nat → Nat} {fho : Nat → Nat} {ftr : Nat → Nat} {fke : Nat → Nat} {nm : Nat} {kc : Nat} {cb : Nat} {ef : Nat} {th : Nat} {mn : Nat} {mr : Nat} {fn : Nat} {gve : Nat → Nat} {glk : Nat → Nat} {gba : Nat → Nat} {gki : Nat → Nat} {gfi : Nat → Nat} {gat : Nat → Nat} {gse : Nat → Nat} {gst : Nat → Nat} {gbs : Nat → Nat} {gga : Nat → Nat} {gwa : Nat → Nat} {z : Zg} (hR : Rel nc rc fve flk fjo fba fro fal fbe fco gv ch dn fle fho ftr fke nm kc cb ef th mn mr fn gve glk gba gki gfi gat gse gst gbs gga gwa z) (p0 : Int32) (p1 : Int32) : (grpF p0 p1 nc rc fal fbe fro).1 = (mgrpF p0 p1 mn mr gki gfi gat gse gst).1 ∧ Rel nc ((grpF p0 p1 nc rc fal fbe fro).2.2.2.2) fve flk fjo fba ((grpF p0 p1 nc rc fal fbe fro).2.2.2.1) ((grpF p0 p1 nc rc fal fbe fro).2.1) ((grpF p0 p1 nc rc fal fbe fro).2.2.1) fco gv ch dn fle fho ftr fke nm kc cb ef 0 mn ((mgrpF p0 p1 mn mr gki gfi gat gse gst).2.2.2.2.2.2) fn gve glk gba ((mgrpF p0 p1 mn mr gki gfi gat gse gst).2.1) ((mgrpF p0 p1 mn mr gki gfi gat gse gst).2.2.1) ((mgrpF p0 p1 mn mr gki gfi gat gse gst).2.2.2.1) ((mgrpF p0 p1 mn mr gki gfi gat gse gst).2.2.2.2.1) ((mgrpF p0 p1 mn mr gki gfi gat gse gst).2.2.2.2.2.1) gbs gga gwa z := by
  have hR0 := hR
  obtain ⟨hB, hS⟩ := hR
  obtain ⟨hnc, hrc, hemn, hemr, hfn, h1, hjo, h2, h3, h4, htr, hke, hco, hgv, hch, hdn, hvc, hve, hlk, hbs, hga, hwa, hfi, hse, hat, hst, hki, hZ, hZb6⟩ := hB
  obtain ⟨sve, slk, sba, sb64, sro, sal, sbe, srw, sco, sc0, sgv, sch, sdn⟩ := hS
  have e1 := hemn.symm
  subst e1
  have e2 := hemr.symm
  subst e2
  subst sve
  unfold grpF mgrpF
  by_cases c0 : isN p0 nc
  · rw [if_pos c0, if_pos c0]
    by_cases c1 : isN p1 nc
    · rw [if_pos c1, if_pos c1]
      by_cases hpq : toN p0 = toN p1
      · rw [if_pos hpq, if_pos hpq]
        exact ⟨rfl, hR0⟩
      · rw [if_neg hpq, if_neg hpq]
        by_cases h60 : rc < 60
        · skip
          have hne : ¬ rc = 60 := by omega
          rw [if_pos h60, addF, if_neg hne]
          have hl6 := lo6_lt 0
          refine ⟨rfl, ?_⟩
          dsimp only
          refine ⟨⟨hnc, (by show rc + 1 ≤ 60; omega), rfl, rfl, hfn, h1, hjo, h2, (fun j => by show (zlp (grBody _ _) 6 1 (fal, fbe)).1 j < 128; rw [grBody_1 hpq]; exact h3 j), h4, htr, hke, hco, hgv, hch, hdn, hvc, hve, hlk, hbs, hga, hwa, (up_lt hfi (Nat.lt_of_lt_of_le (isN_lt (by omega) c0) hnc)), (up_lt hse (Nat.lt_of_lt_of_le (isN_lt (by omega) c1) hnc)), (up_lt hat (by decide)), (up_lt hst hl6), (up_lt hki (by decide)), hZ, hZb6⟩, ⟨rfl, slk, sba, sb64, ?_, ?_, ?_, ?_, sco, sc0, sgv, sch, sdn⟩⟩
          · intro j hj
            show va_up fro rc _ j = _
            rw [va_up_at, va_up_at, va_up_at, va_up_at, va_up_at]
            by_cases hq : j = rc
            · rw [if_pos hq, if_pos hq, if_pos hq, if_pos hq, if_pos hq]
            · rw [if_neg hq, if_neg hq, if_neg hq, if_neg hq, if_neg hq]
              exact sro j (by have : j < rc + 1 := hj; omega)
          · intro n hn
            rw [alR_push]
            rw [if_neg (by decide), if_neg (by decide), if_neg (by decide)]
            show (zlp (grBody _ _) 6 1 (fal, fbe)).1 n = _
            rw [grBody_1 hpq]
            exact sal n hn
          · intro j hj
            rw [beR_push]
            rw [if_neg (by decide), if_pos rfl]
            show (zlp (grBody _ _) 6 1 (fal, fbe)).2 j = _
            rw [grBody_2]
            exact grBe_pt (sbe j hj)
          · intro r hr
            show va_up gfi rc _ r < nc ∧ va_up gse rc _ r < nc ∧ (va_up gki rc _ r = 3 → ¬ va_up gfi rc _ r = va_up gse rc _ r)
            rw [va_up_at, va_up_at, va_up_at]
            by_cases hq : r = rc
            · rw [if_pos hq, if_pos hq, if_pos hq]
              exact ⟨(isN_lt (by omega) c0), (isN_lt (by omega) c1), (fun _ => hpq)⟩
            · rw [if_neg hq, if_neg hq, if_neg hq]
              exact srw r (by have : r < rc + 1 := hr; omega)
        · rw [if_neg h60, addF, if_pos (show rc = 60 by omega)]
          exact ⟨rfl, hR0⟩
    · rw [if_neg c1, if_neg c1]
      exact ⟨rfl, hR0⟩
  · rw [if_neg c0, if_neg c0]
    exact ⟨rfl, hR0⟩

set_option maxHeartbeats 4000000 in
set_option maxRecDepth 100000 in
theorem rel_solve {K : Nat} (hKO : KOK K) {nc : Nat} {rc : Nat} {fve : Nat → Nat} {flk : Nat → Nat} {fjo : Nat → Nat} {fba : Nat → Nat} {fro : Nat → Nat} {fal : Nat → Nat} {fbe : Nat → Nat} {fco : Nat → Nat} {gv : Nat} {ch : Nat} {dn : Nat} {fle : Nat → Nat} {fho : Nat → Nat} {ftr : Nat → Nat} {fke : Nat → Nat} {nm : Nat} {kc : Nat} {cb : Nat} {ef : Nat} {th : Nat} {mn : Nat} {mr : Nat} {fn : Nat} {gve : Nat → Nat} {glk : Nat → Nat} {gba : Nat → Nat} {gki : Nat → Nat} {gfi : Nat → Nat} {gat : Nat → Nat} {gse : Nat → Nat} {gst : Nat → Nat} {gbs : Nat → Nat} {gga : Nat → Nat} {gwa : Nat → Nat} {z : Zg} (hR : Rel nc rc fve flk fjo fba fro fal fbe fco gv ch dn fle fho ftr fke nm kc cb ef th mn mr fn gve glk gba gki gfi gat gse gst gbs gga gwa z) (p0 : Int32) (dd : Int64) : (solveF p0 dd nc fbe flk fba fal fho fle ftr fke fco gv ch dn nm kc cb ef).1 = (msolveF K p0 dd mn mr gve glk gba gki gfi gat gse gst gbs z fn gga gwa).1 ∧ Rel nc rc fve flk fjo fba fro fal fbe ((solveF p0 dd nc fbe flk fba fal fho fle ftr fke fco gv ch dn nm kc cb ef).2.1.1) ((solveF p0 dd nc fbe flk fba fal fho fle ftr fke fco gv ch dn nm kc cb ef).2.1.2.1) ((solveF p0 dd nc fbe flk fba fal fho fle ftr fke fco gv ch dn nm kc cb ef).2.1.2.2.1) ((solveF p0 dd nc fbe flk fba fal fho fle ftr fke fco gv ch dn nm kc cb ef).2.1.2.2.2) ((solveF p0 dd nc fbe flk fba fal fho fle ftr fke fco gv ch dn nm kc cb ef).2.2.1.1) ((solveF p0 dd nc fbe flk fba fal fho fle ftr fke fco gv ch dn nm kc cb ef).2.2.2.1) ((solveF p0 dd nc fbe flk fba fal fho fle ftr fke fco gv ch dn nm kc cb ef).2.2.1.2.1) ((solveF p0 dd nc fbe flk fba fal fho fle ftr fke fco gv ch dn nm kc cb ef).2.2.1.2.2.1) ((solveF p0 dd nc fbe flk fba fal fho fle ftr fke fco gv ch dn nm kc cb ef).2.2.2.2.1) ((solveF p0 dd nc fbe flk fba fal fho fle ftr fke fco gv ch dn nm kc cb ef).2.2.1.2.2.2.1) ((solveF p0 dd nc fbe flk fba fal fho fle ftr fke fco gv ch dn nm kc cb ef).2.2.1.2.2.2.2) ((solveF p0 dd nc fbe flk fba fal fho fle ftr fke fco gv ch dn nm kc cb ef).2.2.2.2.2) 0 mn mr ((msolveF K p0 dd mn mr gve glk gba gki gfi gat gse gst gbs z fn gga gwa).2.2.2.1) gve glk gba gki gfi gat gse gst ((msolveF K p0 dd mn mr gve glk gba gki gfi gat gse gst gbs z fn gga gwa).2.1) ((msolveF K p0 dd mn mr gve glk gba gki gfi gat gse gst gbs z fn gga gwa).2.2.2.2.1) ((msolveF K p0 dd mn mr gve glk gba gki gfi gat gse gst gbs z fn gga gwa).2.2.2.2.2) ((msolveF K p0 dd mn mr gve glk gba gki gfi gat gse gst gbs z fn gga gwa).2.2.1) := by
  have hR0 := hR
  obtain ⟨hB, hS⟩ := hR
  obtain ⟨hnc, hrc, hemn, hemr, hfn, h1, hjo, h2, h3, h4, htr, hke, hco, hgv, hch, hdn, hvc, hve, hlk, hbs, hga, hwa, hfi, hse, hat, hst, hki, hZ, hZb6⟩ := hB
  obtain ⟨sve, slk, sba, sb64, sro, sal, sbe, srw, sco, sc0, sgv, sch, sdn⟩ := hS
  have e1 := hemn.symm
  subst e1
  have e2 := hemr.symm
  subst e2
  subst sve
  have hRow := rel_rowok hR0
  have hgb := bsF_lt (mn := nc) hlk hbs
  have hhm := h1
  have hh : ∀ j, j < nc → flk j = bsF nc glk gbs j := fun j hj => by
    unfold bsF
    rw [cyB_at, if_pos (by omega)]
    exact slk j hj
  unfold solveF msolveF
  by_cases c : okS p0 dd
  · rw [if_pos c, if_pos c]
    have hmx : mxN (toN p0) nc = minN (toN p0) nc := by
      unfold mxN minN
      split <;> split <;> omega
    have hmn9 : minN (toN p0) nc < nc + 1 := by
      unfold minN
      split <;> omega
    rw [hmx, tr_wt nc (by omega) _ hmn9]
    have hPB := pairB (K := K) (fho := fho) (fle := fle) (ftr := ftr) (fke := fke) hnc hvc hgb h3 sba sb64 sal sbe hh hRow hKO z
    have f1 := findX_inv (nn := nc) (ef := 0) (fbe := fbe) (fbd := fba) (ftr := ftr) (fke := fke) hnc hhm h2 h3 h4
    have f2 := findX_t (nn := nc) (ef := 0) (fbe := fbe) (fbd := fba) hhm h2 h3 h4 htr hke
    have f3 := findY_inv (nn := nc) (fbd := fba) hhm h2 h3 h4
    have i1 := lfbF_inv (K := K) (mn := nc) (mr := rc) (gba := gba) (gbs := (bsF nc glk gbs)) (gki := gki) (gfi := gfi) (gat := gat) (gse := gse) (gst := gst) hnc hvc hZ
    have i2 := lfb_bt (Nat.le_refl 6) hnc hvc hgb sb64 hRow hKO z hZb6
    have hPF := pairF (K := K) (fho := (findY nc flk fba fal fho fle).1) (fle := (findX nc 0 fbe flk fba fal fho fle ftr fke).1) (ftr := (findX nc 0 fbe flk fba fal fho fle ftr fke).2.1) (fke := (findX nc 0 fbe flk fba fal fho fle ftr fke).2.2.1) hnc hvc hgb h3 sba sb64 sal sbe hh hRow hKO (lfbF K nc rc fve gba (bsF nc glk gbs) gki gfi gat gse gst z).2
    have f1' := findX_inv (nn := nc) (ef := 1) (fbe := fbe) (fbd := fba) (ftr := (findX nc 0 fbe flk fba fal fho fle ftr fke).2.1) (fke := (findX nc 0 fbe flk fba fal fho fle ftr fke).2.2.1) hnc hhm f3.1 h3 f1.1
    have f2' := findX_t (nn := nc) (ef := 1) (fbe := fbe) (fbd := fba) hhm f3.1 h3 f1.1 f2.1 f2.2
    have f3' := findY_inv (nn := nc) (fbd := fba) hhm f3.1 h3 f1.1
    have i1' := lookF_inv (K := K) (mn := nc) (mr := rc) (gba := gba) (gbs := (bsF nc glk gbs)) (gki := gki) (gfi := gfi) (gat := gat) (gse := gse) (gst := gst) (c0 := 8) (d0 := 8) hnc hvc i1
    have i2' := lk_bt (Nat.le_refl 6) hnc hvc hgb sb64 hRow hKO 8 8 _ i2
    generalize lookF K nc rc fve gba (bsF nc glk gbs) gki gfi gat gse gst 8 8 (lfbF K nc rc fve gba (bsF nc glk gbs) gki gfi gat gse gst z).2 = LK at *
    generalize lfbF K nc rc fve gba (bsF nc glk gbs) gki gfi gat gse gst z = LF at *
    generalize findX nc 1 fbe flk fba fal (findY nc flk fba fal fho fle).1 (findX nc 0 fbe flk fba fal fho fle ftr fke).1 (findX nc 0 fbe flk fba fal fho fle ftr fke).2.1 (findX nc 0 fbe flk fba fal fho fle ftr fke).2.2.1 = X1 at *
    generalize findY nc flk fba fal (findY nc flk fba fal fho fle).1 (findX nc 0 fbe flk fba fal fho fle ftr fke).1 = Y1 at *
    generalize findX nc 0 fbe flk fba fal fho fle ftr fke = X0 at *
    generalize findY nc flk fba fal fho fle = Y0 at *
    rcases hPB with ⟨n1, n2⟩ | ⟨n1, n2, n3, n4, n5, n6, n7⟩
    · rw [if_neg n1, if_pos n2]
      by_cases d : lg_cmp (nI (wtF nc (minN (toN p0) nc))).toInt64 dd ≤ 0
      · rw [if_pos d, if_pos d]
        refine ⟨rfl, ?_⟩
        dsimp only
        exact ⟨⟨hnc, hrc, rfl, rfl, hfn, h1, hjo, f3.1, h3, f1.1, f2.1, f2.2, hco, hgv, hch, hdn, hvc, hve, hlk, hgb, hga, hwa, hfi, hse, hat, hst, hki, i1, i2⟩, ⟨rfl, slk, sba, sb64, sro, sal, sbe, srw, sco, sc0, sgv, sch, sdn⟩⟩
      · rw [if_neg d, if_neg d]
        refine ⟨rfl, ?_⟩
        dsimp only
        exact ⟨⟨hnc, hrc, rfl, rfl, hfn, h1, hjo, f3.1, h3, f1.1, f2.1, f2.2, hco, hgv, hch, hdn, hvc, hve, hlk, hgb, hga, hwa, hfi, hse, hat, hst, hki, i1, i2⟩, ⟨rfl, slk, sba, sb64, sro, sal, sbe, srw, sco, sc0, sgv, sch, sdn⟩⟩
    · rw [if_pos n1, if_neg (show ¬ LF.1 = 0 by rw [n2]; decide)]
      by_cases q : X0.2.2.2.1 / 16 ≤ toN p0
      · rw [if_pos q, if_neg (show ¬ toN p0 < LF.2.2.2.2.2.2.2.1 by rw [← n3]; omega), ← n3, tr_wt nc (by omega) _ (by omega)]
        by_cases d : lg_cmp (nI (wtF nc (X0.2.2.2.1 / 16))).toInt64 dd ≤ 0
        · rw [if_pos d, if_pos d]
          obtain ⟨g1, g2, g3, g4, g5⟩ := found_rel (gga := gga) (gwa := gwa) hnc hfn hh sc0 n4
          have k3 := kn_lt (fke := X0.2.2.1) (fhm := flk) hnc (fco := fco)
          refine ⟨?_, ?_⟩
          · dsimp only
            rw [n5]
          dsimp only
          exact ⟨⟨hnc, hrc, rfl, rfl, (Nat.le_refl _), h1, hjo, f3.1, h3, f1.1, f2.1, f2.2, (knBody_lt f2.2 _ _ _ hco), k3.1, k3.2.1, k3.2.2, hvc, hve, hlk, hgb, (mkp_ga i2 hga), (mkp_wa hgb hwa), hfi, hse, hat, hst, hki, i1, i2⟩, ⟨rfl, slk, sba, sb64, sro, sal, sbe, srw, g1, g2, g3, g4, g5⟩⟩
        · rw [if_neg d, if_neg d]
          refine ⟨rfl, ?_⟩
          dsimp only
          exact ⟨⟨hnc, hrc, rfl, rfl, hfn, h1, hjo, f3.1, h3, f1.1, f2.1, f2.2, hco, hgv, hch, hdn, hvc, hve, hlk, hgb, hga, hwa, hfi, hse, hat, hst, hki, i1, i2⟩, ⟨rfl, slk, sba, sb64, sro, sal, sbe, srw, sco, sc0, sgv, sch, sdn⟩⟩
      · rw [if_neg q, if_pos (show toN p0 < LF.2.2.2.2.2.2.2.1 by rw [← n3]; omega)]
        by_cases d : lg_cmp (nI (wtF nc (minN (toN p0) nc))).toInt64 dd ≤ 0
        · obtain ⟨m1, m2, m3⟩ := hPF n6
          rw [if_pos d, if_pos d, if_neg m1]
          obtain ⟨g1, g2, g3, g4, g5⟩ := found_rel (gga := gga) (gwa := gwa) hnc hfn hh sc0 m2
          have k3 := kn_lt (fke := X1.2.2.1) (fhm := flk) hnc (fco := fco)
          refine ⟨?_, ?_⟩
          · dsimp only
            rw [m3]
          dsimp only
          exact ⟨⟨hnc, hrc, rfl, rfl, (Nat.le_refl _), h1, hjo, f3'.1, h3, f1'.1, f2'.1, f2'.2, (knBody_lt f2'.2 _ _ _ hco), k3.1, k3.2.1, k3.2.2, hvc, hve, hlk, hgb, (mkp_ga i2' hga), (mkp_wa hgb hwa), hfi, hse, hat, hst, hki, i1', i2'⟩, ⟨rfl, slk, sba, sb64, sro, sal, sbe, srw, g1, g2, g3, g4, g5⟩⟩
        · rw [if_neg d, if_neg d]
          refine ⟨rfl, ?_⟩
          dsimp only
          exact ⟨⟨hnc, hrc, rfl, rfl, hfn, h1, hjo, f3.1, h3, f1.1, f2.1, f2.2, hco, hgv, hch, hdn, hvc, hve, hlk, hgb, hga, hwa, hfi, hse, hat, hst, hki, i1, i2⟩, ⟨rfl, slk, sba, sb64, sro, sal, sbe, srw, sco, sc0, sgv, sch, sdn⟩⟩
  · rw [if_neg c, if_neg c]
    exact ⟨rfl, hR0⟩

set_option maxHeartbeats 4000000 in
set_option maxRecDepth 100000 in
theorem rel_chosen {nc : Nat} {rc : Nat} {fve : Nat → Nat} {flk : Nat → Nat} {fjo : Nat → Nat} {fba : Nat → Nat} {fro : Nat → Nat} {fal : Nat → Nat} {fbe : Nat → Nat} {fco : Nat → Nat} {gv : Nat} {ch : Nat} {dn : Nat} {fle : Nat → Nat} {fho : Nat → Nat} {ftr : Nat → Nat} {fke : Nat → Nat} {nm : Nat} {kc : Nat} {cb : Nat} {ef : Nat} {th : Nat} {mn : Nat} {mr : Nat} {fn : Nat} {gve : Nat → Nat} {glk : Nat → Nat} {gba : Nat → Nat} {gki : Nat → Nat} {gfi : Nat → Nat} {gat : Nat → Nat} {gse : Nat → Nat} {gst : Nat → Nat} {gbs : Nat → Nat} {gga : Nat → Nat} {gwa : Nat → Nat} {z : Zg} (hR : Rel nc rc fve flk fjo fba fro fal fbe fco gv ch dn fle fho ftr fke nm kc cb ef th mn mr fn gve glk gba gki gfi gat gse gst gbs gga gwa z) (p0 : Int32) : (if isN p0 nc then fco (toN p0) else 0) = (if isN p0 fn then gga (toN p0) else 0) ∧ Rel nc rc fve flk fjo fba fro fal fbe fco gv ch dn fle fho ftr fke nm kc cb ef 0 mn mr fn gve glk gba gki gfi gat gse gst gbs gga gwa z := by
  have hR0 := hR
  obtain ⟨hB, hS⟩ := hR
  obtain ⟨hnc, hrc, hemn, hemr, hfn, h1, hjo, h2, h3, h4, htr, hke, hco, hgv, hch, hdn, hvc, hve, hlk, hbs, hga, hwa, hfi, hse, hat, hst, hki, hZ, hZb6⟩ := hB
  obtain ⟨sve, slk, sba, sb64, sro, sal, sbe, srw, sco, sc0, sgv, sch, sdn⟩ := hS
  have e1 := hemn.symm
  subst e1
  have e2 := hemr.symm
  subst e2
  subst sve
  refine ⟨?_, hR0⟩
  by_cases c0 : isN p0 nc
  · rw [if_pos c0]
    have hlt := isN_lt (by omega) c0
    by_cases c1 : isN p0 fn
    · rw [if_pos c1]
      exact sco _ (isN_lt (by omega) c1)
    · rw [if_neg c1]
      refine sc0 _ (Nat.le_of_not_lt (fun q => c1 ?_))
      rw [toN_eq c0.1]
      exact isN_nI q (by omega)
  · rw [if_neg c0, if_neg]
    intro c1
    apply c0
    have hlt := isN_lt (by omega) c1
    rw [toN_eq c1.1]
    exact isN_nI (by omega) (by omega)

set_option maxHeartbeats 4000000 in
set_option maxRecDepth 100000 in
theorem rel_down {nc : Nat} {rc : Nat} {fve : Nat → Nat} {flk : Nat → Nat} {fjo : Nat → Nat} {fba : Nat → Nat} {fro : Nat → Nat} {fal : Nat → Nat} {fbe : Nat → Nat} {fco : Nat → Nat} {gv : Nat} {ch : Nat} {dn : Nat} {fle : Nat → Nat} {fho : Nat → Nat} {ftr : Nat → Nat} {fke : Nat → Nat} {nm : Nat} {kc : Nat} {cb : Nat} {ef : Nat} {th : Nat} {mn : Nat} {mr : Nat} {fn : Nat} {gve : Nat → Nat} {glk : Nat → Nat} {gba : Nat → Nat} {gki : Nat → Nat} {gfi : Nat → Nat} {gat : Nat → Nat} {gse : Nat → Nat} {gst : Nat → Nat} {gbs : Nat → Nat} {gga : Nat → Nat} {gwa : Nat → Nat} {z : Zg} (hR : Rel nc rc fve flk fjo fba fro fal fbe fco gv ch dn fle fho ftr fke nm kc cb ef th mn mr fn gve glk gba gki gfi gat gse gst gbs gga gwa z) (p0 : Int32) : ithL dn p0 8 0 0 = mdnF gga gwa fn p0 ∧ Rel nc rc fve flk fjo fba fro fal fbe fco gv ch dn fle fho ftr fke nm kc cb ef 0 mn mr fn gve glk gba gki gfi gat gse gst gbs gga gwa z := by
  have hR0 := hR
  obtain ⟨hB, hS⟩ := hR
  obtain ⟨hnc, hrc, hemn, hemr, hfn, h1, hjo, h2, h3, h4, htr, hke, hco, hgv, hch, hdn, hvc, hve, hlk, hbs, hga, hwa, hfi, hse, hat, hst, hki, hZ, hZb6⟩ := hB
  obtain ⟨sve, slk, sba, sb64, sro, sal, sbe, srw, sco, sc0, sgv, sch, sdn⟩ := hS
  have e1 := hemn.symm
  subst e1
  have e2 := hemr.symm
  subst e2
  subst sve
  exact ⟨down_eq (by omega) sdn p0, hR0⟩

set_option maxHeartbeats 4000000 in
set_option maxRecDepth 100000 in
theorem rel_lock {nc : Nat} {rc : Nat} {fve : Nat → Nat} {flk : Nat → Nat} {fjo : Nat → Nat} {fba : Nat → Nat} {fro : Nat → Nat} {fal : Nat → Nat} {fbe : Nat → Nat} {fco : Nat → Nat} {gv : Nat} {ch : Nat} {dn : Nat} {fle : Nat → Nat} {fho : Nat → Nat} {ftr : Nat → Nat} {fke : Nat → Nat} {nm : Nat} {kc : Nat} {cb : Nat} {ef : Nat} {th : Nat} {mn : Nat} {mr : Nat} {fn : Nat} {gve : Nat → Nat} {glk : Nat → Nat} {gba : Nat → Nat} {gki : Nat → Nat} {gfi : Nat → Nat} {gat : Nat → Nat} {gse : Nat → Nat} {gst : Nat → Nat} {gbs : Nat → Nat} {gga : Nat → Nat} {gwa : Nat → Nat} {z : Zg} (hR : Rel nc rc fve flk fjo fba fro fal fbe fco gv ch dn fle fho ftr fke nm kc cb ef th mn mr fn gve glk gba gki gfi gat gse gst gbs gga gwa z) (p0 : Int32) (p1 : Int32) : lockF (ithL gv p0 8 0 0) p1 nc ch fco = mlockF p0 p1 fn gga gwa ∧ Rel nc rc fve flk fjo fba fro fal fbe fco gv ch dn fle fho ftr fke nm kc cb ef 0 mn mr fn gve glk gba gki gfi gat gse gst gbs gga gwa z := by
  have hR0 := hR
  obtain ⟨hB, hS⟩ := hR
  obtain ⟨hnc, hrc, hemn, hemr, hfn, h1, hjo, h2, h3, h4, htr, hke, hco, hgv, hch, hdn, hvc, hve, hlk, hbs, hga, hwa, hfi, hse, hat, hst, hki, hZ, hZb6⟩ := hB
  obtain ⟨sve, slk, sba, sb64, sro, sal, sbe, srw, sco, sc0, sgv, sch, sdn⟩ := hS
  have e1 := hemn.symm
  subst e1
  have e2 := hemr.symm
  subst e2
  subst sve
  exact ⟨lock_eq hnc hfn sgv sch sco p0 p1, hR0⟩

set_option maxHeartbeats 4000000 in
set_option maxRecDepth 100000 in
theorem rel_digest {nc : Nat} {rc : Nat} {fve : Nat → Nat} {flk : Nat → Nat} {fjo : Nat → Nat} {fba : Nat → Nat} {fro : Nat → Nat} {fal : Nat → Nat} {fbe : Nat → Nat} {fco : Nat → Nat} {gv : Nat} {ch : Nat} {dn : Nat} {fle : Nat → Nat} {fho : Nat → Nat} {ftr : Nat → Nat} {fke : Nat → Nat} {nm : Nat} {kc : Nat} {cb : Nat} {ef : Nat} {th : Nat} {mn : Nat} {mr : Nat} {fn : Nat} {gve : Nat → Nat} {glk : Nat → Nat} {gba : Nat → Nat} {gki : Nat → Nat} {gfi : Nat → Nat} {gat : Nat → Nat} {gse : Nat → Nat} {gst : Nat → Nat} {gbs : Nat → Nat} {gga : Nat → Nat} {gwa : Nat → Nat} {z : Zg} (hR : Rel nc rc fve flk fjo fba fro fal fbe fco gv ch dn fle fho ftr fke nm kc cb ef th mn mr fn gve glk gba gki gfi gat gse gst gbs gga gwa z) (p0 : Int32) (dd : Int64) : (digF p0 dd nc fve flk fba).1 = (mdigF p0 dd mn gve glk gba).1 ∧ Rel nc rc fve flk fjo ((digF p0 dd nc fve flk fba).2) fro fal fbe fco gv ch dn fle fho ftr fke nm kc cb ef 0 mn mr fn gve glk ((mdigF p0 dd mn gve glk gba).2) gki gfi gat gse gst gbs gga gwa z := by
  have hR0 := hR
  obtain ⟨hB, hS⟩ := hR
  obtain ⟨hnc, hrc, hemn, hemr, hfn, h1, hjo, h2, h3, h4, htr, hke, hco, hgv, hch, hdn, hvc, hve, hlk, hbs, hga, hwa, hfi, hse, hat, hst, hki, hZ, hZb6⟩ := hB
  obtain ⟨sve, slk, sba, sb64, sro, sal, sbe, srw, sco, sc0, sgv, sch, sdn⟩ := hS
  have e1 := hemn.symm
  subst e1
  have e2 := hemr.symm
  subst e2
  subst sve
  unfold digF mdigF
  by_cases c0 : isN p0 nc
  · rw [if_pos c0, if_pos c0]
    have hlt := isN_lt (by omega) c0
    rw [← slk _ hlt]
    by_cases k0 : flk (toN p0) = 0
    · rw [if_pos k0, if_pos k0]
      exact ⟨rfl, hR0⟩
    · rw [if_neg k0, if_neg k0]
      by_cases k1 : flk (toN p0) ≤ fve (toN p0)
      · rw [if_pos k1, if_pos (show flk (toN p0) < fve (toN p0) + 1 by omega)]
        refine ⟨rfl, ?_⟩
        have hv6 := hvc (toN p0)
        have e3 : flk (toN p0) = (flk (toN p0) - 1) + 1 := by omega
        have hb := sb64 (toN p0)
        have hoff := dig_off (gba (toN p0)) hb (flk (toN p0) - 1) (by omega)
        have hon := dig_on (gba (toN p0)) hb (flk (toN p0) - 1) (by omega)
        rw [← e3] at hoff hon
        by_cases kd : lg_cmp dd (dgN (nI (toN p0)) (mI (flk (toN p0)))) = 0
        · rw [if_pos kd, if_pos kd]
          refine ⟨⟨hnc, hrc, rfl, rfl, hfn, h1, hjo, h2, h3, h4, htr, hke, hco, hgv, hch, hdn, hvc, hve, hlk, hbs, hga, hwa, hfi, hse, hat, hst, hki, hZ, hZb6⟩, ⟨rfl, slk, ?_, ?_, sro, sal, sbe, srw, sco, sc0, sgv, sch, sdn⟩⟩
          · intro j
            show va_up fba (toN p0) _ j = 2 * va_up gba (toN p0) _ j
            rw [va_up_at, va_up_at, sba (toN p0)]
            split
            · exact hoff.1
            · exact sba j
          · exact up_lt sb64 hoff.2
        · rw [if_neg kd, if_neg kd]
          refine ⟨⟨hnc, hrc, rfl, rfl, hfn, h1, hjo, h2, h3, h4, htr, hke, hco, hgv, hch, hdn, hvc, hve, hlk, hbs, hga, hwa, hfi, hse, hat, hst, hki, hZ, hZb6⟩, ⟨rfl, slk, ?_, ?_, sro, sal, sbe, srw, sco, sc0, sgv, sch, sdn⟩⟩
          · intro j
            show va_up fba (toN p0) _ j = 2 * va_up gba (toN p0) _ j
            rw [va_up_at, va_up_at, sba (toN p0)]
            split
            · exact hon.1
            · exact sba j
          · exact up_lt sb64 hon.2
      · rw [if_neg k1, if_neg (show ¬ flk (toN p0) < fve (toN p0) + 1 by omega)]
        exact ⟨rfl, hR0⟩
  · rw [if_neg c0, if_neg c0]
    exact ⟨rfl, hR0⟩

set_option maxHeartbeats 4000000 in
set_option maxRecDepth 100000 in
theorem rel_merge {K : Nat} (hKO : KOK K) {nc : Nat} {rc : Nat} {fve : Nat → Nat} {flk : Nat → Nat} {fjo : Nat → Nat} {fba : Nat → Nat} {fro : Nat → Nat} {fal : Nat → Nat} {fbe : Nat → Nat} {fco : Nat → Nat} {gv : Nat} {ch : Nat} {dn : Nat} {fle : Nat → Nat} {fho : Nat → Nat} {ftr : Nat → Nat} {fke : Nat → Nat} {nm : Nat} {kc : Nat} {cb : Nat} {ef : Nat} {th : Nat} {mn : Nat} {mr : Nat} {fn : Nat} {gve : Nat → Nat} {glk : Nat → Nat} {gba : Nat → Nat} {gki : Nat → Nat} {gfi : Nat → Nat} {gat : Nat → Nat} {gse : Nat → Nat} {gst : Nat → Nat} {gbs : Nat → Nat} {gga : Nat → Nat} {gwa : Nat → Nat} {z : Zg} (hR : Rel nc rc fve flk fjo fba fro fal fbe fco gv ch dn fle fho ftr fke nm kc cb ef th mn mr fn gve glk gba gki gfi gat gse gst gbs gga gwa z) (p0 : Int32) : (mergeF p0 nc fbe flk fjo fba fal fho fle ftr fke fco gv ch dn nm kc cb ef).1 = (mmergeF K p0 mn mr gve glk gba gki gfi gat gse gst gbs z fn gga gwa).1 ∧ Rel nc rc fve ((mergeF p0 nc fbe flk fjo fba fal fho fle ftr fke fco gv ch dn nm kc cb ef).2.1.1) ((mergeF p0 nc fbe flk fjo fba fal fho fle ftr fke fco gv ch dn nm kc cb ef).2.2.1) ((mergeF p0 nc fbe flk fjo fba fal fho fle ftr fke fco gv ch dn nm kc cb ef).2.1.2) fro fal fbe ((mergeF p0 nc fbe flk fjo fba fal fho fle ftr fke fco gv ch dn nm kc cb ef).2.2.2.1.1) ((mergeF p0 nc fbe flk fjo fba fal fho fle ftr fke fco gv ch dn nm kc cb ef).2.2.2.1.2.1) ((mergeF p0 nc fbe flk fjo fba fal fho fle ftr fke fco gv ch dn nm kc cb ef).2.2.2.1.2.2.1) ((mergeF p0 nc fbe flk fjo fba fal fho fle ftr fke fco gv ch dn nm kc cb ef).2.2.2.1.2.2.2) ((mergeF p0 nc fbe flk fjo fba fal fho fle ftr fke fco gv ch dn nm kc cb ef).2.2.2.2.1.1) ((mergeF p0 nc fbe flk fjo fba fal fho fle ftr fke fco gv ch dn nm kc cb ef).2.2.2.2.2.1) ((mergeF p0 nc fbe flk fjo fba fal fho fle ftr fke fco gv ch dn nm kc cb ef).2.2.2.2.1.2.1) ((mergeF p0 nc fbe flk fjo fba fal fho fle ftr fke fco gv ch dn nm kc cb ef).2.2.2.2.1.2.2.1) ((mergeF p0 nc fbe flk fjo fba fal fho fle ftr fke fco gv ch dn nm kc cb ef).2.2.2.2.2.2.1) ((mergeF p0 nc fbe flk fjo fba fal fho fle ftr fke fco gv ch dn nm kc cb ef).2.2.2.2.1.2.2.2.1) ((mergeF p0 nc fbe flk fjo fba fal fho fle ftr fke fco gv ch dn nm kc cb ef).2.2.2.2.1.2.2.2.2) ((mergeF p0 nc fbe flk fjo fba fal fho fle ftr fke fco gv ch dn nm kc cb ef).2.2.2.2.2.2.2) 0 mn mr ((mmergeF K p0 mn mr gve glk gba gki gfi gat gse gst gbs z fn gga gwa).2.2.2.2.1) gve ((mmergeF K p0 mn mr gve glk gba gki gfi gat gse gst gbs z fn gga gwa).2.1.1) ((mmergeF K p0 mn mr gve glk gba gki gfi gat gse gst gbs z fn gga gwa).2.1.2) gki gfi gat gse gst ((mmergeF K p0 mn mr gve glk gba gki gfi gat gse gst gbs z fn gga gwa).2.2.1) ((mmergeF K p0 mn mr gve glk gba gki gfi gat gse gst gbs z fn gga gwa).2.2.2.2.2.1) ((mmergeF K p0 mn mr gve glk gba gki gfi gat gse gst gbs z fn gga gwa).2.2.2.2.2.2) ((mmergeF K p0 mn mr gve glk gba gki gfi gat gse gst gbs z fn gga gwa).2.2.2.1) := by
  have hR0 := hR
  obtain ⟨hB, hS⟩ := hR
  obtain ⟨hnc, hrc, hemn, hemr, hfn, h1, hjo, h2, h3, h4, htr, hke, hco, hgv, hch, hdn, hvc, hve, hlk, hbs, hga, hwa, hfi, hse, hat, hst, hki, hZ, hZb6⟩ := hB
  obtain ⟨sve, slk, sba, sb64, sro, sal, sbe, srw, sco, sc0, sgv, sch, sdn⟩ := hS
  have e1 := hemn.symm
  subst e1
  have e2 := hemr.symm
  subst e2
  subst sve
  have hRow := rel_rowok hR0
  unfold mergeF mmergeF
  by_cases c : ¬ p0 < 0
  · rw [if_pos c, if_pos c]
    by_cases c2 : toN p0 >>> (3 * nc) = 0
    · rw [if_pos c2, if_pos c2]
      have hgb := mjF_lt (mn := nc) (pp := toN p0) hlk hbs
      have hhm := joF_lt (nc := nc) (pp := toN p0) h1 hjo
      have hh := jm_home (nc := nc) (pp := toN p0) (fjo := fjo) (gbs := gbs) slk
      generalize joF nc (toN p0) flk fjo = hm at *
      generalize mjF nc (toN p0) glk gbs = gb at *
      have hPB := pairB (K := K) (fho := fho) (fle := fle) (ftr := ftr) (fke := fke) hnc hvc hgb h3 sba sb64 sal sbe hh hRow hKO z
      have f1 := findX_inv (nn := nc) (ef := 0) (fbe := fbe) (fbd := fba) (ftr := ftr) (fke := fke) hnc hhm h2 h3 h4
      have f2 := findX_t (nn := nc) (ef := 0) (fbe := fbe) (fbd := fba) hhm h2 h3 h4 htr hke
      have f3 := findY_inv (nn := nc) (fbd := fba) hhm h2 h3 h4
      have i1 := lfbF_inv (K := K) (mn := nc) (mr := rc) (gba := gba) (gbs := gb) (gki := gki) (gfi := gfi) (gat := gat) (gse := gse) (gst := gst) hnc hvc hZ
      have i2 := lfb_bt (Nat.le_refl 6) hnc hvc hgb sb64 hRow hKO z hZb6
      generalize lfbF K nc rc fve gba gb gki gfi gat gse gst z = LF at *
      generalize findX nc 0 fbe hm fba fal fho fle ftr fke = X0 at *
      generalize findY nc hm fba fal fho fle = Y0 at *
      rcases hPB with ⟨n1, n2⟩ | ⟨n1, n2, n3, n4, n5, n6, n7⟩
      · rw [if_neg n1, if_pos n2]
        refine ⟨rfl, ?_⟩
        dsimp only
        exact ⟨⟨hnc, hrc, rfl, rfl, hfn, h1, hhm, f3.1, h3, f1.1, f2.1, f2.2, hco, hgv, hch, hdn, hvc, hve, hlk, hgb, hga, hwa, hfi, hse, hat, hst, hki, i1, i2⟩, ⟨rfl, slk, sba, sb64, sro, sal, sbe, srw, sco, sc0, sgv, sch, sdn⟩⟩
      · rw [if_pos n1, if_neg (show ¬ LF.1 = 0 by rw [n2]; decide)]
        obtain ⟨g1, g2, g3, g4, g5⟩ := found_rel (gga := gga) (gwa := gwa) hnc hfn hh sc0 n4
        have k3 := kn_lt (fke := X0.2.2.1) (fhm := hm) hnc (fco := fco)
        obtain ⟨l1, l2, l3, l4, l5⟩ := lm_rel (nc := nc) slk sba sb64 h1 hlk (knBody_lt (fhm := hm) f2.2 nc 0 (fco, 0, 0, 0) hco) (mkp_ga (nc := nc) (gb := gb) (gwa := gwa) i2 hga) g1
        refine ⟨rfl, ?_⟩
        dsimp only
        exact ⟨⟨hnc, hrc, rfl, rfl, (Nat.le_refl _), l1, hhm, f3.1, h3, f1.1, f2.1, f2.2, (knBody_lt f2.2 _ _ _ hco), k3.1, k3.2.1, k3.2.2, hvc, hve, l2, hgb, (mkp_ga i2 hga), (mkp_wa hgb hwa), hfi, hse, hat, hst, hki, i1, i2⟩, ⟨rfl, l3, l4, l5, sro, sal, sbe, srw, g1, g2, g3, g4, g5⟩⟩
    · rw [if_neg c2, if_neg c2]
      exact ⟨rfl, hR0⟩
  · rw [if_neg c, if_neg c]
    exact ⟨rfl, hR0⟩

set_option maxHeartbeats 4000000 in
set_option maxRecDepth 100000 in
theorem rel_row {nc : Nat} {rc : Nat} {fve : Nat → Nat} {flk : Nat → Nat} {fjo : Nat → Nat} {fba : Nat → Nat} {fro : Nat → Nat} {fal : Nat → Nat} {fbe : Nat → Nat} {fco : Nat → Nat} {gv : Nat} {ch : Nat} {dn : Nat} {fle : Nat → Nat} {fho : Nat → Nat} {ftr : Nat → Nat} {fke : Nat → Nat} {nm : Nat} {kc : Nat} {cb : Nat} {ef : Nat} {th : Nat} {mn : Nat} {mr : Nat} {fn : Nat} {gve : Nat → Nat} {glk : Nat → Nat} {gba : Nat → Nat} {gki : Nat → Nat} {gfi : Nat → Nat} {gat : Nat → Nat} {gse : Nat → Nat} {gst : Nat → Nat} {gbs : Nat → Nat} {gga : Nat → Nat} {gwa : Nat → Nat} {z : Zg} (hR : Rel nc rc fve flk fjo fba fro fal fbe fco gv ch dn fle fho ftr fke nm kc cb ef th mn mr fn gve glk gba gki gfi gat gse gst gbs gga gwa z) (p0 : Int32) : (isN p0 rc ↔ isN p0 mr) ∧ (isN p0 rc → fro (toN p0) = mrowF p0 mr gki gfi gat gse) ∧ Rel nc rc fve flk fjo fba fro fal fbe fco gv ch dn fle fho ftr fke nm kc cb ef (if isN p0 mr then 0 else 1) mn mr fn gve glk gba gki gfi gat gse gst gbs gga gwa z := by
  have hR0 := hR
  obtain ⟨hB, hS⟩ := hR
  obtain ⟨hnc, hrc, hemn, hemr, hfn, h1, hjo, h2, h3, h4, htr, hke, hco, hgv, hch, hdn, hvc, hve, hlk, hbs, hga, hwa, hfi, hse, hat, hst, hki, hZ, hZb6⟩ := hB
  obtain ⟨sve, slk, sba, sb64, sro, sal, sbe, srw, sco, sc0, sgv, sch, sdn⟩ := hS
  have e1 := hemn.symm
  subst e1
  have e2 := hemr.symm
  subst e2
  subst sve
  refine ⟨Iff.rfl, ?_, hR0⟩
  intro c0
  unfold mrowF
  rw [if_pos c0]
  exact sro _ (isN_lt (by omega) c0)

