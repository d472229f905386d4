set_option maxRecDepth 100000 in
theorem tr_wt : ∀ nc, nc < 9 → ∀ k, k < nc + 1 → trF nc k = (nI (wtF nc k)).toInt64 := by decide +kernel
theorem isBest_home {fho fho' : Nat → Nat} {E : List (List Nat)} {n : Nat} (hl : ∀ t ∈ E, t.length = n) (h : ∀ k, k < n → fho k = fho' k) {t : List Nat} (hb : isBest fho E t) : isBest fho' E t := by
  obtain ⟨E1, E2, e, h1, h2⟩ := hb
  have hc : ∀ t' ∈ E, costS fho 0 t' = costS fho' 0 t' := fun t' ht' => costS_home t' 0 (fun k _ hk => h k (by rw [hl t' ht'] at hk; omega))
  have ht : t ∈ E := by rw [e]; simp
  refine ⟨E1, E2, e, fun t' ht' => ?_, fun t' ht' => ?_⟩
  · rw [← hc t ht, ← hc t' ht']; exact h1 t' ht'
  · have hin : t' ∈ E := by rw [e]; exact List.mem_append_left _ ht'
    rw [← hc t ht, ← hc t' hin]; exact h2 t' ht'
section PAIR
variable {K nc rc : Nat} {fbe fal fba fhm gve gba gb gki gfi gat gse gst fho fle ftr fke : Nat → Nat}
theorem E_eq (hnc : nc ≤ 8) (h3 : ∀ j, fal j < 128) (sba : ∀ j, fba j = 2 * gba j) (sal : ∀ n, n < nc → fal n = alR gve gki gfi gat gse gst rc n) (sbe : ∀ j, j < 448 → fbe j = beR gki gfi gat gse gst rc j) (hh : ∀ j, j < nc → fhm j = gb j) : enumC fbe fhm nc 0 (fun k => (fal k) &&& ((fba k) ^^^ 4294967295)) = EE gve gba gb gki gfi gat gse gst nc rc := by
  unfold EE
  rw [enumC_home fbe (fho' := gb) nc 0 _ (fun k _ hk => hh k (by omega)), enumC_be sbe nc 0 _ (by omega) (fun k => and_lt128 (h3 k))]
  refine enumC_congr _ _ _ _ _ _ (fun k _ hk => ?_)
  unfold L0
  show (fal k) &&& ((fba k) ^^^ 4294967295) = _
  rw [sal k (by omega), sba k]
theorem pairB (hnc : nc ≤ 8) (hve : ∀ j, gve j ≤ 6) (hgb : ∀ j, gb j < 32) (h3 : ∀ j, fal j < 128) (sba : ∀ j, fba j = 2 * gba j) (sb64 : ∀ j, gba j < 64) (sal : ∀ n, n < nc → fal n = alR gve gki gfi gat gse gst rc n) (sbe : ∀ j, j < 448 → fbe j = beR gki gfi gat gse gst rc j) (hh : ∀ j, j < nc → fhm j = gb j) (hRow : RowOK nc rc gki gfi gat gse gst) (hK : TT 8 ≤ K) (z : Zg) :
    (¬ (findX nc 0 fbe fhm fba fal fho fle ftr fke).2.2.2.1 < 144 ∧ (lfbF K nc rc gve gba gb gki gfi gat gse gst z).1 = 0) ∨
    ((findX nc 0 fbe fhm fba fal fho fle ftr fke).2.2.2.1 < 144 ∧ (lfbF K nc rc gve gba gb gki gfi gat gse gst z).1 = 1 ∧ (findX nc 0 fbe fhm fba fal fho fle ftr fke).2.2.2.1 / 16 = (lfbF K nc rc gve gba gb gki gfi gat gse gst z).2.2.2.2.2.2.2.1 ∧ (∀ j, j < nc → (findX nc 0 fbe fhm fba fal fho fle ftr fke).2.2.1 j = gvC ((lfbF K nc rc gve gba gb gki gfi gat gse gst z).2.2.2.1 j)) ∧ (∀ gga gwa : Nat → Nat, (mkpF nc (lfbF K nc rc gve gba gb gki gfi gat gse gst z).2.2.2.1 gb gga gwa).2.2 = (findX nc 0 fbe fhm fba fal fho fle ftr fke).2.2.2.1 / 16) ∧ enumC fbe fhm nc 0 (fun k => (fal k) &&& ((fba k) ^^^ 4294967295)) ≠ [] ∧ (findX nc 0 fbe fhm fba fal fho fle ftr fke).2.2.2.1 / 16 ≤ nc) := by
  have hE := E_eq (nc := nc) (rc := rc) (gve := gve) hnc h3 sba sal sbe hh
  rcases findB (fbe := fbe) (fhm := fhm) (fbd := fba) (fal := fal) (fho := fho) (fle := fle) (ftr := ftr) (fke := fke) hnc (fun j hj => by rw [hh j hj]; exact hgb j) h3 with ⟨e, hk⟩ | ⟨t, hb, hlen, hk, hke⟩
  · refine Or.inl ⟨by rw [hk]; decide, ?_⟩
    rw [hE] at e
    exact lfb_none hnc hve hgb sb64 hRow hK z e
  · refine Or.inr ?_
    have hne : EE gve gba gb gki gfi gat gse gst nc rc ≠ [] := by
      obtain ⟨E1, E2, e, _⟩ := hb
      rw [hE] at e
      rw [e]
      simp
    obtain ⟨o1, t', hb', hbt, hbc⟩ := lfb_some hnc hve hgb sb64 hRow hK z hne
    rw [hE] at hb
    have hb2 : isBest gb (EE gve gba gb gki gfi gat gse gst nc rc) t := isBest_home (n := nc) (fun t ht => EE_len ht) hh hb
    have htt : t' = t := isBest_uniq hb' hb2
    subst htt
    have hch : chS fhm 0 t' = chS gb 0 t' := chS_home t' 0 (fun k _ hkk => hh k (by rw [hlen] at hkk; omega))
    have hcs := costS_eq fhm t' 0
    have hdw := dwS_len fhm t' 0
    have hcl := chS_len fhm t' 0
    rw [hlen] at hdw hcl
    have hdiv : (findX nc 0 fbe fhm fba fal fho fle ftr fke).2.2.2.1 / 16 = chS fhm 0 t' := by rw [hk, hcs]; omega
    have hlt := costS_lt fhm t' 0 (by rw [hlen]; exact hnc)
    rw [hlen] at hlt
    refine ⟨by rw [hk]; omega, o1, by rw [hdiv, hbc, hch], fun j hj => by rw [hke j hj, (hbt j hj).1], ?_, by rw [hE]; exact hne, by rw [hdiv]; exact hcl⟩
    intro gga gwa
    unfold mkpF
    have hc := kb_count (gbt := (lfbF K nc rc gve gba gb gki gfi gat gse gst z).2.2.2.1) (gbs := gb) t' 0 (gga, gwa, 0) (fun j hj => by rw [Nat.zero_add]; exact (hbt j (by omega)).1)
    rw [hlen] at hc
    rw [hc, hdiv, hch]
    show 0 + _ = _
    omega
theorem pairF (hnc : nc ≤ 8) (hve : ∀ j, gve j ≤ 6) (hgb : ∀ j, gb j < 32) (h3 : ∀ j, fal j < 128) (sba : ∀ j, fba j = 2 * gba j) (sb64 : ∀ j, gba j < 64) (sal : ∀ n, n < nc → fal n = alR gve gki gfi gat gse gst rc n) (sbe : ∀ j, j < 448 → fbe j = beR gki gfi gat gse gst rc j) (hh : ∀ j, j < nc → fhm j = gb j) (hRow : RowOK nc rc gki gfi gat gse gst) (hK : TT 8 ≤ K) (z : Zg) (hne : enumC fbe fhm nc 0 (fun k => (fal k) &&& ((fba k) ^^^ 4294967295)) ≠ []) :
    ¬ (lookF K nc rc gve gba gb gki gfi gat gse gst 8 8 z).2.2.2.2.2.2.2.2.2 = 0 ∧ (∀ j, j < nc → (findX nc 1 fbe fhm fba fal fho fle ftr fke).2.2.1 j = gvC ((lookF K nc rc gve gba gb gki gfi gat gse gst 8 8 z).2.2.1 j)) ∧ (∀ gga gwa : Nat → Nat, (mkpF nc (lookF K nc rc gve gba gb gki gfi gat gse gst 8 8 z).2.2.1 gb gga gwa).2.2 = (findX nc 1 fbe fhm fba fal fho fle ftr fke).2.2.2.1 / 16) := by
  have hE := E_eq (nc := nc) (rc := rc) (gve := gve) hnc h3 sba sal sbe hh
  have hne' : EE gve gba gb gki gfi gat gse gst nc rc ≠ [] := by rw [← hE]; exact hne
  have ha := look88 hnc hve hgb sb64 hRow hK z hne'
  obtain ⟨t, E1, E2, e, hp, hE1, hbt, hbc⟩ := lookR_some (look_res hnc hve hgb sb64 hRow hK 8 8 z) ha
  have hE1' : E1 = [] := by
    cases E1 with
    | nil => rfl
    | cons u U =>
      exfalso
      have hu : u ∈ EE gve gba gb gki gfi gat gse gst nc rc := by rw [e]; simp
      have l1 := dwS_len gb u 0
      have l2 := chS_len gb u 0
      rw [EE_len hu] at l1 l2
      exact hE1 u List.mem_cons_self ⟨by omega, by omega⟩
  subst hE1'
  have hlen : t.length = nc := EE_len (by rw [e]; simp)
  obtain ⟨f1, f2⟩ := findF (fho := fho) (fle := fle) (ftr := ftr) (fke := fke) hnc (fun j hj => by rw [hh j hj]; exact hgb j) h3 (hE.trans e)
  have hch : chS fhm 0 t = chS gb 0 t := chS_home t 0 (fun k _ hkk => hh k (by rw [hlen] at hkk; omega))
  have hcs := costS_eq fhm t 0
  have hdw := dwS_len fhm t 0
  rw [hlen] at hdw
  refine ⟨ha, fun j hj => by rw [f2 j hj, (hbt j hj).1], ?_⟩
  intro gga gwa
  unfold mkpF
  have hc := kb_count (gbt := (lookF K nc rc gve gba gb gki gfi gat gse gst 8 8 z).2.2.1) (gbs := gb) t 0 (gga, gwa, 0) (fun j hj => by rw [Nat.zero_add]; exact (hbt j (by omega)).1)
  rw [hlen] at hc
  rw [hc, f1, hcs, hch]
  show 0 + _ = _
  omega
/-- what is found, on both sides -/
theorem found_rel (hnc : nc ≤ 8) {fn : Nat} (hfn : fn ≤ nc) {fco gga gwa bt : Nat → Nat} (hh : ∀ j, j < nc → fhm j = gb j) (sc0 : ∀ j, fn ≤ j → fco j = 0) (hk : ∀ j, j < nc → fke j = gvC (bt j)) :
    (∀ j, j < nc → (zlp (knBody fke fhm) nc 0 (fco, 0, 0, 0)).1 j = (mkpF nc bt gb gga gwa).1 j) ∧ (∀ j, nc ≤ j → (zlp (knBody fke fhm) nc 0 (fco, 0, 0, 0)).1 j = 0) ∧
    (∀ j, j < 8 → (((zlp (knBody fke fhm) nc 0 (fco, 0, 0, 0)).2.1 >>> j) &&& 1 = 0 ↔ ¬ (j < nc ∧ (mkpF nc bt gb gga gwa).1 j ≠ 0))) ∧
    (∀ j, j < 8 → ((zlp (knBody fke fhm) nc 0 (fco, 0, 0, 0)).2.2.1 >>> j) &&& 1 = (if j < nc ∧ (mkpF nc bt gb gga gwa).1 j ≠ (mkpF nc bt gb gga gwa).2.1 j then 1 else 0)) ∧
    (∀ j, j < 8 → (((zlp (knBody fke fhm) nc 0 (fco, 0, 0, 0)).2.2.2 >>> j) &&& 1 = 0 ↔ ¬ (j < nc ∧ (mkpF nc bt gb gga gwa).1 j ≠ 0 ∧ (mkpF nc bt gb gga gwa).1 j < (mkpF nc bt gb gga gwa).2.1 j))) := by
  have hga : ∀ j, j < nc → (mkpF nc bt gb gga gwa).1 j = fke j := fun j hj => by
    unfold mkpF
    rw [(kb_at nc 0 (gga, gwa, 0) j).1, if_pos (by omega), hk j hj]
  have hwa : ∀ j, j < nc → (mkpF nc bt gb gga gwa).2.1 j = fhm j := fun j hj => by
    unfold mkpF
    rw [(kb_at nc 0 (gga, gwa, 0) j).2, if_pos (by omega), hh j hj]
  obtain ⟨b1, b2, b3⟩ := kn_bits (fke := fke) (fhm := fhm) nc 0 (fco, 0, 0, 0) (by omega) (by show 0 < 256; decide) (by show 0 < 256; decide) (by show 0 < 256; decide)
  refine ⟨fun j hj => ?_, fun j hj => ?_, fun j hj => ?_, fun j hj => ?_, fun j hj => ?_⟩
  · rw [kn_codes, if_pos (by omega), hga j hj]
  · rw [kn_codes, if_neg (by omega)]
    exact sc0 j (by omega)
  · rw [b1.2 j hj]
    have e0 : ((0 : Nat) >>> j) &&& 1 = 0 := by rw [Nat.zero_shiftRight, Nat.zero_and]
    show (if _ then 1 else ((0 : Nat) >>> j) &&& 1) = 0 ↔ _
    rw [e0]
    by_cases hq : j < nc
    · rw [hga j hq]
      by_cases h0 : fke j = 0
      · rw [if_neg (fun z => z.2 h0)]
        exact ⟨fun _ z => z.2 h0, fun _ => rfl⟩
      · rw [if_pos ⟨by omega, h0⟩]
        exact ⟨fun z => absurd z (by decide), fun z => absurd ⟨hq, h0⟩ z⟩
    · rw [if_neg (by omega)]
      exact ⟨fun _ z => hq z.1, fun _ => rfl⟩
  · rw [b2.2 j hj]
    have e0 : ((0 : Nat) >>> j) &&& 1 = 0 := by rw [Nat.zero_shiftRight, Nat.zero_and]
    show (if _ then 1 else ((0 : Nat) >>> j) &&& 1) = _
    rw [e0]
    by_cases hq : j < nc
    · rw [hga j hq, hwa j hq]
      by_cases h0 : fke j = fhm j
      · rw [if_neg (fun z => z.2 h0), if_neg (fun z => z.2 h0)]
      · rw [if_pos ⟨by omega, h0⟩, if_pos ⟨hq, h0⟩]
    · rw [if_neg (by omega), if_neg (fun z => hq z.1)]
  · rw [b3.2 j hj]
    have e0 : ((0 : Nat) >>> j) &&& 1 = 0 := by rw [Nat.zero_shiftRight, Nat.zero_and]
    show (if _ then 1 else ((0 : Nat) >>> j) &&& 1) = 0 ↔ _
    rw [e0]
    by_cases hq : j < nc
    · rw [hga j hq, hwa j hq]
      by_cases h0 : fke j ≠ 0 ∧ fke j < fhm j
      · rw [if_pos ⟨by omega, h0⟩]
        exact ⟨fun z => absurd z (by decide), fun z => absurd ⟨hq, h0⟩ z⟩
      · rw [if_neg (fun z => h0 z.2)]
        exact ⟨fun _ z => h0 z.2, fun _ => rfl⟩
    · rw [if_neg (by omega)]
      exact ⟨fun _ z => hq z.1, fun _ => rfl⟩
theorem mkp_wa {bt gga gwa : Nat → Nat} (hgb : ∀ j, gb j < 32) (hwa : ∀ j, gwa j < 32) : ∀ j, (mkpF nc bt gb gga gwa).2.1 j < 32 := fun j => by
  unfold mkpF
  rw [(kb_at nc 0 (gga, gwa, 0) j).2]
  split
  · exact hgb j
  · exact hwa j
theorem mkp_ga {bt gga gwa : Nat → Nat} (hbt : ∀ j, bt j ≤ 6) (hga : ∀ j, gga j < 32) : ∀ j, (mkpF nc bt gb gga gwa).1 j < 32 := kbB_lt hbt _ _ _ hga
theorem kn_lt (hnc : nc ≤ 8) {fco : Nat → Nat} : (zlp (knBody fke fhm) nc 0 (fco, 0, 0, 0)).2.1 < 256 ∧ (zlp (knBody fke fhm) nc 0 (fco, 0, 0, 0)).2.2.1 < 256 ∧ (zlp (knBody fke fhm) nc 0 (fco, 0, 0, 0)).2.2.2 < 256 := by
  obtain ⟨b1, b2, b3⟩ := kn_bits (fke := fke) (fhm := fhm) nc 0 (fco, 0, 0, 0) (by omega) (by show 0 < 256; decide) (by show 0 < 256; decide) (by show 0 < 256; decide)
  exact ⟨b1.1, b2.1, b3.1⟩
end PAIR
