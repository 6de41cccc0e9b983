theorem i_vc_word {k : Nat} {u : SX} {v : SY} (I : i_Rel k u v) (hk : k + 3 ≤ 1536) (v1 : Int32) : wpX_word (fun r u' => wpY_word (fun r' v' => r' = r ∧ i_Rel (k + 3) u' v') v v1) u v1 := by
  obtain ⟨w, T, tl, rs, WL, WS, LF, RG, PR, SP, LN, LT, TX, RE, WC, rlX, msX, rowX, mdX, pf, wf, sa, sk, st, sr, rlY, mkY, kpY, rowY, pt, sm, nb, sl, tr, bg, rfl, rfl, hI⟩ := I
  obtain ⟨hw, htl, hrs, hE, hag, hWL, hWS, hLF, hRG, hPR, hSP, hLT, hTX, hRE, hsum⟩ := id hI
  obtain ⟨h6, hT, hl1, hl8, hlet⟩ := id hE
  by_cases c1 : v1 < 1
  · exact br_t c1 (br_t c1 ⟨rfl, ts_mk hI⟩)
  by_cases c2 : v1 ≤ 50
  · by_cases c3 : w = 12
    · subst c3
      exact br_f c1 (br_t c2 (br_f (by decide) (br_f c1 (br_t c2 (br_t rfl ⟨rfl, ts_mk hI⟩)))))
    · have ew : (nI w).toNatClampNeg = w := nI_clamp (by omega)
      have e1 : upd WC (nI w).toNatClampNeg v1 = upd WC w v1 := by rw [ew]
      have e2 : upd (ts_F WS) (nI w).toNatClampNeg 0 = ts_F (ts_un WS w 0) := by
        rw [ew]
        exact ts_F_up WS w 0
      have nw : ¬ nI w = 12 := fun z => c3 ((nI_eq (b := 12) (by omega) (by decide)).mp z)
      refine br_f c1 (br_t c2 (br_t (nI_lt (b := 12) (by omega) (by decide)) ⟨ts_v (by omega), nm_r e1 ⟨ts_v (by omega), nm_r e2 (nm_r (nI_1 w) ?_)⟩⟩))
      exact br_f c1 (br_t c2 (br_f nw ⟨ts_v (by omega), nm_r e1 ⟨ts_v (by omega), nm_r e2 (nm_r (nI_1 w) ⟨rfl, ts_mk ⟨by omega, htl, hrs, hE, hag, hWL, ts_un_all (P := fun x => x ≤ 8) hWS (Nat.zero_le 8), hLF, hRG, hPR, hSP, hLT, hTX, hRE, hsum⟩⟩)⟩⟩))
  · exact br_f c1 (br_f c2 (br_f c1 (br_f c2 ⟨rfl, ts_mk hI⟩)))
theorem i_vc_spell {k : Nat} {u : SX} {v : SY} (I : i_Rel k u v) (hk : k + 3 ≤ 1536) (v1 : Int32) : wpX_spell (fun r u' => wpY_spell (fun r' v' => r' = r ∧ i_Rel (k + 3) u' v') v v1) u v1 := by
  unfold wpX_spell wpY_spell
  obtain ⟨w, T, tl, rs, WL, WS, LF, RG, PR, SP, LN, LT, TX, RE, WC, rlX, msX, rowX, mdX, pf, wf, sa, sk, st, sr, rlY, mkY, kpY, rowY, pt, sm, nb, sl, tr, bg, rfl, rfl, hI⟩ := I
  obtain ⟨hw, htl, hrs, hE, hag, hWL, hWS, hLF, hRG, hPR, hSP, hLT, hTX, hRE, hsum⟩ := id hI
  obtain ⟨h6, hT, hl1, hl8, hlet⟩ := id hE
  rcases ts_or (x := v1) 6 (by decide) with hb | ⟨j, hj, rfl⟩
  · refine tx_let0 hb ?_
    refine br_t rfl ?_
    refine ty_let1 hb ?_
    refine br_f ts_10 ?_
    exact ⟨rfl, ts_mk hI⟩
  · refine tx_let1 hj ?_
    refine br_f ts_10 ?_
    by_cases c1 : w = 0
    · subst c1
      refine br_t rfl ?_
      refine ty_let0 hj ?_
      refine br_t rfl ?_
      refine br_t rfl ?_
      exact ⟨rfl, ts_mk hI⟩
    · have nw : ¬ nI w = 0 := nI_ne0 (by omega) (by omega)
      have e0 : nI w - 1 = nI (w - 1) := ts_sub1 (by omega)
      have e1 : (nI (w - 1)).toNatClampNeg = w - 1 := nI_clamp (by omega)
      have s8 := hWS (w - 1)
      have e2 : ts_F WS (nI (w - 1)).toNatClampNeg = nI (WS (w - 1)) := by rw [e1]; rfl
      have vi : vp_in (nI (w - 1)) 12 := ts_v (by omega)
      refine br_f nw (nm_r e0 ⟨vi, ?_⟩)
      by_cases c2 : WS (w - 1) = 8
      · refine br_f (by rw [e2, c2]; decide) ?_
        refine ty_let0 hj ?_
        refine br_t rfl ?_
        refine br_f nw ?_
        refine nm_r e0 ?_
        exact ⟨vi, br_t (by rw [e2, c2]; rfl) ⟨rfl, ts_mk hI⟩⟩
      · have e3 : nI (w - 1) * 8 + ts_F WS (nI (w - 1)).toNatClampNeg = nI ((w - 1) * 8 + WS (w - 1)) := by rw [e2]; exact ts_ma 8 _ _
        have e4 : 8 * nI (w - 1) + ts_F WS (nI (w - 1)).toNatClampNeg = nI ((w - 1) * 8 + WS (w - 1)) := by
          rw [e2, Nat.mul_comm]
          exact ts_mb 8 _ _
        have e5 : upd (ts_F WL) (nI (w - 1) * 8 + ts_F WS (nI (w - 1)).toNatClampNeg).toNatClampNeg (nI j) = ts_F (ts_un WL ((w - 1) * 8 + WS (w - 1)) j) := by
          rw [e3, nI_clamp (by omega)]
          exact ts_F_up _ _ _
        have e6 : upd (ts_F WL) (8 * nI (w - 1) + ts_F WS (nI (w - 1)).toNatClampNeg).toNatClampNeg (nI j) = ts_F (ts_un WL ((w - 1) * 8 + WS (w - 1)) j) := by
          rw [e4, nI_clamp (by omega)]
          exact ts_F_up _ _ _
        have e7 : upd (ts_F WS) (nI (w - 1)).toNatClampNeg (ts_F WS (nI (w - 1)).toNatClampNeg + 1) = ts_F (ts_un WS (w - 1) (WS (w - 1) + 1)) := by
          rw [e2, e1, nI_1]
          exact ts_F_up _ _ _
        have n8 : ¬ ts_F WS (nI (w - 1)).toNatClampNeg = 8 := by
          rw [e2]
          exact fun z => c2 ((nI_eq (b := 8) (by omega) (by decide)).mp z)
        refine br_t (by rw [e2]; exact nI_lt (b := 8) (by omega) (by decide)) ⟨vi, by rw [e3]; exact ts_v (by omega), nm_r e5 ⟨vi, vi, nm_r e7 ⟨vi, ?_⟩⟩⟩
        refine ty_let0 hj ?_
        refine br_t rfl ?_
        refine br_f nw ?_
        refine nm_r e0 ?_
        exact ⟨vi, br_f n8 ⟨vi, by rw [e4]; exact ts_v (by omega), nm_r e6 ⟨vi, vi, nm_r e7 ⟨vi, rfl, ts_mk ⟨hw, htl, hrs, hE, hag, ts_un_all (P := fun x => x < 6) hWL hj, ts_un_all (P := fun x => x ≤ 8) hWS (by omega), hLF, hRG, hPR, hSP, hLT, hTX, hRE, hsum⟩⟩⟩⟩⟩
theorem i_vc_dropWord {k : Nat} {u : SX} {v : SY} (I : i_Rel k u v) (hk : k + 3 ≤ 1536) : wpX_dropWord (fun r u' => wpY_dropWord (fun r' v' => r' = r ∧ i_Rel (k + 3) u' v') v) u := by
  obtain ⟨w, T, tl, rs, WL, WS, LF, RG, PR, SP, LN, LT, TX, RE, WC, rlX, msX, rowX, mdX, pf, wf, sa, sk, st, sr, rlY, mkY, kpY, rowY, pt, sm, nb, sl, tr, bg, rfl, rfl, hI⟩ := I
  obtain ⟨hw, htl, hrs, hE, hag, hWL, hWS, hLF, hRG, hPR, hSP, hLT, hTX, hRE, hsum⟩ := id hI
  obtain ⟨h6, hT, hl1, hl8, hlet⟩ := id hE
  by_cases c1 : w = 0
  · subst c1
    exact br_t rfl (br_t rfl ⟨rfl, ts_mk hI⟩)
  · have nw : ¬ nI w = 0 := nI_ne0 (by omega) (by omega)
    have e0 : nI w - 1 = nI (w - 1) := ts_sub1 (by omega)
    exact br_f nw (nm_r e0 (br_f nw (nm_r e0 ⟨rfl, ts_mk ⟨by omega, htl, hrs, hE, hag, hWL, hWS, hLF, hRG, hPR, hSP, hLT, hTX, hRE, hsum⟩⟩)))
theorem i_vc_unlearn {k : Nat} {u : SX} {v : SY} (I : i_Rel k u v) (hk : k + 3 ≤ 1536) : wpX_unlearn (fun r u' => wpY_unlearn (fun r' v' => r' = r ∧ i_Rel (k + 3) u' v') v) u := by
  obtain ⟨w, T, tl, rs, WL, WS, LF, RG, PR, SP, LN, LT, TX, RE, WC, rlX, msX, rowX, mdX, pf, wf, sa, sk, st, sr, rlY, mkY, kpY, rowY, pt, sm, nb, sl, tr, bg, rfl, rfl, hI⟩ := I
  obtain ⟨hw, htl, hrs, hE, hag, hWL, hWS, hLF, hRG, hPR, hSP, hLT, hTX, hRE, hsum⟩ := id hI
  obtain ⟨h6, hT, hl1, hl8, hlet⟩ := id hE
  by_cases c1 : T = 6
  · subst c1
    exact br_f (by decide) (br_t rfl ⟨rfl, ts_mk hI⟩)
  · have e0 : nI T - 1 = nI (T - 1) := ts_sub1 (by omega)
    have nT : ¬ nI T = 6 := fun z => c1 ((nI_eq (b := 6) (by omega) (by decide)).mp z)
    refine br_t (nI_lt (a := 6) (by omega) (by omega)) (nm_r e0 (br_f nT (nm_r e0 ⟨rfl, ts_mk ⟨hw, htl, hrs, ⟨by omega, by omega, fun t ht => hl1 t (by omega), hl8, hlet⟩, fun t ht => hag t (by omega), hWL, hWS, hLF, hRG, hPR, hSP, hLT, hTX, hRE, fun t h1 h2 => hsum t h1 (by omega)⟩⟩)))
theorem i_vc_tokens {k : Nat} {u : SX} {v : SY} (I : i_Rel k u v) (hk : k + 3 ≤ 1536) : wpX_tokens (fun r => wpY_tokens (fun r' => r' = r ∧ i_Rel (k + 3) u v) v) u := by
  obtain ⟨w, T, tl, rs, WL, WS, LF, RG, PR, SP, LN, LT, TX, RE, WC, rlX, msX, rowX, mdX, pf, wf, sa, sk, st, sr, rlY, mkY, kpY, rowY, pt, sm, nb, sl, tr, bg, rfl, rfl, hI⟩ := I
  obtain ⟨hw, htl, hrs, hE, hag, hWL, hWS, hLF, hRG, hPR, hSP, hLT, hTX, hRE, hsum⟩ := id hI
  obtain ⟨h6, hT, hl1, hl8, hlet⟩ := id hE
  exact ⟨rfl, ts_mk hI⟩
theorem i_vc_left {k : Nat} {u : SX} {v : SY} (I : i_Rel k u v) (hk : k + 3 ≤ 1536) (v1 : Int32) : wpX_left (fun r => wpY_left (fun r' => r' = r ∧ i_Rel (k + 3) u v) v v1) u v1 := by
  unfold wpX_left wpY_left
  obtain ⟨w, T, tl, rs, WL, WS, LF, RG, PR, SP, LN, LT, TX, RE, WC, rlX, msX, rowX, mdX, pf, wf, sa, sk, st, sr, rlY, mkY, kpY, rowY, pt, sm, nb, sl, tr, bg, rfl, rfl, hI⟩ := I
  obtain ⟨hw, htl, hrs, hE, hag, hWL, hWS, hLF, hRG, hPR, hSP, hLT, hTX, hRE, hsum⟩ := id hI
  obtain ⟨h6, hT, hl1, hl8, hlet⟩ := id hE
  rcases ts_or (x := v1) T (by omega) with hb | ⟨j, hj, rfl⟩
  · refine tx_tok0 hb ?_
    refine br_t rfl ?_
    refine ty_tok1 hb ?_
    refine br_f ts_10 ?_
    exact ⟨rfl, ts_mk hI⟩
  · refine tx_tok1 hT hj ?_
    refine br_f ts_10 ?_
    by_cases c : j < 6
    · refine tx_let1 c ?_
      refine br_f ts_10 ?_
      refine ty_tok0 hT hj ?_
      refine br_t rfl ?_
      refine br_f (nI_ge (b := 6) c (by decide)) ?_
      exact ⟨rfl, ts_mk hI⟩
    · have c6 : nI 6 ≤ nI j := nI_le (by omega) (by omega)
      refine tx_let0 (Or.inr c6) ?_
      refine br_t rfl ?_
      exact ⟨ts_v (by omega), ty_tok0 hT hj (br_t rfl (br_t c6 ⟨ts_v (by omega), rfl, ts_mk hI⟩))⟩
theorem i_vc_right {k : Nat} {u : SX} {v : SY} (I : i_Rel k u v) (hk : k + 3 ≤ 1536) (v1 : Int32) : wpX_right (fun r => wpY_right (fun r' => r' = r ∧ i_Rel (k + 3) u v) v v1) u v1 := by
  unfold wpX_right wpY_right
  obtain ⟨w, T, tl, rs, WL, WS, LF, RG, PR, SP, LN, LT, TX, RE, WC, rlX, msX, rowX, mdX, pf, wf, sa, sk, st, sr, rlY, mkY, kpY, rowY, pt, sm, nb, sl, tr, bg, rfl, rfl, hI⟩ := I
  obtain ⟨hw, htl, hrs, hE, hag, hWL, hWS, hLF, hRG, hPR, hSP, hLT, hTX, hRE, hsum⟩ := id hI
  obtain ⟨h6, hT, hl1, hl8, hlet⟩ := id hE
  rcases ts_or (x := v1) T (by omega) with hb | ⟨j, hj, rfl⟩
  · refine tx_tok0 hb ?_
    refine br_t rfl ?_
    refine ty_tok1 hb ?_
    refine br_f ts_10 ?_
    exact ⟨rfl, ts_mk hI⟩
  · refine tx_tok1 hT hj ?_
    refine br_f ts_10 ?_
    by_cases c : j < 6
    · refine tx_let1 c ?_
      refine br_f ts_10 ?_
      refine ty_tok0 hT hj ?_
      refine br_t rfl ?_
      refine br_f (nI_ge (b := 6) c (by decide)) ?_
      exact ⟨rfl, ts_mk hI⟩
    · have c6 : nI 6 ≤ nI j := nI_le (by omega) (by omega)
      refine tx_let0 (Or.inr c6) ?_
      refine br_t rfl ?_
      exact ⟨ts_v (by omega), ty_tok0 hT hj (br_t rfl (br_t c6 ⟨ts_v (by omega), rfl, ts_mk hI⟩))⟩
theorem i_vc_length {k : Nat} {u : SX} {v : SY} (I : i_Rel k u v) (hk : k + 3 ≤ 1536) (v1 : Int32) : wpX_length (fun r => wpY_length (fun r' => r' = r ∧ i_Rel (k + 3) u v) v v1) u v1 := by
  unfold wpX_length wpY_length
  obtain ⟨w, T, tl, rs, WL, WS, LF, RG, PR, SP, LN, LT, TX, RE, WC, rlX, msX, rowX, mdX, pf, wf, sa, sk, st, sr, rlY, mkY, kpY, rowY, pt, sm, nb, sl, tr, bg, rfl, rfl, hI⟩ := I
  obtain ⟨hw, htl, hrs, hE, hag, hWL, hWS, hLF, hRG, hPR, hSP, hLT, hTX, hRE, hsum⟩ := id hI
  obtain ⟨h6, hT, hl1, hl8, hlet⟩ := id hE
  rcases ts_or (x := v1) T (by omega) with hb | ⟨j, hj, rfl⟩
  · refine tx_tok0 hb ?_
    refine br_t rfl ?_
    refine ty_tok1 hb ?_
    refine br_f ts_10 ?_
    exact ⟨rfl, ts_mk hI⟩
  · refine tx_tok1 hT hj ?_
    refine br_f ts_10 ?_
    exact ⟨ts_v (by omega), ty_tok0 hT hj (br_t rfl ⟨ts_v (by omega), rfl, ts_mk hI⟩)⟩
theorem i_vc_letter {k : Nat} {u : SX} {v : SY} (I : i_Rel k u v) (hk : k + 3 ≤ 1536) (v1 : Int32) (v2 : Int32) : wpX_letter (fun r => wpY_letter (fun r' => r' = r ∧ i_Rel (k + 3) u v) v v1 v2) u v1 v2 := by
  unfold wpX_letter wpY_letter
  obtain ⟨w, T, tl, rs, WL, WS, LF, RG, PR, SP, LN, LT, TX, RE, WC, rlX, msX, rowX, mdX, pf, wf, sa, sk, st, sr, rlY, mkY, kpY, rowY, pt, sm, nb, sl, tr, bg, rfl, rfl, hI⟩ := I
  obtain ⟨hw, htl, hrs, hE, hag, hWL, hWS, hLF, hRG, hPR, hSP, hLT, hTX, hRE, hsum⟩ := id hI
  obtain ⟨h6, hT, hl1, hl8, hlet⟩ := id hE
  rcases ts_or (x := v1) T (by omega) with hb | ⟨j, hj, rfl⟩
  · refine tx_tok0 hb ?_
    refine br_t rfl ?_
    refine ty_tok1 hb ?_
    refine br_f ts_10 ?_
    exact ⟨rfl, ts_mk hI⟩
  · refine tx_tok1 hT hj ?_
    refine br_f ts_10 ?_
    have l8 := hl8 j
    have el : ts_F LN (nI j).toNatClampNeg = nI (LN j) := by rw [nI_clamp (by omega)]; rfl
    have vj : vp_in (nI j) 20 := ts_v (by omega)
    by_cases c0 : v2 < 0
    · refine br_t c0 ?_
      refine ty_tok0 hT hj ?_
      refine br_t rfl ?_
      refine br_t c0 ?_
      exact ⟨rfl, ts_mk hI⟩
    · rcases ts_or (x := v2) (LN j) (by omega) with hb | ⟨i, hi, rfl⟩
      · have hn : ¬ v2 < ts_F LN (nI j).toNatClampNeg := by
          rw [el]
          exact ts_lt (hb.resolve_left c0)
        refine br_f c0 ?_
        exact ⟨vj, br_f hn (ty_tok0 hT hj (br_t rfl (br_f c0 ⟨vj, br_f hn ⟨rfl, ts_mk hI⟩⟩)))⟩
      · have hl : nI i < ts_F LN (nI j).toNatClampNeg := by
          rw [el]
          exact nI_lt hi (by omega)
        have e1 : nI j * 8 + nI i = nI (j * 8 + i) := ts_ma 8 j i
        have e2 : 12 * nI j + nI i = nI (12 * j + i) := ts_mb 12 j i
        refine br_f c0 ?_
        refine ⟨vj, br_t hl ⟨by rw [e1]; exact ts_v (by omega), ty_tok0 hT hj (br_t rfl (br_f c0 ⟨vj, br_t hl ⟨by rw [e2]; exact ts_v (by omega), ?_, ts_mk hI⟩⟩))⟩⟩
        rw [e1, e2, nI_clamp (by omega), nI_clamp (by omega)]
        exact congrArg nI (hag j hj i hi)
theorem i_vc_price {k : Nat} {u : SX} {v : SY} (I : i_Rel k u v) (hk : k + 3 ≤ 1536) (v1 : Int32) (v2 : Int32) : wpX_price (fun r u' => wpY_price (fun r' v' => r' = r ∧ i_Rel (k + 3) u' v') v v1 v2) u v1 v2 := by
  unfold wpX_price wpY_price
  obtain ⟨w, T, tl, rs, WL, WS, LF, RG, PR, SP, LN, LT, TX, RE, WC, rlX, msX, rowX, mdX, pf, wf, sa, sk, st, sr, rlY, mkY, kpY, rowY, pt, sm, nb, sl, tr, bg, rfl, rfl, hI⟩ := I
  obtain ⟨hw, htl, hrs, hE, hag, hWL, hWS, hLF, hRG, hPR, hSP, hLT, hTX, hRE, hsum⟩ := id hI
  obtain ⟨h6, hT, hl1, hl8, hlet⟩ := id hE
  rcases ts_or (x := v1) T (by omega) with hb | ⟨j, hj, rfl⟩
  · refine tx_tok0 hb ?_
    refine br_t rfl ?_
    refine ty_tok1 hb ?_
    refine br_f ts_10 ?_
    exact ⟨rfl, ts_mk hI⟩
  · refine tx_tok1 hT hj ?_
    refine br_f ts_10 ?_
    have vj : vp_in (nI j) 20 := ts_v (by omega)
    by_cases c1 : v2 < 1
    · refine br_t c1 ?_
      refine ty_tok0 hT hj ?_
      refine br_t rfl ?_
      refine br_t c1 ?_
      exact ⟨rfl, ts_mk hI⟩
    by_cases c2 : v2 ≤ 99
    · have n0 : ¬ v2 < 0 := by
        intro z
        apply c1
        have a := Int32.lt_iff_toInt_lt.mp z
        refine Int32.lt_iff_toInt_lt.mpr ?_
        rw [show (0 : Int32).toInt = 0 by decide] at a
        rw [show (1 : Int32).toInt = 1 by decide]
        omega
      obtain ⟨q, hq, rfl⟩ := nI_of2 (x := v2) (M := 99) (n := 99) (by decide) n0 c2
      have e1 : upd (ts_F PR) (nI j).toNatClampNeg (nI q) = ts_F (ts_un PR j q) := by
        rw [nI_clamp (by omega)]
        exact ts_F_up _ _ _
      refine br_f c1 (br_t c2 ⟨vj, nm_e ⟨vj, nm_r e1 ?_⟩⟩)
      refine ty_tok0 hT hj ?_
      refine br_t rfl ?_
      refine br_f c1 ?_
      refine br_t c2 ?_
      exact ⟨vj, nm_e ⟨vj, nm_r e1 ⟨rfl, ts_mk ⟨hw, htl, hrs, hE, hag, hWL, hWS, hLF, hRG, ts_un_all (P := fun x => x ≤ 99) hPR hq, hSP, hLT, hTX, hRE, hsum⟩⟩⟩⟩
    · refine br_f c1 ?_
      refine br_f c2 ?_
      refine ty_tok0 hT hj ?_
      refine br_t rfl ?_
      refine br_f c1 ?_
      refine br_f c2 ?_
      exact ⟨rfl, ts_mk hI⟩
theorem i_vc_type {k : Nat} {u : SX} {v : SY} (I : i_Rel k u v) (hk : k + 3 ≤ 1536) (v1 : Int32) : wpX_type (fun r u' => wpY_type (fun r' v' => r' = r ∧ i_Rel (k + 3) u' v') v v1) u v1 := by
  unfold wpX_type wpY_type
  obtain ⟨w, T, tl, rs, WL, WS, LF, RG, PR, SP, LN, LT, TX, RE, WC, rlX, msX, rowX, mdX, pf, wf, sa, sk, st, sr, rlY, mkY, kpY, rowY, pt, sm, nb, sl, tr, bg, rfl, rfl, hI⟩ := I
  obtain ⟨hw, htl, hrs, hE, hag, hWL, hWS, hLF, hRG, hPR, hSP, hLT, hTX, hRE, hsum⟩ := id hI
  obtain ⟨h6, hT, hl1, hl8, hlet⟩ := id hE
  rcases ts_or (x := v1) 6 (by decide) with hb | ⟨j, hj, rfl⟩
  · refine tx_let0 hb ?_
    refine br_t rfl ?_
    refine ty_let1 hb ?_
    refine br_f ts_10 ?_
    exact ⟨rfl, ts_mk hI⟩
  · refine tx_let1 hj ?_
    refine br_f ts_10 ?_
    by_cases c1 : tl = 12
    · subst c1
      refine br_f (by decide) ?_
      refine ty_let0 hj ?_
      refine br_t rfl ?_
      refine br_t rfl ?_
      exact ⟨rfl, ts_mk hI⟩
    · have e1 : upd (ts_F TX) (nI tl).toNatClampNeg (nI j) = ts_F (ts_un TX tl j) := by
        rw [nI_clamp (by omega)]
        exact ts_F_up _ _ _
      have nt : ¬ nI tl = 12 := fun z => c1 ((nI_eq (b := 12) (by omega) (by decide)).mp z)
      refine br_t (nI_lt (b := 12) (by omega) (by decide)) ⟨ts_v (by omega), nm_r e1 (nm_r (nI_1 tl) ?_)⟩
      refine ty_let0 hj ?_
      refine br_t rfl ?_
      refine br_f nt ?_
      exact ⟨ts_v (by omega), nm_r e1 (nm_r (nI_1 tl) ⟨rfl, ts_mk ⟨hw, by omega, hrs, hE, hag, hWL, hWS, hLF, hRG, hPR, hSP, hLT, ts_un_all (P := fun x => x < 6) hTX hj, hRE, hsum⟩⟩)⟩
theorem i_vc_wipe {k : Nat} {u : SX} {v : SY} (I : i_Rel k u v) (hk : k + 3 ≤ 1536) : wpX_wipe (fun r u' => wpY_wipe (fun r' v' => r' = r ∧ i_Rel (k + 3) u' v') v) u := by
  obtain ⟨w, T, tl, rs, WL, WS, LF, RG, PR, SP, LN, LT, TX, RE, WC, rlX, msX, rowX, mdX, pf, wf, sa, sk, st, sr, rlY, mkY, kpY, rowY, pt, sm, nb, sl, tr, bg, rfl, rfl, hI⟩ := I
  obtain ⟨hw, htl, hrs, hE, hag, hWL, hWS, hLF, hRG, hPR, hSP, hLT, hTX, hRE, hsum⟩ := id hI
  obtain ⟨h6, hT, hl1, hl8, hlet⟩ := id hE
  exact ⟨rfl, ts_mk (tl := 0) ⟨hw, Nat.zero_le 12, hrs, hE, hag, hWL, hWS, hLF, hRG, hPR, hSP, hLT, hTX, hRE, hsum⟩⟩
theorem i_vc_size {k : Nat} {u : SX} {v : SY} (I : i_Rel k u v) (hk : k + 3 ≤ 1536) : wpX_size (fun r => wpY_size (fun r' => r' = r ∧ i_Rel (k + 3) u v) v) u := by
  obtain ⟨w, T, tl, rs, WL, WS, LF, RG, PR, SP, LN, LT, TX, RE, WC, rlX, msX, rowX, mdX, pf, wf, sa, sk, st, sr, rlY, mkY, kpY, rowY, pt, sm, nb, sl, tr, bg, rfl, rfl, hI⟩ := I
  obtain ⟨hw, htl, hrs, hE, hag, hWL, hWS, hLF, hRG, hPR, hSP, hLT, hTX, hRE, hsum⟩ := id hI
  obtain ⟨h6, hT, hl1, hl8, hlet⟩ := id hE
  exact ⟨rfl, ts_mk hI⟩
theorem i_vc_at {k : Nat} {u : SX} {v : SY} (I : i_Rel k u v) (hk : k + 3 ≤ 1536) (v1 : Int32) : wpX_at (fun r => wpY_at (fun r' => r' = r ∧ i_Rel (k + 3) u v) v v1) u v1 := by
  obtain ⟨w, T, tl, rs, WL, WS, LF, RG, PR, SP, LN, LT, TX, RE, WC, rlX, msX, rowX, mdX, pf, wf, sa, sk, st, sr, rlY, mkY, kpY, rowY, pt, sm, nb, sl, tr, bg, rfl, rfl, hI⟩ := I
  obtain ⟨hw, htl, hrs, hE, hag, hWL, hWS, hLF, hRG, hPR, hSP, hLT, hTX, hRE, hsum⟩ := id hI
  obtain ⟨h6, hT, hl1, hl8, hlet⟩ := id hE
  by_cases c0 : v1 < 0
  · exact br_t c0 (br_t c0 ⟨rfl, ts_mk hI⟩)
  · rcases ts_or (x := v1) rs (by omega) with hb | ⟨i, hi, rfl⟩
    · have hn : ¬ v1 < nI rs := ts_lt (hb.resolve_left c0)
      exact br_f c0 (br_f hn (br_f c0 (br_f hn ⟨rfl, ts_mk hI⟩)))
    · have hl : nI i < nI rs := nI_lt hi (by omega)
      exact br_f c0 (br_t hl ⟨ts_v (by omega), br_f c0 (br_t hl ⟨ts_v (by omega), rfl, ts_mk hI⟩)⟩)
def ts_co (T : Nat) (PR RE : Nat → Nat) : Nat → Int32
  | 0 => 0
  | i + 1 => ts_co T PR RE i + (if RE i < T then nI (PR (RE i)) else 0)
section
variable {f_words f_tokenCount f_textLength f_resultSize f_rowLength f_madeSize : Int32} {a_wordLetters a_wordLength a_wordCount a_leftOf a_rightOf a_priceOf a_spelling a_spellingLength a_text a_result a_row a_made a_pairFrequency a_waysFrom a_slotsAt a_slotKey a_slotToken a_slotRest : Nat → Int32}
theorem tx_cost {post : Int32 → Prop} {T rs : Nat} {PR RE : Nat → Nat} (hT : T ≤ 20) (hrs : rs ≤ 12) (hRE : ∀ i, RE i < 20) (h : post (ts_co T PR RE rs)) : wpX_cost post (f_words, nI T, f_textLength, nI rs, f_rowLength, f_madeSize, a_wordLetters, a_wordLength, a_wordCount, a_leftOf, a_rightOf, ts_F PR, a_spelling, a_spellingLength, a_text, ts_F RE, a_row, a_made, a_pairFrequency, a_waysFrom, a_slotsAt, a_slotKey, a_slotToken, a_slotRest) := by
  have H : ∀ d i, i + d = rs → wX_cost_4 post f_words (nI T) f_textLength (nI rs) f_rowLength f_madeSize a_wordLetters a_wordLength a_wordCount a_leftOf a_rightOf (ts_F PR) a_spelling a_spellingLength a_text (ts_F RE) a_row a_made a_pairFrequency a_waysFrom a_slotsAt a_slotKey a_slotToken a_slotRest (d + 1) (ts_co T PR RE i) (nI i) := by
    intro d
    induction d with
    | zero =>
      intro i hi
      have e : i = rs := by omega
      subst e
      exact br_t (nI_le (Nat.le_refl i) (by omega)) h
    | succ d ih =>
      intro i hi
      have r20 := hRE i
      have e1 : ts_F RE (nI i).toNatClampNeg = nI (RE i) := by rw [nI_clamp (by omega)]; rfl
      have vi : vp_in (nI i) 12 := ts_v (by omega)
      have ih' : wX_cost_4 post f_words (nI T) f_textLength (nI rs) f_rowLength f_madeSize a_wordLetters a_wordLength a_wordCount a_leftOf a_rightOf (ts_F PR) a_spelling a_spellingLength a_text (ts_F RE) a_row a_made a_pairFrequency a_waysFrom a_slotsAt a_slotKey a_slotToken a_slotRest (d + 1) (ts_co T PR RE i + (if RE i < T then nI (PR (RE i)) else 0)) (nI (i + 1)) := ih (i + 1) (by omega)
      refine br_f (nI_ge (by omega) (by omega)) ⟨vi, ?_⟩
      by_cases c : RE i < T
      · rw [if_pos c] at ih'
        refine br_f (by rw [e1]; exact nI_ge c (by omega)) ⟨vi, by rw [e1]; exact ts_v r20, nm_r (e' := ts_co T PR RE i + nI (PR (RE i))) ?_ (nm_r (nI_1 i) ih')⟩
        rw [e1, nI_clamp (by omega)]
        rfl
      · rw [if_neg c, Int32.add_zero] at ih'
        exact br_t (by rw [e1]; exact nI_le (by omega) (by omega)) (nm_r (nI_1 i) ih')
  exact ⟨_, H rs 0 (by omega)⟩
end
section
variable {f_words f_tokens f_textSize f_resultSize f_rowSize f_barred f_made f_kept : Int32} {a_counts a_sizes a_spelled a_lefts a_rights a_prices a_lengths a_letters a_text a_result a_row a_parts a_sums a_numbers a_splits a_tried a_begins : Nat → Int32}
theorem ty_cost {post : Int32 → Prop} {T rs : Nat} {PR RE : Nat → Nat} (hT : T ≤ 20) (hrs : rs ≤ 12) (hRE : ∀ i, RE i < 20) (h : post (ts_co T PR RE rs)) : wpY_cost post (f_words, nI T, f_textSize, nI rs, f_rowSize, f_barred, f_made, f_kept, a_counts, a_sizes, a_spelled, a_lefts, a_rights, ts_F PR, a_lengths, a_letters, a_text, ts_F RE, a_row, a_parts, a_sums, a_numbers, a_splits, a_tried, a_begins) := by
  have H : ∀ d i, i + d = rs → wY_cost_4 post f_words (nI T) f_textSize (nI rs) f_rowSize f_barred f_made f_kept a_counts a_sizes a_spelled a_lefts a_rights (ts_F PR) a_lengths a_letters a_text (ts_F RE) a_row a_parts a_sums a_numbers a_splits a_tried a_begins (d + 1) (ts_co T PR RE i) (nI i) := by
    intro d
    induction d with
    | zero =>
      intro i hi
      have e : i = rs := by omega
      subst e
      exact br_t (nI_le (Nat.le_refl i) (by omega)) h
    | succ d ih =>
      intro i hi
      have r20 := hRE i
      have e1 : ts_F RE (nI i).toNatClampNeg = nI (RE i) := by rw [nI_clamp (by omega)]; rfl
      have vi : vp_in (nI i) 12 := ts_v (by omega)
      have ih' : wY_cost_4 post f_words (nI T) f_textSize (nI rs) f_rowSize f_barred f_made f_kept a_counts a_sizes a_spelled a_lefts a_rights (ts_F PR) a_lengths a_letters a_text (ts_F RE) a_row a_parts a_sums a_numbers a_splits a_tried a_begins (d + 1) (ts_co T PR RE i + (if RE i < T then nI (PR (RE i)) else 0)) (nI (i + 1)) := ih (i + 1) (by omega)
      refine br_f (nI_ge (by omega) (by omega)) ⟨vi, ?_⟩
      by_cases c : RE i < T
      · rw [if_pos c] at ih'
        refine br_f (by rw [e1]; exact nI_ge c (by omega)) ⟨vi, by rw [e1]; exact ts_v r20, nm_r (e' := ts_co T PR RE i + nI (PR (RE i))) ?_ (nm_r (nI_1 i) ih')⟩
        rw [e1, nI_clamp (by omega)]
        rfl
      · rw [if_neg c, Int32.add_zero] at ih'
        exact br_t (by rw [e1]; exact nI_le (by omega) (by omega)) (nm_r (nI_1 i) ih')
  exact ⟨_, H rs 0 (by omega)⟩
end
theorem i_vc_cost {k : Nat} {u : SX} {v : SY} (I : i_Rel k u v) (hk : k + 3 ≤ 1536) : wpX_cost (fun r => wpY_cost (fun r' => r' = r ∧ i_Rel (k + 3) u v) v) u := by
  obtain ⟨w, T, tl, rs, WL, WS, LF, RG, PR, SP, LN, LT, TX, RE, WC, rlX, msX, rowX, mdX, pf, wf, sa, sk, st, sr, rlY, mkY, kpY, rowY, pt, sm, nb, sl, tr, bg, rfl, rfl, hI⟩ := I
  obtain ⟨hw, htl, hrs, hE, hag, hWL, hWS, hLF, hRG, hPR, hSP, hLT, hTX, hRE, hsum⟩ := id hI
  obtain ⟨h6, hT, hl1, hl8, hlet⟩ := id hE
  exact tx_cost hT hrs hRE (ty_cost hT hrs hRE ⟨rfl, ts_mk hI⟩)
