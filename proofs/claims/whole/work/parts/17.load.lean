def ts_ld (WC : Nat → Int32) (a : Nat → Nat) : Nat → Int32
  | 0 => 0
  | w + 1 => ts_ld WC a w + WC w * nI (a w)
theorem i_vc_load {k : Nat} {u : SX} {v : SY} (I : i_Rel k u v) (hk : k + 3 ≤ 1536) (v1 : Int32) : wpX_load (fun r u' => wpY_load (fun r' v' => r' = r ∧ i_Rel (k + 3) u' v') v v1) u v1 := by
  unfold wpX_load wpY_load
  obtain ⟨w, T, tl, rs, WL, WS, LF, RG, PR, SP, LN, LT, TX, RE, WC, rlX, msX, rowX, mdX, pf, wf, sa, sk, st, sr, rlY, mkY, kpY, rowY, pt, sm, nb, sl, tr, bg, rfl, rfl, hI⟩ := I
  obtain ⟨hw, htl, hrs, hE, hag, hWL, hWS, hLF, hRG, hPR, hSP, hLT, hTX, hRE, hsum⟩ := id hI
  rcases ts_or (x := v1) 3 (by decide) with hb | ⟨j, hj, rfl⟩
  · refine tx_way0 hb ?_
    refine br_t rfl ?_
    exact ty_way0 hb ⟨rfl, ts_mk hI⟩ ⟨rfl, ts_mk hI⟩
  have wy := fun q => ts_way (T := T) (n := WS q) (LF := LF) (RG := RG) (PR := PR) (SP := SP) (LN := LN) (LT := LT) (r := fun i => WL (q * 8 + i)) hj (Nat.le_trans (hWS q) (by decide)) hE hag hLF hRG hPR hSP hLT (fun i => hWL _)
  obtain ⟨l, hl⟩ := Classical.skolem.mp wy
  have HY : ∀ (post : Int32 → SY → Prop), (∀ rlY mkY kpY rowY pt sm nb sl tr bg, post (ts_ld WC (fun q => (l q).length) w) (nI w, nI T, nI tl, nI rs, rlY, -1, mkY, kpY, WC, ts_F WS, ts_F WL, ts_F LF, ts_F RG, ts_F PR, ts_F LN, ts_F LT, ts_F TX, ts_F RE, rowY, pt, sm, nb, sl, tr, bg)) → ∀ d q, q + d = w → ∀ rlY mkY kpY rowY pt sm nb sl tr bg, wY_load_15 post (nI j) (d + 1) (ts_ld WC (fun q => (l q).length) q) (nI q) (nI w) (nI T) (nI tl) (nI rs) rlY (-1) mkY kpY WC (ts_F WS) (ts_F WL) (ts_F LF) (ts_F RG) (ts_F PR) (ts_F LN) (ts_F LT) (ts_F TX) (ts_F RE) rowY pt sm nb sl tr bg := by
    intro post h d
    induction d with
    | zero =>
      intro q hq rlY mkY kpY rowY pt sm nb sl tr bg
      have e : q = w := by omega
      subst e
      exact br_t (nI_le (Nat.le_refl q) (by omega)) (h _ _ _ _ _ _ _ _ _ _)
    | succ d ih =>
      intro q hq rlY mkY kpY rowY pt sm nb sl tr bg
      refine br_f (nI_ge (by omega) (by omega)) ?_
      refine ty_takeWord (w := q) (m := WS q) (by omega) (hWS q) rfl ?_
      refine (hl q).2.2.2 (fun i hi => ts_cp_lt hi) (fun kp pt sm nb sl tr bg hpt => ?_)
      refine ⟨ts_v (by omega), nm_r (e' := ts_ld WC (fun q => (l q).length) (q + 1)) ?_ (nm_r (nI_1 q) (ih (q + 1) (by omega) _ _ _ _ _ _ _ _ _ _))⟩
      rw [nI_clamp (by omega)]
      rfl
  have HX : ∀ (post : Int32 → SX → Prop), (∀ rlX msX rowX mdX sa sk st sr, post (ts_ld WC (fun q => (l q).length) w) (nI w, nI T, nI tl, nI rs, rlX, msX, ts_F WL, ts_F WS, WC, ts_F LF, ts_F RG, ts_F PR, ts_F SP, ts_F LN, ts_F TX, ts_F RE, rowX, mdX, pf, wf, sa, sk, st, sr)) → ∀ d q, q + d = w → ∀ rlX msX rowX mdX sa sk st sr, wX_load_13 post (nI j) (d + 1) (ts_ld WC (fun q => (l q).length) q) (nI q) (nI w) (nI T) (nI tl) (nI rs) rlX msX (ts_F WL) (ts_F WS) WC (ts_F LF) (ts_F RG) (ts_F PR) (ts_F SP) (ts_F LN) (ts_F TX) (ts_F RE) rowX mdX pf wf sa sk st sr := by
    intro post h d
    induction d with
    | zero =>
      intro q hq rlX msX rowX mdX sa sk st sr
      have e : q = w := by omega
      subst e
      exact br_t (nI_le (Nat.le_refl q) (by omega)) (h _ _ _ _ _ _ _ _)
    | succ d ih =>
      intro q hq rlX msX rowX mdX sa sk st sr
      refine br_f (nI_ge (by omega) (by omega)) ?_
      refine tx_takeWord (w := q) (m := WS q) (by omega) (hWS q) rfl ?_
      refine (hl q).2.2.1 (fun i hi => ts_cp_lt hi) (fun md sa sk st sr hmd => ?_)
      refine ⟨ts_v (by omega), nm_r (e' := ts_ld WC (fun q => (l q).length) (q + 1)) ?_ (nm_r (nI_1 q) (ih (q + 1) (by omega) _ _ _ _ _ _ _ _))⟩
      rw [nI_clamp (by omega)]
      rfl
  refine tx_way1 hj ?_
  refine br_f ts_10 ?_
  refine ⟨_, HX _ (fun rlX msX rowX mdX sa sk st sr => ?_) w 0 (by omega) _ _ _ _ _ _ _ _⟩
  refine ty_way1 hj ?_
  exact ⟨_, HY _ (fun rlY mkY kpY rowY pt sm nb sl tr bg => ⟨rfl, ts_mk hI⟩) w 0 (by omega) _ _ _ _ _ _ _ _ _ _⟩
/-- one cheapest split for X's ranking and Y's search -/
theorem ts_exp {T n : Nat} {bx : Int32} {PR SP LN LT r : Nat → Nat} (hbx : ∀ t, t < 6 → ¬ nI t = bx) (hn : n ≤ 12) (hE : ts_En T LN (fun t i => SP (t * 8 + i))) (hag : ∀ t, t < T → ∀ i, i < LN t → LT (12 * t + i) = SP (t * 8 + i)) (hPR : ∀ t, PR t ≤ 99) (hSP : ∀ j, SP j < 6) (hLT : ∀ j, LT j < 6) (hr : ∀ i, r i < 6) :
    ∃ e : List Nat, e.length ≤ 12 ∧
    (∀ {f_words f_textLength f_resultSize f_madeSize : Int32} {a_wordLetters a_wordLength a_wordCount a_leftOf a_rightOf a_text a_result a_row a_made a_pairFrequency a_waysFrom a_slotsAt a_slotKey a_slotToken a_slotRest : Nat → Int32} {post : SX → Prop}, (∀ i, i < n → a_row i = nI (r i)) → (∀ sa sk st sr, sk 0 = nI (ts_ky PR e) → post (f_words, nI T, f_textLength, f_resultSize, nI n, f_madeSize, a_wordLetters, a_wordLength, a_wordCount, a_leftOf, a_rightOf, ts_F PR, ts_F SP, ts_F LN, a_text, a_result, a_row, a_made, a_pairFrequency, a_waysFrom, sa, sk, st, sr)) →
      wpX_rankSplits post (f_words, nI T, f_textLength, f_resultSize, nI n, f_madeSize, a_wordLetters, a_wordLength, a_wordCount, a_leftOf, a_rightOf, ts_F PR, ts_F SP, ts_F LN, a_text, a_result, a_row, a_made, a_pairFrequency, a_waysFrom, a_slotsAt, a_slotKey, a_slotToken, a_slotRest) bx) ∧
    (∀ {f_words f_textSize f_resultSize f_made f_kept : Int32} {a_counts a_sizes a_spelled a_lefts a_rights a_text a_result a_row a_parts a_sums a_numbers a_splits a_tried a_begins : Nat → Int32} {post : Int32 → SY → Prop}, (∀ i, i < n → a_row i = nI (r i)) → (∀ c kp sm nb sl tr bg, sm 0 = nI (ts_sp PR e) → post c (f_words, nI T, f_textSize, f_resultSize, nI n, bx, f_made, kp, a_counts, a_sizes, a_spelled, a_lefts, a_rights, ts_F PR, ts_F LN, ts_F LT, a_text, a_result, a_row, a_parts, sm, nb, sl, tr, bg)) →
      wpY_lookAtAll post (f_words, nI T, f_textSize, f_resultSize, nI n, bx, f_made, f_kept, a_counts, a_sizes, a_spelled, a_lefts, a_rights, ts_F PR, ts_F LN, ts_F LT, a_text, a_result, a_row, a_parts, a_sums, a_numbers, a_splits, a_tried, a_begins)) := by
  obtain ⟨h6, hT, hl1, hl8, hlet⟩ := id hE
  have hFB : ts_FB (ts_fit bx LN (fun t i => SP (t * 8 + i)) r n) LN T n := ts_En_FB hE
  have hl' := ts_En_let (bx := bx) (n := n) hE hbx hr
  obtain ⟨C, hC⟩ := ts_exC hFB
  obtain ⟨K, hK⟩ := ts_exK PR hFB
  have kg := ts_K_good hFB hK n 0 (by omega)
  have kn := ts_K_ne hFB hK (fun p hp => ⟨_, hl' p hp⟩) n 0 (by omega)
  obtain ⟨e, he⟩ : ∃ e, (K 0)[0]? = some e := ⟨_, List.getElem?_eq_getElem (List.length_pos_iff.mpr kn)⟩
  have eg := kg.2.2 e (List.mem_of_getElem? he)
  refine ⟨e, by omega, ?_, ?_⟩
  · intros
    rename_i post hrow h
    refine tx_rankSplits hE hn hSP hr hrow hPR hK (fun sa sk st sr hS => ?_)
    obtain ⟨s1, s2⟩ := hS 0 (Nat.le_refl 0) (Nat.zero_le _)
    obtain ⟨g1, _⟩ := s2 0 e he
    rw [Nat.zero_mul] at g1
    exact h _ _ _ _ g1
  · intros
    rename_i post hrow h
    refine ty_look hE hn hLT hag hr hrow hPR hK hC (fun sm nb sl tr bg hKR => ?_)
    exact h _ _ _ _ _ _ _ (hKR 0 e he).1
/-- one number for X's expenseWithout and Y's expense -/
theorem ts_expw {w T tl rs : Nat} {bx : Int32} {WL WS LF RG PR SP LN LT TX RE : Nat → Nat} {WC : Nat → Int32} (hbx : ∀ t, t < 6 → ¬ nI t = bx) (hI : ts_I w T tl rs WL WS LF RG PR SP LN LT TX RE) :
    ∃ a : Int32, (∀ {rlX msX : Int32} {rowX mdX pf wf sa sk st sr : Nat → Int32} {post : Int32 → SX → Prop}, (∀ rlX rowX sa sk st sr, post a (nI w, nI T, nI tl, nI rs, rlX, msX, ts_F WL, ts_F WS, WC, ts_F LF, ts_F RG, ts_F PR, ts_F SP, ts_F LN, ts_F TX, ts_F RE, rowX, mdX, pf, wf, sa, sk, st, sr)) → wpX_expenseWithout post (nI w, nI T, nI tl, nI rs, rlX, msX, ts_F WL, ts_F WS, WC, ts_F LF, ts_F RG, ts_F PR, ts_F SP, ts_F LN, ts_F TX, ts_F RE, rowX, mdX, pf, wf, sa, sk, st, sr) bx) ∧
      (∀ {rlY mkY kpY : Int32} {rowY pt sm nb sl tr bg : Nat → Int32} {post : Int32 → SY → Prop}, (∀ rlY kpY rowY sm nb sl tr bg, post a (nI w, nI T, nI tl, nI rs, rlY, bx, mkY, kpY, WC, ts_F WS, ts_F WL, ts_F LF, ts_F RG, ts_F PR, ts_F LN, ts_F LT, ts_F TX, ts_F RE, rowY, pt, sm, nb, sl, tr, bg)) → wpY_expense post (nI w, nI T, nI tl, nI rs, rlY, bx, mkY, kpY, WC, ts_F WS, ts_F WL, ts_F LF, ts_F RG, ts_F PR, ts_F LN, ts_F LT, ts_F TX, ts_F RE, rowY, pt, sm, nb, sl, tr, bg)) := by
  obtain ⟨hw, htl, hrs, hE, hag, hWL, hWS, hLF, hRG, hPR, hSP, hLT, hTX, hRE, hsum⟩ := id hI
  have wy := fun q => ts_exp (T := T) (bx := bx) (n := WS q) (PR := PR) (SP := SP) (LN := LN) (LT := LT) (r := fun i => WL (q * 8 + i)) hbx (Nat.le_trans (hWS q) (by decide)) hE hag hPR hSP hLT (fun i => hWL _)
  obtain ⟨l, hl⟩ := Classical.skolem.mp wy
  refine ⟨ts_ld WC (fun q => ts_sp PR (l q)) w, ?_, ?_⟩
  · intro rlX msX rowX mdX pf wf sa sk st sr post h
    have HX : ∀ d q, q + d = w → ∀ rlX rowX sa sk st sr, wX_expenseWithout_4 post bx (d + 1) (ts_ld WC (fun q => ts_sp PR (l q)) q) (nI q) (nI w) (nI T) (nI tl) (nI rs) rlX msX (ts_F WL) (ts_F WS) WC (ts_F LF) (ts_F RG) (ts_F PR) (ts_F SP) (ts_F LN) (ts_F TX) (ts_F RE) rowX mdX pf wf sa sk st sr := by
      intro d
      induction d with
      | zero =>
        intro q hq rlX rowX sa sk st sr
        have e : q = w := by omega
        subst e
        exact br_t (nI_le (Nat.le_refl q) (by omega)) (h _ _ _ _ _ _)
      | succ d ih =>
        intro q hq rlX rowX sa sk st sr
        refine br_f (nI_ge (by omega) (by omega)) ?_
        refine tx_takeWord (w := q) (m := WS q) (by omega) (hWS q) rfl ?_
        refine (hl q).2.1 (fun i hi => ts_cp_lt hi) (fun sa sk st sr hs => ?_)
        refine ⟨ts_v (by omega), by decide, nm_r (e' := ts_ld WC (fun q => ts_sp PR (l q)) (q + 1)) ?_ (nm_r (nI_1 q) (ih (q + 1) (by omega) _ _ _ _ _ _))⟩
        rw [nI_clamp (by omega), hs, ts_kdiv hPR (hl q).1]
        rfl
    exact ⟨_, HX w 0 (by omega) _ _ _ _ _ _⟩
  · intro rlY mkY kpY rowY pt sm nb sl tr bg post h
    have HY : ∀ d q, q + d = w → ∀ rlY kpY rowY sm nb sl tr bg, wY_expense_4 post (d + 1) (ts_ld WC (fun q => ts_sp PR (l q)) q) (nI q) (nI w) (nI T) (nI tl) (nI rs) rlY bx mkY kpY WC (ts_F WS) (ts_F WL) (ts_F LF) (ts_F RG) (ts_F PR) (ts_F LN) (ts_F LT) (ts_F TX) (ts_F RE) rowY pt sm nb sl tr bg := by
      intro d
      induction d with
      | zero =>
        intro q hq rlY kpY rowY sm nb sl tr bg
        have e : q = w := by omega
        subst e
        exact br_t (nI_le (Nat.le_refl q) (by omega)) (h _ _ _ _ _ _ _ _)
      | succ d ih =>
        intro q hq rlY kpY rowY sm nb sl tr bg
        refine br_f (nI_ge (by omega) (by omega)) ?_
        refine ty_takeWord (w := q) (m := WS q) (by omega) (hWS q) rfl ?_
        refine (hl q).2.2 (fun i hi => ts_cp_lt hi) (fun c kp sm nb sl tr bg hs => ?_)
        refine ⟨ts_v (by omega), nm_r (e' := ts_ld WC (fun q => ts_sp PR (l q)) (q + 1)) ?_ (nm_r (nI_1 q) (ih (q + 1) (by omega) _ _ _ _ _ _ _ _))⟩
        rw [nI_clamp (by omega), hs]
        rfl
    exact ⟨_, HY w 0 (by omega) _ _ _ _ _ _ _ _⟩
theorem i_vc_expense {k : Nat} {u : SX} {v : SY} (I : i_Rel k u v) (hk : k + 3 ≤ 1536) : wpX_expense (fun r u' => wpY_expense (fun r' v' => r' = r ∧ i_Rel (k + 3) u' v') v) u := by
  unfold wpX_expense
  obtain ⟨w, T, tl, rs, WL, WS, LF, RG, PR, SP, LN, LT, TX, RE, WC, rlX, msX, rowX, mdX, pf, wf, sa, sk, st, sr, rlY, mkY, kpY, rowY, pt, sm, nb, sl, tr, bg, rfl, rfl, hI⟩ := I
  obtain ⟨a, hX, hY⟩ := ts_expw (WC := WC) (bx := -1) (fun t ht => ts_nb (by omega)) hI
  exact hX (fun rlX rowX sa sk st sr => hY (fun rlY kpY rowY sm nb sl tr bg => ⟨rfl, ts_mk hI⟩))
theorem i_vc_worth {k : Nat} {u : SX} {v : SY} (I : i_Rel k u v) (hk : k + 3 ≤ 1536) (v1 : Int32) : wpX_worth (fun r u' => wpY_worth (fun r' v' => r' = r ∧ i_Rel (k + 3) u' v') v v1) u v1 := by
  unfold wpX_worth wpY_worth
  obtain ⟨w, T, tl, rs, WL, WS, LF, RG, PR, SP, LN, LT, TX, RE, WC, rlX, msX, rowX, mdX, pf, wf, sa, sk, st, sr, rlY, mkY, kpY, rowY, pt, sm, nb, sl, tr, bg, rfl, rfl, hI⟩ := I
  obtain ⟨hw, htl, hrs, hE, hag, hWL, hWS, hLF, hRG, hPR, hSP, hLT, hTX, hRE, hsum⟩ := id hI
  obtain ⟨h6, hT, hl1, hl8, hlet⟩ := id hE
  rcases ts_or (x := v1) T (by omega) with hb | ⟨j, hj, rfl⟩
  · refine tx_tok0 hb ?_
    refine br_t rfl ?_
    refine ty_tok1 hb ?_
    exact br_f ts_10 ⟨rfl, ts_mk hI⟩
  refine tx_tok1 hT hj ?_
  refine br_f ts_10 ?_
  by_cases c : j < 6
  · refine tx_let1 c ?_
    refine br_f ts_10 ?_
    refine ty_tok0 hT hj ?_
    refine br_t rfl ?_
    exact br_f (nI_ge (b := 6) c (by decide)) ⟨rfl, ts_mk hI⟩
  · have c6 : nI 6 ≤ nI j := nI_le (by omega) (by omega)
    obtain ⟨a, aX, aY⟩ := ts_expw (WC := WC) (bx := -1) (fun t ht => ts_nb (by omega)) hI
    obtain ⟨b, bX, bY⟩ := ts_expw (WC := WC) (bx := nI j) (fun t ht z => by have := (nI_eq (by omega) (by omega)).mp z; omega) hI
    refine tx_let0 (Or.inr c6) ?_
    refine br_t rfl ?_
    refine bX (fun rlX rowX sa sk st sr => ?_)
    refine aX (fun rlX rowX sa sk st sr => ?_)
    refine ty_tok0 hT hj ?_
    refine br_t rfl ?_
    refine br_t c6 ?_
    refine aY (fun rlY kpY rowY sm nb sl tr bg => ?_)
    refine bY (fun rlY kpY rowY sm nb sl tr bg => ?_)
    exact ⟨rfl, ts_mk hI⟩
