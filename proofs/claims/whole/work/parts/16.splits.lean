section
variable {f_words f_tokens f_textSize f_resultSize f_rowSize f_barred f_made f_kept : Int32} {a_counts a_sizes a_spelled a_lefts a_rights a_prices a_lengths a_letters a_text a_result a_row a_parts a_sums a_numbers a_splits a_tried a_begins : Nat → Int32}
theorem ty_cheapest {post : SY → Prop} {T n : Nat} {bx : Int32} {ln LT r pr : Nat → Nat} {sp : Nat → Nat → Nat} {K : Nat → List (List Nat)} {C : Nat → Nat} {e : List Nat} (hE : ts_En T ln sp) (hn : n ≤ 12) (hLT : ∀ j, LT j < 6) (hsp : ∀ t, t < T → ∀ i, i < ln t → LT (12 * t + i) = sp t i) (hr : ∀ i, r i < 6) (hrow : ∀ i, i < n → a_row i = nI (r i)) (hpr : ∀ t, pr t ≤ 99)
    (hK : ts_TK (ts_fit bx ln sp r n) ln pr T n K) (hC : ts_TC (ts_fit bx ln sp r n) ln T n C) (he : (K 0)[0]? = some e) (hel : e.length ≤ 12)
    (h : ∀ kp pt sm nb sl tr bg, ts_Hd pt e → post (f_words, nI T, f_textSize, f_resultSize, nI n, bx, nI e.length, kp, a_counts, a_sizes, a_spelled, a_lefts, a_rights, ts_F pr, ts_F ln, ts_F LT, a_text, a_result, a_row, pt, sm, nb, sl, tr, bg)) :
    wpY_cheapest post (f_words, nI T, f_textSize, f_resultSize, nI n, bx, f_made, f_kept, a_counts, a_sizes, a_spelled, a_lefts, a_rights, ts_F pr, ts_F ln, ts_F LT, a_text, a_result, a_row, a_parts, a_sums, a_numbers, a_splits, a_tried, a_begins) := by
  unfold wpY_cheapest
  refine ty_look hE hn hLT hsp hr hrow hpr hK hC (fun sm nb sl tr bg hKR => ?_)
  obtain ⟨g1, g2, g3⟩ := hKR 0 e he
  have H : ∀ d i, i + d = e.length → wY_cheapest_17 post f_words (nI T) f_textSize f_resultSize (nI n) bx (nI e.length) (nI (K 0).length) (d + 1) (nI i) a_counts a_sizes a_spelled a_lefts a_rights (ts_F pr) (ts_F ln) (ts_F LT) a_text a_result a_row (ts_cp a_parts sl i) sm nb sl tr bg := by
    intro d
    induction d with
    | zero =>
      intro i hi
      have ei : i = e.length := by omega
      subst ei
      refine br_t (nI_le (Nat.le_refl _) (by omega)) (h _ _ _ _ _ _ _ (fun j x hx => ?_))
      rw [ts_cp_lt (ts_len_of hx)]
      have := g3 j x hx
      rw [Nat.mul_zero, Nat.zero_add] at this
      exact this
    | succ d ih =>
      intro i hi
      refine br_f (nI_ge (by omega) (by omega)) ⟨ts_v (by omega), ts_v (by omega), nm_r (e' := ts_cp a_parts sl (i + 1)) ?_ (nm_r (nI_1 i) (ih (i + 1) (by omega)))⟩
      rw [nI_clamp (by omega)]
      exact ts_cp_s _ _ _
  have H0 := H e.length 0 (by omega)
  rw [ts_cp_0] at H0
  exact nm_r g2 ⟨_, H0⟩
end
/-- one list for X's splitRow and Y's makeParts -/
theorem ts_way {T n j : Nat} {LF RG PR SP LN LT r : Nat → Nat} (hj : j < 3) (hn : n ≤ 12) (hE : ts_En T LN (fun t i => SP (t * 8 + i))) (hag : ∀ t, t < T → ∀ i, i < LN t → LT (12 * t + i) = SP (t * 8 + i)) (hLF : ∀ t, LF t < 20) (hRG : ∀ t, RG t < 20) (hPR : ∀ t, PR t ≤ 99) (hSP : ∀ j, SP j < 6) (hLT : ∀ j, LT j < 6) (hr : ∀ i, r i < 6) :
    ∃ l : List Nat, l.length ≤ n ∧ (∀ t ∈ l, t < T) ∧
    (∀ {f_words f_textLength f_resultSize f_madeSize : Int32} {a_wordLetters a_wordLength a_wordCount a_text a_result a_row a_made a_pairFrequency a_waysFrom a_slotsAt a_slotKey a_slotToken a_slotRest : Nat → Int32} {post : SX → Prop}, (∀ i, i < n → a_row i = nI (r i)) → (∀ md sa sk st sr, ts_Hd md l → post (f_words, nI T, f_textLength, f_resultSize, nI n, nI l.length, a_wordLetters, a_wordLength, a_wordCount, ts_F LF, ts_F RG, ts_F PR, ts_F SP, ts_F LN, a_text, a_result, a_row, md, a_pairFrequency, a_waysFrom, sa, sk, st, sr)) →
      wpX_splitRow post (f_words, nI T, f_textLength, f_resultSize, nI n, f_madeSize, a_wordLetters, a_wordLength, a_wordCount, ts_F LF, ts_F RG, ts_F PR, ts_F SP, ts_F LN, a_text, a_result, a_row, a_made, a_pairFrequency, a_waysFrom, a_slotsAt, a_slotKey, a_slotToken, a_slotRest) (nI j)) ∧
    (∀ {f_words f_textSize f_resultSize f_made f_kept : Int32} {a_counts a_sizes a_spelled a_text a_result a_row a_parts a_sums a_numbers a_splits a_tried a_begins : Nat → Int32} {post : SY → Prop}, (∀ i, i < n → a_row i = nI (r i)) → (∀ kp pt sm nb sl tr bg, ts_Hd pt l → post (f_words, nI T, f_textSize, f_resultSize, nI n, -1, nI l.length, kp, a_counts, a_sizes, a_spelled, ts_F LF, ts_F RG, ts_F PR, ts_F LN, ts_F LT, a_text, a_result, a_row, pt, sm, nb, sl, tr, bg)) →
      wpY_makeParts post (f_words, nI T, f_textSize, f_resultSize, nI n, -1, f_made, f_kept, a_counts, a_sizes, a_spelled, ts_F LF, ts_F RG, ts_F PR, ts_F LN, ts_F LT, a_text, a_result, a_row, a_parts, a_sums, a_numbers, a_splits, a_tried, a_begins) (nI j)) := by
  obtain ⟨h6, hT, hl1, hl8, hlet⟩ := id hE
  have hFB : ts_FB (ts_fit (-1) LN (fun t i => SP (t * 8 + i)) r n) LN T n := ts_En_FB hE
  have hl' := ts_En_let (bx := -1) (n := n) hE (fun t ht => ts_nb (by omega)) hr
  have n10 : ¬ nI 1 = 0 := by decide
  have n20 : ¬ nI 2 = 0 := by decide
  have n21 : ¬ nI 2 = 1 := by decide
  have n12 : ¬ nI 1 = 2 := by decide
  have n01 : ¬ nI 0 = 1 := by decide
  have n02 : ¬ nI 0 = 2 := by decide
  have h3 : j = 0 ∨ j = 1 ∨ j = 2 := by omega
  rcases h3 with e | e | e
  · subst e
    refine ⟨ts_mi LF RG (ts_rw r n) (T - 6), ?_, ?_, ?_, ?_⟩
    · have := ts_mi_len LF RG (ts_rw r n) (T - 6)
      rw [ts_rw_len] at this
      exact this
    · intro t ht
      have := ts_mi_lt LF RG (ts_rw r n) (fun e he => by obtain ⟨q, _, rfl⟩ := ts_rw_mem he; exact hr q) (T - 6) t ht
      omega
    · intros
      rename_i post hrow h
      unfold wpX_splitRow
      refine br_t rfl ?_
      exact tx_mergeRow h6 hT hn hr hrow hLF hRG (fun a ha => h _ _ _ _ _ ha)
    · intros
      rename_i post hrow h
      unfold wpY_makeParts
      refine br_t rfl ?_
      exact ty_merge h6 hT hn hr hrow hLF hRG (fun a ha => br_f n01 (br_f n02 (h _ _ _ _ _ _ _ ha)))
  · subst e
    obtain ⟨L, hL⟩ := ts_exL hFB hl'
    have lg := ts_L_good hFB hl' hL n 0 (by omega)
    refine ⟨L 0, lg.1, lg.2, ?_, ?_⟩
    · intros
      rename_i post hrow h
      unfold wpX_splitRow
      refine br_f n10 (br_t rfl ?_)
      exact tx_splitLongest hE hn hSP hr hrow hL (fun a ha => h _ _ _ _ _ ha)
    · intros
      rename_i post hrow h
      unfold wpY_makeParts
      refine br_f n10 (br_t rfl ?_)
      exact ty_takeLongest hE hn hLT hag hr hrow hL (fun a ha => br_f n12 (h _ _ _ _ _ _ _ ha))
  · subst e
    obtain ⟨C, hC⟩ := ts_exC hFB
    obtain ⟨K, hK⟩ := ts_exK PR hFB
    have kg := ts_K_good hFB hK n 0 (by omega)
    have kn := ts_K_ne hFB hK (fun p hp => ⟨_, hl' p hp⟩) n 0 (by omega)
    obtain ⟨e, he⟩ : ∃ e, (K 0)[0]? = some e := ⟨_, List.getElem?_eq_getElem (List.length_pos_iff.mpr kn)⟩
    have eg := kg.2.2 e (List.mem_of_getElem? he)
    refine ⟨e, eg.1, eg.2, ?_, ?_⟩
    · intros
      rename_i post hrow h
      unfold wpX_splitRow
      refine br_f n20 (br_f n21 ?_)
      refine tx_rankSplits hE hn hSP hr hrow hPR hK (fun sa sk st sr hS => ?_)
      obtain ⟨s1, s2⟩ := hS 0 (Nat.le_refl 0) (Nat.zero_le _)
      obtain ⟨g1, g2⟩ := s2 0 e he
      rw [Nat.zero_mul] at g1 g2
      exact tx_readSplit (k := 0) (by omega) (by omega) hPR g1 g2 (fun md hmd => h _ _ _ _ _ hmd)
    · intros
      rename_i post hrow h
      unfold wpY_makeParts
      refine br_f n20 (br_f n21 (br_t rfl ?_))
      exact ty_cheapest hE hn hLT hag hr hrow hPR hK hC he (by omega) (fun kp pt sm nb sl tr bg hpt => h _ _ _ _ _ _ _ hpt)
theorem ts_res {RE : Nat → Nat} {md : Nat → Int32} {l : List Nat} (h : ts_Hd md l) : ts_cp (ts_F RE) md l.length = ts_F (fun j => if j < l.length then l.getD j 0 else RE j) := by
  funext j
  unfold ts_cp ts_F
  dsimp only
  by_cases z : j < l.length
  · rw [if_pos z, if_pos z]
    refine h j _ ?_
    rw [List.getD_eq_getElem?_getD, List.getElem?_eq_getElem z]
    rfl
  · rw [if_neg z, if_neg z]
section
variable {f_words f_tokenCount f_textLength f_resultSize f_rowLength f_madeSize : Int32} {a_wordLetters a_wordLength a_wordCount a_leftOf a_rightOf a_priceOf a_spelling a_spellingLength a_text a_result a_row a_made a_pairFrequency a_waysFrom a_slotsAt a_slotKey a_slotToken a_slotRest : Nat → Int32}
theorem tx_splitc {post : Int32 → SX → Prop} {m : Nat} (hm : m ≤ 12) (h : post (nI m) (f_words, f_tokenCount, f_textLength, nI m, f_rowLength, nI m, a_wordLetters, a_wordLength, a_wordCount, a_leftOf, a_rightOf, a_priceOf, a_spelling, a_spellingLength, a_text, ts_cp a_result a_made m, a_row, a_made, a_pairFrequency, a_waysFrom, a_slotsAt, a_slotKey, a_slotToken, a_slotRest)) : ∃ n, wX_split_20 post f_words f_tokenCount f_textLength f_resultSize f_rowLength (nI m) n 0 a_wordLetters a_wordLength a_wordCount a_leftOf a_rightOf a_priceOf a_spelling a_spellingLength a_text a_result a_row a_made a_pairFrequency a_waysFrom a_slotsAt a_slotKey a_slotToken a_slotRest := by
  have H : ∀ d i, i + d = m → wX_split_20 post f_words f_tokenCount f_textLength f_resultSize f_rowLength (nI m) (d + 1) (nI i) a_wordLetters a_wordLength a_wordCount a_leftOf a_rightOf a_priceOf a_spelling a_spellingLength a_text (ts_cp a_result a_made i) a_row a_made a_pairFrequency a_waysFrom a_slotsAt a_slotKey a_slotToken a_slotRest := by
    intro d
    induction d with
    | zero =>
      intro i hi
      have e : i = m := by omega
      subst e
      exact br_t (nI_le (Nat.le_refl i) (by omega)) h
    | succ d ih =>
      intro i hi
      refine br_f (nI_ge (by omega) (by omega)) ⟨ts_v (by omega), ts_v (by omega), nm_r (e' := ts_cp a_result a_made (i + 1)) ?_ (nm_r (nI_1 i) (ih (i + 1) (by omega)))⟩
      rw [nI_clamp (by omega)]
      exact ts_cp_s _ _ _
  have := H m 0 (by omega)
  rw [ts_cp_0] at this
  exact ⟨_, this⟩
end
section
variable {f_words f_tokens f_textSize f_resultSize f_rowSize f_barred f_made f_kept : Int32} {a_counts a_sizes a_spelled a_lefts a_rights a_prices a_lengths a_letters a_text a_result a_row a_parts a_sums a_numbers a_splits a_tried a_begins : Nat → Int32}
theorem ty_splitc {post : Int32 → SY → Prop} {m : Nat} (hm : m ≤ 12) (h : post (nI m) (f_words, f_tokens, f_textSize, f_resultSize, f_rowSize, f_barred, nI m, f_kept, a_counts, a_sizes, a_spelled, a_lefts, a_rights, a_prices, a_lengths, a_letters, a_text, ts_cp a_result a_parts m, a_row, a_parts, a_sums, a_numbers, a_splits, a_tried, a_begins)) : ∃ n, wY_split_30 post f_words f_tokens f_textSize f_resultSize f_rowSize f_barred (nI m) f_kept n 0 a_counts a_sizes a_spelled a_lefts a_rights a_prices a_lengths a_letters a_text a_result a_row a_parts a_sums a_numbers a_splits a_tried a_begins := by
  have H : ∀ d i, i + d = m → wY_split_30 post f_words f_tokens f_textSize f_resultSize f_rowSize f_barred (nI m) f_kept (d + 1) (nI i) a_counts a_sizes a_spelled a_lefts a_rights a_prices a_lengths a_letters a_text (ts_cp a_result a_parts i) a_row a_parts a_sums a_numbers a_splits a_tried a_begins := by
    intro d
    induction d with
    | zero =>
      intro i hi
      have e : i = m := by omega
      subst e
      exact br_t (nI_le (Nat.le_refl i) (by omega)) h
    | succ d ih =>
      intro i hi
      refine br_f (nI_ge (by omega) (by omega)) ⟨ts_v (by omega), ts_v (by omega), nm_r (e' := ts_cp a_result a_parts (i + 1)) ?_ (nm_r (nI_1 i) (ih (i + 1) (by omega)))⟩
      rw [nI_clamp (by omega)]
      exact ts_cp_s _ _ _
  have := H m 0 (by omega)
  rw [ts_cp_0] at this
  exact ⟨_, this⟩
end
theorem i_vc_split {k : Nat} {u : SX} {v : SY} (I : i_Rel k u v) (hk : k + 3 ≤ 1536) (v1 : Int32) : wpX_split (fun r u' => wpY_split (fun r' v' => r' = r ∧ i_Rel (k + 3) u' v') v v1) u v1 := by
  unfold wpX_split wpY_split
  obtain ⟨w, T, tl, rs, WL, WS, LF, RG, PR, SP, LN, LT, TX, RE, WC, rlX, msX, rowX, mdX, pf, wf, sa, sk, st, sr, rlY, mkY, kpY, rowY, pt, sm, nb, sl, tr, bg, rfl, rfl, hI⟩ := I
  obtain ⟨hw, htl, hrs, hE, hag, hWL, hWS, hLF, hRG, hPR, hSP, hLT, hTX, hRE, hsum⟩ := id hI
  rcases ts_or (x := v1) 3 (by decide) with hb | ⟨j, hj, rfl⟩
  · refine tx_way0 hb ?_
    refine br_t rfl ?_
    exact ty_way0 hb ⟨rfl, ts_mk hI⟩ ⟨rfl, ts_mk hI⟩
  obtain ⟨l, l1, l2, lX, lY⟩ := ts_way (r := TX) hj htl hE hag hLF hRG hPR hSP hLT hTX
  refine tx_way1 hj ?_
  refine br_f ts_10 ?_
  refine tx_takeText htl ?_
  refine lX (fun i hi => ts_cp_lt hi) (fun md sa sk st sr hmd => ?_)
  refine tx_splitc (by omega) ?_
  refine ty_way1 hj ?_
  refine ty_takeText htl ?_
  refine lY (fun i hi => ts_cp_lt hi) (fun kp pt sm nb sl tr bg hpt => ?_)
  refine ty_splitc (by omega) ⟨rfl, ?_⟩
  rw [ts_res hmd, ts_res hpt]
  refine ts_mk ⟨hw, htl, by omega, hE, hag, hWL, hWS, hLF, hRG, hPR, hSP, hLT, hTX, fun i => ?_, hsum⟩
  show (if i < l.length then l.getD i 0 else RE i) < 20
  by_cases z : i < l.length
  · rw [if_pos z, List.getD_eq_getElem?_getD, List.getElem?_eq_getElem z]
    have := l2 l[i] (List.getElem_mem z)
    have := hE.2.1
    show l[i] < 20
    omega
  · rw [if_neg z]
    exact hRE i
