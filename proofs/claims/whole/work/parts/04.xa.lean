section
variable {f_words f_tokenCount f_textLength f_resultSize f_rowLength f_madeSize : Int32} {a_wordLetters a_wordLength a_wordCount a_leftOf a_rightOf a_priceOf a_spelling a_spellingLength a_text a_result a_row a_made a_pairFrequency a_waysFrom a_slotsAt a_slotKey a_slotToken a_slotRest : Nat → Int32}
theorem tx_takeText {post : SX → Prop} {tl : Nat} (htl : tl ≤ 12) (h : post (f_words, f_tokenCount, nI tl, f_resultSize, nI tl, f_madeSize, a_wordLetters, a_wordLength, a_wordCount, a_leftOf, a_rightOf, a_priceOf, a_spelling, a_spellingLength, a_text, a_result, ts_cp a_row a_text tl, a_made, a_pairFrequency, a_waysFrom, a_slotsAt, a_slotKey, a_slotToken, a_slotRest)) : wpX_takeText post (f_words, f_tokenCount, nI tl, f_resultSize, f_rowLength, f_madeSize, a_wordLetters, a_wordLength, a_wordCount, a_leftOf, a_rightOf, a_priceOf, a_spelling, a_spellingLength, a_text, a_result, a_row, a_made, a_pairFrequency, a_waysFrom, a_slotsAt, a_slotKey, a_slotToken, a_slotRest) := by
  have H : ∀ d i, i + d = tl → wX_takeText_2 post f_words f_tokenCount (nI tl) f_resultSize f_rowLength f_madeSize (d + 1) (nI i) a_wordLetters a_wordLength a_wordCount a_leftOf a_rightOf a_priceOf a_spelling a_spellingLength a_text a_result (ts_cp a_row a_text i) a_made a_pairFrequency a_waysFrom a_slotsAt a_slotKey a_slotToken a_slotRest := by
    intro d
    induction d with
    | zero =>
      intro i hi
      have e : i = tl := by omega
      subst e
      exact br_t (nI_le (Nat.le_refl i) (by omega)) h
    | succ d ih =>
      intro i hi
      refine br_f (nI_ge (by omega) (by omega)) ⟨ts_v (by omega), ts_v (by omega), nm_r (e' := ts_cp a_row a_text (i + 1)) ?_ (nm_r (nI_1 i) (ih (i + 1) (by omega)))⟩
      rw [nI_clamp (by omega)]
      exact ts_cp_s _ _ _
  have := H tl 0 (by omega)
  rw [ts_cp_0] at this
  exact ⟨_, this⟩
theorem tx_takeWord {post : SX → Prop} {w m : Nat} (hw : w < 12) (hm : m ≤ 8) (e : a_wordLength w = nI m) (h : post (f_words, f_tokenCount, f_textLength, f_resultSize, nI m, f_madeSize, a_wordLetters, a_wordLength, a_wordCount, a_leftOf, a_rightOf, a_priceOf, a_spelling, a_spellingLength, a_text, a_result, ts_cp a_row (fun i => a_wordLetters (w * 8 + i)) m, a_made, a_pairFrequency, a_waysFrom, a_slotsAt, a_slotKey, a_slotToken, a_slotRest)) : wpX_takeWord post (f_words, f_tokenCount, f_textLength, f_resultSize, f_rowLength, f_madeSize, a_wordLetters, a_wordLength, a_wordCount, a_leftOf, a_rightOf, a_priceOf, a_spelling, a_spellingLength, a_text, a_result, a_row, a_made, a_pairFrequency, a_waysFrom, a_slotsAt, a_slotKey, a_slotToken, a_slotRest) (nI w) := by
  have hc : (nI w).toNatClampNeg = w := nI_clamp (by omega)
  have H : ∀ d i, i + d = m → wX_takeWord_2 post (nI w) f_words f_tokenCount f_textLength f_resultSize f_rowLength f_madeSize (d + 1) (nI i) a_wordLetters a_wordLength a_wordCount a_leftOf a_rightOf a_priceOf a_spelling a_spellingLength a_text a_result (ts_cp a_row (fun i => a_wordLetters (w * 8 + i)) i) a_made a_pairFrequency a_waysFrom a_slotsAt a_slotKey a_slotToken a_slotRest := by
    intro d
    induction d with
    | zero =>
      intro i hi
      have e2 : i = m := by omega
      subst e2
      refine ⟨ts_v hw, br_t ?_ ⟨ts_v hw, nm_r (e' := nI i) ?_ h⟩⟩
      · rw [hc, e]; exact nI_le (Nat.le_refl i) (by omega)
      · rw [hc, e]
    | succ d ih =>
      intro i hi
      have e3 : nI w * 8 + nI i = nI (w * 8 + i) := ts_ma 8 w i
      refine ⟨ts_v hw, br_f ?_ ⟨?_, ts_v (by omega), nm_r (e' := ts_cp a_row (fun i => a_wordLetters (w * 8 + i)) (i + 1)) ?_ (nm_r (nI_1 i) (ih (i + 1) (by omega)))⟩⟩
      · rw [hc, e]; exact nI_ge (by omega) (by omega)
      · rw [e3]; exact ts_v (by omega)
      · rw [e3, nI_clamp (by omega), nI_clamp (by omega)]
        exact ts_cp_s _ (fun i => a_wordLetters (w * 8 + i)) _
  have := H m 0 (by omega)
  rw [ts_cp_0] at this
  exact ⟨_, this⟩
def tx_TJ : Type := Int32 → Int32 → Int32 → (Nat → Int32) → (Nat → Int32) → (Nat → Int32) → (Nat → Int32) → (Nat → Int32) → (Nat → Int32) → (Nat → Int32) → (Nat → Int32) → (Nat → Int32) → (Nat → Int32) → (Nat → Int32) → (Nat → Int32) → (Nat → Int32) → (Nat → Int32) → (Nat → Int32) → (Nat → Int32) → (Nat → Int32) → (Nat → Int32) → Prop
theorem tx_mp0 {post : SX → Prop} {J : tx_TJ} {x1 x2 : Int32} {q i : Nat} {z : Int32} (hq : q < 12) (hi : i < 12) (ez : a_made i = z) (h : J (nI (q + 1)) (nI (i + 1)) (nI (i + 1)) a_wordLetters a_wordLength a_wordCount a_leftOf a_rightOf a_priceOf a_spelling a_spellingLength a_text a_result a_row (upd a_made q z) a_pairFrequency a_waysFrom a_slotsAt a_slotKey a_slotToken a_slotRest) : wX_mergePairs_72 post J x1 x2 (nI q) (nI i) f_words f_tokenCount f_textLength f_resultSize f_rowLength f_madeSize a_wordLetters a_wordLength a_wordCount a_leftOf a_rightOf a_priceOf a_spelling a_spellingLength a_text a_result a_row a_made a_pairFrequency a_waysFrom a_slotsAt a_slotKey a_slotToken a_slotRest := by
  subst ez
  have e1 : upd a_made (nI q).toNatClampNeg (a_made (nI i).toNatClampNeg) = upd a_made q (a_made i) := by
    rw [nI_clamp (by omega), nI_clamp (by omega)]
  exact br_t rfl ⟨ts_v hi, ts_v hq, nm_r e1 (nm_r (nI_1 q) (br_t rfl (nm_r (nI_1 i) (nm_r (nI_1 i) h))))⟩
theorem tx_mp1 {post : SX → Prop} {J : tx_TJ} {x1 x2 : Int32} {q i : Nat} (hq : q < 12) (hi : i < 12) (h : J (nI (q + 1)) (nI (i + 2)) (nI (i + 1)) a_wordLetters a_wordLength a_wordCount a_leftOf a_rightOf a_priceOf a_spelling a_spellingLength a_text a_result a_row (upd a_made q x1) a_pairFrequency a_waysFrom a_slotsAt a_slotKey a_slotToken a_slotRest) : wX_mergePairs_73 post J x1 x2 (nI q) (nI i) 1 f_words f_tokenCount f_textLength f_resultSize f_rowLength f_madeSize a_wordLetters a_wordLength a_wordCount a_leftOf a_rightOf a_priceOf a_spelling a_spellingLength a_text a_result a_row a_made a_pairFrequency a_waysFrom a_slotsAt a_slotKey a_slotToken a_slotRest := by
  have e1 : upd a_made (nI q).toNatClampNeg x1 = upd a_made q x1 := by
    rw [nI_clamp (by omega)]
  have n10 : ¬ (1 : Int32) = 0 := by decide
  exact br_f n10 ⟨ts_v hq, nm_r e1 (nm_r (nI_1 q) (br_f n10 (nm_r (nI_add i 2) (nm_r (nI_1 i) h))))⟩
theorem tx_mergePairs {post : SX → Prop} {t : Nat} {lf rg : Nat → Nat} {L : List Nat} (ht : t < 20) (hL : L.length ≤ 12) (hLe : ∀ e ∈ L, e < 20) (hlf : lf t < 20) (hrg : rg t < 20) (h0 : ts_Hd a_made L)
    (h : ∀ a, ts_Hd a (ts_mg (lf t) (rg t) t L) → post (f_words, f_tokenCount, f_textLength, f_resultSize, f_rowLength, nI (ts_mg (lf t) (rg t) t L).length, a_wordLetters, a_wordLength, a_wordCount, ts_F lf, ts_F rg, a_priceOf, a_spelling, a_spellingLength, a_text, a_result, a_row, a, a_pairFrequency, a_waysFrom, a_slotsAt, a_slotKey, a_slotToken, a_slotRest)) :
    wpX_mergePairs post (f_words, f_tokenCount, f_textLength, f_resultSize, f_rowLength, nI L.length, a_wordLetters, a_wordLength, a_wordCount, ts_F lf, ts_F rg, a_priceOf, a_spelling, a_spellingLength, a_text, a_result, a_row, a_made, a_pairFrequency, a_waysFrom, a_slotsAt, a_slotKey, a_slotToken, a_slotRest) (nI t) := by
  have hct : (nI t).toNatClampNeg = t := nI_clamp (by omega)
  have H : ∀ d i, i + d = L.length → ∀ fuel, d < fuel → ∀ (a : Nat → Int32) (out : List Nat), out.length ≤ i → ts_Hd a out → (∀ j e, i ≤ j → L[j]? = some e → a j = nI e) → out ++ ts_mg (lf t) (rg t) t (L.drop i) = ts_mg (lf t) (rg t) t L →
      wX_mergePairs_13 post (nI t) (nI L.length) f_words f_tokenCount f_textLength f_resultSize f_rowLength (nI L.length) fuel (nI out.length) (nI i) (nI i) a_wordLetters a_wordLength a_wordCount (ts_F lf) (ts_F rg) a_priceOf a_spelling a_spellingLength a_text a_result a_row a a_pairFrequency a_waysFrom a_slotsAt a_slotKey a_slotToken a_slotRest := by
    intro d
    induction d using Nat.strongRecOn with
    | ind d ih =>
      intro i hi fuel hf a out ho ha hr hfin
      obtain ⟨fuel, rfl⟩ : ∃ g, fuel = g + 1 := ⟨fuel - 1, by omega⟩
      by_cases z : i = L.length
      · have e1 : ts_mg (lf t) (rg t) t (L.drop i) = [] := by rw [List.drop_eq_nil_of_le (by omega)]; simp only [ts_mg]
        rw [e1, List.append_nil] at hfin
        refine br_t (nI_le (by omega) (by omega)) ?_
        rw [hfin]
        exact h a (by rw [← hfin]; exact ha)
      · refine br_f (nI_ge (by omega) (by omega)) (br_t rfl ?_)
        obtain ⟨x, hx⟩ := ts_get (l := L) (i := i) (by omega)
        have hxl : x < 20 := hLe x (List.mem_of_getElem? hx)
        have hax : a i = nI x := hr i x (Nat.le_refl i) hx
        have hci : (nI i).toNatClampNeg = i := nI_clamp (by omega)
        have e1 : nI i + 1 = nI (i + 1) := nI_1 i
        have hns : ts_mg (lf t) (rg t) t (L.drop i) = x :: ts_mg (lf t) (rg t) t (L.drop (i + 1)) → wX_mergePairs_72 post (wX_mergePairs_13 post (nI t) (nI L.length) f_words f_tokenCount f_textLength f_resultSize f_rowLength (nI L.length) fuel) (nI t) (nI L.length) (nI out.length) (nI i) f_words f_tokenCount f_textLength f_resultSize f_rowLength (nI L.length) a_wordLetters a_wordLength a_wordCount (ts_F lf) (ts_F rg) a_priceOf a_spelling a_spellingLength a_text a_result a_row a a_pairFrequency a_waysFrom a_slotsAt a_slotKey a_slotToken a_slotRest := by
          intro hm
          refine tx_mp0 (by omega) (by omega) hax ?_
          have := ih (d - 1) (by omega) (i + 1) (by omega) fuel (by omega) (upd a out.length (nI x)) (out ++ [x]) (by rw [List.length_append]; simp only [List.length_cons, List.length_nil]; omega) (ts_Hd_snoc ha) (fun j e hj he => by rw [pk_un (by omega)]; exact hr j e (by omega) he) (by rw [List.append_assoc, ← hfin, hm]; rfl)
          rw [List.length_append] at this
          exact this
        by_cases z2 : i + 1 = L.length
        · refine br_t ?_ (hns ?_)
          · rw [e1]; exact nI_le (by omega) (by omega)
          · rw [ts_drop hx, List.drop_eq_nil_of_le (by omega)]; simp only [ts_mg]
        · obtain ⟨y, hy⟩ := ts_get (l := L) (i := i + 1) (by omega)
          have hyl : y < 20 := hLe y (List.mem_of_getElem? hy)
          have hay : a (i + 1) = nI y := hr (i + 1) y (by omega) hy
          have hci1 : (nI i + 1).toNatClampNeg = i + 1 := by rw [e1]; exact nI_clamp (by omega)
          have hv1 : vp_in (nI i + 1) 12 := by rw [e1]; exact ts_v (by omega)
          refine br_f (by rw [e1]; exact nI_ge (by omega) (by omega)) ⟨ts_v (by omega), ts_v ht, ?_⟩
          by_cases c1 : x = lf t
          · refine br_t (by rw [hci, hct, hax, c1]; rfl) ⟨hv1, ts_v ht, ?_⟩
            by_cases c2 : y = rg t
            · refine br_t (by rw [hci1, hct, hay, c2]; rfl) ?_
              refine tx_mp1 (by omega) (by omega) ?_
              obtain ⟨fuel, rfl⟩ : ∃ g, fuel = g + 1 := ⟨fuel - 1, by omega⟩
              refine br_f (nI_ge (by omega) (by omega)) (br_f (fun z => ?_) (nm_r (nI_1 (i + 1)) ?_))
              · have := (nI_eq (by omega) (by omega)).mp z
                omega
              · have := ih (d - 2) (by omega) (i + 2) (by omega) fuel (by omega) (upd a out.length (nI t)) (out ++ [t]) (by rw [List.length_append]; simp only [List.length_cons, List.length_nil]; omega) (ts_Hd_snoc ha) (fun j e hj he => by rw [pk_un (by omega)]; exact hr j e (by omega) he) (by
                  rw [List.append_assoc, ← hfin, ts_drop hx, ts_drop hy]
                  simp only [ts_mg]
                  rw [if_pos ⟨c1, c2⟩]
                  rfl)
                rw [List.length_append] at this
                exact this
            · refine br_f (fun z => ?_) (hns ?_)
              · rw [hci1, hct, hay] at z
                exact c2 ((nI_eq (by omega) (by omega)).mp z)
              · rw [ts_drop hx, ts_drop hy]
                simp only [ts_mg]
                rw [if_neg (fun q => c2 q.2)]
          · refine br_f (fun z => ?_) (hns ?_)
            · rw [hci, hct, hax] at z
              exact c1 ((nI_eq (by omega) (by omega)).mp z)
            · rw [ts_drop hx, ts_drop hy]
              simp only [ts_mg]
              rw [if_neg (fun q => c1 q.1)]
  exact ⟨L.length + 1, H L.length 0 (by omega) _ (by omega) a_made [] (Nat.le_refl 0) (ts_Hd_nil _) (fun j e _ he => h0 j e he) rfl⟩
end
