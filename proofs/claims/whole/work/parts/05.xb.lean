theorem ts_mi_len (lf rg : Nat → Nat) (l0 : List Nat) : ∀ k, (ts_mi lf rg l0 k).length ≤ l0.length := by
  intro k
  induction k with
  | zero => exact Nat.le_refl _
  | succ k ih => exact Nat.le_trans (ts_mg_all _ _ _ (fun _ => 0) (6 + k + 1) rfl (by omega) _ _ (Nat.le_refl _)).1 ih
theorem ts_mi_lt (lf rg : Nat → Nat) (l0 : List Nat) (h0 : ∀ e ∈ l0, e < 6) : ∀ k, ∀ e ∈ ts_mi lf rg l0 k, e < 6 + k := by
  intro k
  induction k with
  | zero => exact h0
  | succ k ih =>
    refine (ts_mg_all _ _ _ (fun _ => 0) (6 + (k + 1)) rfl (by omega) _ _ (Nat.le_refl _)).2.2 (fun e he => ?_)
    have := ih e he
    omega
section
variable {f_words f_tokenCount f_textLength f_resultSize f_rowLength f_madeSize : Int32} {a_wordLetters a_wordLength a_wordCount a_leftOf a_rightOf a_priceOf a_spelling a_spellingLength a_text a_result a_row a_made a_pairFrequency a_waysFrom a_slotsAt a_slotKey a_slotToken a_slotRest : Nat → Int32}
theorem tx_mergeRow39 {post : SX → Prop} {T : Nat} {lf rg : Nat → Nat} {l0 : List Nat} (hT : T ≤ 20) (hl0 : l0.length ≤ 12) (he0 : ∀ e ∈ l0, e < 6) (hlf : ∀ t, lf t < 20) (hrg : ∀ t, rg t < 20)
    (h : ∀ a, ts_Hd a (ts_mi lf rg l0 (T - 6)) → post (f_words, nI T, f_textLength, f_resultSize, f_rowLength, nI (ts_mi lf rg l0 (T - 6)).length, a_wordLetters, a_wordLength, a_wordCount, ts_F lf, ts_F rg, a_priceOf, a_spelling, a_spellingLength, a_text, a_result, a_row, a, a_pairFrequency, a_waysFrom, a_slotsAt, a_slotKey, a_slotToken, a_slotRest)) :
    ∀ d k, 6 + k + d = T → ∀ a, ts_Hd a (ts_mi lf rg l0 k) → wX_mergeRow_39 post (d + 1) (nI (6 + k)) f_words (nI T) f_textLength f_resultSize f_rowLength (nI (ts_mi lf rg l0 k).length) a_wordLetters a_wordLength a_wordCount (ts_F lf) (ts_F rg) a_priceOf a_spelling a_spellingLength a_text a_result a_row a a_pairFrequency a_waysFrom a_slotsAt a_slotKey a_slotToken a_slotRest := by
  intro d
  induction d with
  | zero =>
    intro k hk a ha
    have e : k = T - 6 := by omega
    subst e
    exact br_t (nI_le (by omega) (by omega)) (h a ha)
  | succ d ih =>
    intro k hk a ha
    refine br_f (nI_ge (by omega) (by omega)) ?_
    refine tx_mergePairs (by omega) (Nat.le_trans (ts_mi_len lf rg l0 k) hl0) (fun e he => ?_) (hlf _) (hrg _) ha ?_
    · have := ts_mi_lt lf rg l0 he0 k e he
      omega
    · intro a' ha'
      exact nm_r (nI_1 (6 + k)) (ih (k + 1) (by omega) a' ha')
theorem tx_mergeRow {post : SX → Prop} {T n : Nat} {lf rg r : Nat → Nat} (hT6 : 6 ≤ T) (hT : T ≤ 20) (hn : n ≤ 12) (hr : ∀ i, r i < 6) (hrow : ∀ i, i < n → a_row i = nI (r i)) (hlf : ∀ t, lf t < 20) (hrg : ∀ t, rg t < 20)
    (h : ∀ a, ts_Hd a (ts_mi lf rg (ts_rw r n) (T - 6)) → post (f_words, nI T, f_textLength, f_resultSize, nI n, nI (ts_mi lf rg (ts_rw r n) (T - 6)).length, a_wordLetters, a_wordLength, a_wordCount, ts_F lf, ts_F rg, a_priceOf, a_spelling, a_spellingLength, a_text, a_result, a_row, a, a_pairFrequency, a_waysFrom, a_slotsAt, a_slotKey, a_slotToken, a_slotRest)) :
    wpX_mergeRow post (f_words, nI T, f_textLength, f_resultSize, nI n, f_madeSize, a_wordLetters, a_wordLength, a_wordCount, ts_F lf, ts_F rg, a_priceOf, a_spelling, a_spellingLength, a_text, a_result, a_row, a_made, a_pairFrequency, a_waysFrom, a_slotsAt, a_slotKey, a_slotToken, a_slotRest) := by
  have H : ∀ d i, i + d = n → wX_mergeRow_2 post f_words (nI T) f_textLength f_resultSize (nI n) f_madeSize (d + 1) (nI i) a_wordLetters a_wordLength a_wordCount (ts_F lf) (ts_F rg) a_priceOf a_spelling a_spellingLength a_text a_result a_row (ts_cp a_made a_row i) a_pairFrequency a_waysFrom a_slotsAt a_slotKey a_slotToken a_slotRest := by
    intro d
    induction d with
    | zero =>
      intro i hi
      have e : i = n := by omega
      subst e
      refine br_t (nI_le (Nat.le_refl i) (by omega)) ?_
      have hd : ts_Hd (ts_cp a_made a_row i) (ts_mi lf rg (ts_rw r i) 0) := by
        intro j e he
        rw [show ts_mi lf rg (ts_rw r i) 0 = ts_rw r i from rfl, ts_rw_get] at he
        by_cases z : j < i
        · rw [if_pos z] at he
          cases he
          rw [ts_cp_lt z]
          exact hrow j z
        · rw [if_neg z] at he
          cases he
      have := tx_mergeRow39 (post := post) (T := T) (lf := lf) (rg := rg) (l0 := ts_rw r i) hT (by rw [ts_rw_len]; exact hn) (fun e he => by obtain ⟨q, _, rfl⟩ := ts_rw_mem he; exact hr q) hlf hrg h (T - 6) 0 (by omega) _ hd
      rw [show (ts_mi lf rg (ts_rw r i) 0).length = i from ts_rw_len r i] at this
      exact ⟨_, this⟩
    | succ d ih =>
      intro i hi
      refine br_f (nI_ge (by omega) (by omega)) ⟨ts_v (by omega), ts_v (by omega), nm_r (e' := ts_cp a_made a_row (i + 1)) ?_ (nm_r (nI_1 i) (ih (i + 1) (by omega)))⟩
      rw [nI_clamp (by omega)]
      exact ts_cp_s _ _ _
  have := H n 0 (by omega)
  rw [ts_cp_0] at this
  exact ⟨_, this⟩
/-- X's pair cells hold the frequencies over the words below w -/
def ts_PF (WC : Nat → Int32) (ML : Nat → List Nat) (pf : Nat → Int32) (w : Nat) : Prop := ∀ x y, x < 20 → y < 20 → pf (x * 20 + y) = ts_fq WC ML x y w
def tx_TJ2 : Type := Int32 → Int32 → Int32 → Int32 → Int32 → Int32 → Int32 → (Nat → Int32) → (Nat → Int32) → (Nat → Int32) → (Nat → Int32) → (Nat → Int32) → (Nat → Int32) → (Nat → Int32) → (Nat → Int32) → (Nat → Int32) → (Nat → Int32) → (Nat → Int32) → (Nat → Int32) → (Nat → Int32) → (Nat → Int32) → (Nat → Int32) → (Nat → Int32) → (Nat → Int32) → (Nat → Int32) → Prop
theorem tx_cp43 {post : SX → Prop} {J : tx_TJ2} {w : Nat} {L : List Nat} (hw : w < 12) (hL : L.length ≤ 12) (hLe : ∀ e ∈ L, e < 20) (h0 : ts_Hd a_made L)
    (h : ∀ pf, (∀ x y, x < 20 → y < 20 → pf (x * 20 + y) = a_pairFrequency (x * 20 + y) + ts_am (a_wordCount w) L x y (L.length - 1)) → J (nI (w + 1)) f_words f_tokenCount f_textLength f_resultSize f_rowLength (nI L.length) a_wordLetters a_wordLength a_wordCount a_leftOf a_rightOf a_priceOf a_spelling a_spellingLength a_text a_result a_row a_made pf a_waysFrom a_slotsAt a_slotKey a_slotToken a_slotRest) :
    ∃ n, wX_countPairs_43 post J (nI w) f_words f_tokenCount f_textLength f_resultSize f_rowLength (nI L.length) n 1 a_wordLetters a_wordLength a_wordCount a_leftOf a_rightOf a_priceOf a_spelling a_spellingLength a_text a_result a_row a_made a_pairFrequency a_waysFrom a_slotsAt a_slotKey a_slotToken a_slotRest := by
  have hcw : (nI w).toNatClampNeg = w := nI_clamp (by omega)
  have H : ∀ d i, i + 1 + d = max L.length 1 → ∀ pf, (∀ x y, x < 20 → y < 20 → pf (x * 20 + y) = a_pairFrequency (x * 20 + y) + ts_am (a_wordCount w) L x y i) → wX_countPairs_43 post J (nI w) f_words f_tokenCount f_textLength f_resultSize f_rowLength (nI L.length) (d + 1) (nI (i + 1)) a_wordLetters a_wordLength a_wordCount a_leftOf a_rightOf a_priceOf a_spelling a_spellingLength a_text a_result a_row a_made pf a_waysFrom a_slotsAt a_slotKey a_slotToken a_slotRest := by
    intro d
    induction d with
    | zero =>
      intro i hi pf hpf
      refine br_t (nI_le (by omega) (by omega)) (nm_r (nI_1 w) (h pf ?_))
      rw [show L.length - 1 = i by omega]
      exact hpf
    | succ d ih =>
      intro i hi pf hpf
      obtain ⟨x, hx⟩ := ts_get (l := L) (i := i) (by omega)
      obtain ⟨y, hy⟩ := ts_get (l := L) (i := i + 1) (by omega)
      have hxl : x < 20 := hLe x (List.mem_of_getElem? hx)
      have hyl : y < 20 := hLe y (List.mem_of_getElem? hy)
      have e0 : nI (i + 1) - 1 = nI i := nI_pred i
      have e1 : (nI (i + 1) - 1).toNatClampNeg = i := by rw [e0]; exact nI_clamp (by omega)
      have e2 : (nI (i + 1)).toNatClampNeg = i + 1 := nI_clamp (by omega)
      have e3 : a_made (nI (i + 1) - 1).toNatClampNeg * 20 + a_made (nI (i + 1)).toNatClampNeg = nI (x * 20 + y) := by
        rw [e1, e2, h0 i x hx, h0 (i + 1) y hy]
        exact ts_ma 20 x y
      have hv : vp_in (a_made (nI (i + 1) - 1).toNatClampNeg * 20 + a_made (nI (i + 1)).toNatClampNeg) 400 := by rw [e3]; exact ts_v (by omega)
      refine br_f (nI_ge (by omega) (by omega)) ⟨by rw [e0]; exact ts_v (by omega), ts_v (by omega), hv, ts_v hw, hv, nm_r (e' := upd pf (x * 20 + y) (pf (x * 20 + y) + a_wordCount w)) ?_ (nm_r (nI_1 (i + 1)) (ih (i + 1) (by omega) _ ?_))⟩
      · rw [e3, hcw, nI_clamp (by omega)]
      · intro x' y' hx' hy'
        show _ = _ + (ts_am (a_wordCount w) L x' y' i + _)
        by_cases c : x' = x ∧ y' = y
        · rw [c.1, c.2, pk_us, if_pos ⟨hx, hy⟩, hpf x y hxl hyl, Int32.add_assoc]
        · rw [pk_un (by omega), if_neg, hpf x' y' hx' hy', Int32.add_zero]
          intro z
          rw [hx, hy] at z
          exact c ⟨(Option.some.inj z.1).symm, (Option.some.inj z.2).symm⟩
  have := H (max L.length 1 - 1) 0 (by omega) a_pairFrequency (fun x y _ _ => by show _ = _ + 0; rw [Int32.add_zero])
  exact ⟨_, this⟩
end
/-- the merged word w -/
def ts_ML (lf rg WL WS : Nat → Nat) (T w : Nat) : List Nat := ts_mi lf rg (ts_rw (fun i => WL (w * 8 + i)) (WS w)) (T - 6)
theorem ts_ML_len (lf rg WL WS : Nat → Nat) (T w : Nat) : (ts_ML lf rg WL WS T w).length ≤ WS w := by
  have := ts_mi_len lf rg (ts_rw (fun i => WL (w * 8 + i)) (WS w)) (T - 6)
  rw [ts_rw_len] at this
  exact this
theorem ts_ML_lt {lf rg WL WS : Nat → Nat} {T : Nat} (w : Nat) (hT : 6 ≤ T) (hWL : ∀ i, WL i < 6) : ∀ e ∈ ts_ML lf rg WL WS T w, e < T := by
  intro e he
  have := ts_mi_lt lf rg (ts_rw (fun i => WL (w * 8 + i)) (WS w)) (fun e he => by obtain ⟨q, _, rfl⟩ := ts_rw_mem he; exact hWL _) (T - 6) e he
  omega
section
variable {f_words f_tokenCount f_textLength f_resultSize f_rowLength f_madeSize : Int32} {a_wordLetters a_wordLength a_wordCount a_leftOf a_rightOf a_priceOf a_spelling a_spellingLength a_text a_result a_row a_made a_pairFrequency a_waysFrom a_slotsAt a_slotKey a_slotToken a_slotRest : Nat → Int32}
theorem tx_countPairs {post : SX → Prop} {W T : Nat} {lf rg WL WS : Nat → Nat} (hW : W ≤ 12) (hT6 : 6 ≤ T) (hT : T ≤ 20) (hWL : ∀ i, WL i < 6) (hWS : ∀ i, WS i ≤ 8) (hlf : ∀ t, lf t < 20) (hrg : ∀ t, rg t < 20)
    (h : ∀ rl ms row md pf, ts_PF a_wordCount (ts_ML lf rg WL WS T) pf W → post (nI W, nI T, f_textLength, f_resultSize, rl, ms, ts_F WL, ts_F WS, a_wordCount, ts_F lf, ts_F rg, a_priceOf, a_spelling, a_spellingLength, a_text, a_result, row, md, pf, a_waysFrom, a_slotsAt, a_slotKey, a_slotToken, a_slotRest)) :
    wpX_countPairs post (nI W, nI T, f_textLength, f_resultSize, f_rowLength, f_madeSize, ts_F WL, ts_F WS, a_wordCount, ts_F lf, ts_F rg, a_priceOf, a_spelling, a_spellingLength, a_text, a_result, a_row, a_made, a_pairFrequency, a_waysFrom, a_slotsAt, a_slotKey, a_slotToken, a_slotRest) := by
  have H2 : ∀ d w, w + d = W → ∀ rl ms row md pf, ts_PF a_wordCount (ts_ML lf rg WL WS T) pf w → wX_countPairs_24 post (d + 1) (nI w) (nI W) (nI T) f_textLength f_resultSize rl ms (ts_F WL) (ts_F WS) a_wordCount (ts_F lf) (ts_F rg) a_priceOf a_spelling a_spellingLength a_text a_result row md pf a_waysFrom a_slotsAt a_slotKey a_slotToken a_slotRest := by
    intro d
    induction d with
    | zero =>
      intro w hw rl ms row md pf hpf
      have e : w = W := by omega
      subst e
      exact br_t (nI_le (Nat.le_refl w) (by omega)) (h _ _ _ _ _ hpf)
    | succ d ih =>
      intro w hw rl ms row md pf hpf
      have hs := hWS w
      refine br_f (nI_ge (by omega) (by omega)) ?_
      refine tx_takeWord (w := w) (m := WS w) (by omega) hs rfl ?_
      refine tx_mergeRow (r := fun i => WL (w * 8 + i)) (n := WS w) hT6 hT (by omega) (fun i => hWL _) (fun i hi => ts_cp_lt hi) hlf hrg (fun a ha => ?_)
      have hl := ts_ML_len lf rg WL WS T w
      refine tx_cp43 (L := ts_ML lf rg WL WS T w) (by omega) (by omega) (fun e he => by have := ts_ML_lt w hT6 hWL e he; omega) ha (fun pf' hpf' => ih (w + 1) (by omega) _ _ _ _ _ ?_)
      intro x y hx hy
      rw [hpf' x y hx hy, hpf x y hx hy]
      rfl
  have H : ∀ d i, i + d = 400 → wX_countPairs_2 post (nI W) (nI T) f_textLength f_resultSize f_rowLength f_madeSize (d + 1) (nI i) (ts_F WL) (ts_F WS) a_wordCount (ts_F lf) (ts_F rg) a_priceOf a_spelling a_spellingLength a_text a_result a_row a_made (ts_cp a_pairFrequency (fun _ => 0) i) a_waysFrom a_slotsAt a_slotKey a_slotToken a_slotRest := by
    intro d
    induction d with
    | zero =>
      intro i hi
      have e : i = 400 := by omega
      subst e
      refine br_t (nI_le (b := 400) (Nat.le_refl _) (by omega)) ⟨_, H2 W 0 (by omega) _ _ _ _ _ (fun x y hx hy => ?_)⟩
      exact ts_cp_lt (by omega)
    | succ d ih =>
      intro i hi
      refine br_f (nI_ge (b := 400) (by omega) (by omega)) ⟨ts_v (by omega), nm_r (e' := ts_cp a_pairFrequency (fun _ => 0) (i + 1)) ?_ (nm_r (nI_1 i) (ih (i + 1) (by omega)))⟩
      rw [nI_clamp (by omega)]
      exact ts_cp_s _ (fun _ => 0) _
  have := H 400 0 (by omega)
  rw [ts_cp_0] at this
  exact ⟨_, this⟩
theorem tx_mostFrequentPair {post : Int32 → Prop} (h : ∀ m, m < 400 → (∀ j, j < 400 → (a_pairFrequency j).toInt ≤ (a_pairFrequency m).toInt) → (∀ j, j < m → (a_pairFrequency j).toInt < (a_pairFrequency m).toInt) → post (nI m)) : wpX_mostFrequentPair post (f_words, f_tokenCount, f_textLength, f_resultSize, f_rowLength, f_madeSize, a_wordLetters, a_wordLength, a_wordCount, a_leftOf, a_rightOf, a_priceOf, a_spelling, a_spellingLength, a_text, a_result, a_row, a_made, a_pairFrequency, a_waysFrom, a_slotsAt, a_slotKey, a_slotToken, a_slotRest) := by
  have H : ∀ d i, i + d = 400 → ∀ m, m < i → (∀ j, j < i → (a_pairFrequency j).toInt ≤ (a_pairFrequency m).toInt) → (∀ j, j < m → (a_pairFrequency j).toInt < (a_pairFrequency m).toInt) → wX_mostFrequentPair_4 post f_words f_tokenCount f_textLength f_resultSize f_rowLength f_madeSize a_wordLetters a_wordLength a_wordCount a_leftOf a_rightOf a_priceOf a_spelling a_spellingLength a_text a_result a_row a_made a_pairFrequency a_waysFrom a_slotsAt a_slotKey a_slotToken a_slotRest (d + 1) (nI m) (nI i) := by
    intro d
    induction d with
    | zero =>
      intro i hi m hm h1 h2
      have e : i = 400 := by omega
      subst e
      exact br_t (nI_le (b := 400) (Nat.le_refl _) (by omega)) (h m hm h1 h2)
    | succ d ih =>
      intro i hi m hm h1 h2
      refine br_f (nI_ge (b := 400) (by omega) (by omega)) ⟨ts_v (by omega), ts_v (by omega), ?_⟩
      have e1 : (nI i).toNatClampNeg = i := nI_clamp (by omega)
      have e2 : (nI m).toNatClampNeg = m := nI_clamp (by omega)
      by_cases c : (a_pairFrequency i).toInt ≤ (a_pairFrequency m).toInt
      · refine br_t (by rw [e1, e2]; exact Int32.le_iff_toInt_le.mpr c) (nm_r (nI_1 i) (ih (i + 1) (by omega) m (by omega) (fun j hj => ?_) h2))
        by_cases z : j = i
        · rw [z]; exact c
        · exact h1 j (by omega)
      · refine br_f (by rw [e1, e2]; exact fun z => c (Int32.le_iff_toInt_le.mp z)) (nm_r (nI_1 i) (ih (i + 1) (by omega) i (by omega) (fun j hj => ?_) (fun j hj => ?_)))
        · by_cases z : j = i
          · rw [z]; exact Int.le_refl _
          · have := h1 j (by omega); omega
        · have := h1 j hj; omega
  exact ⟨_, H 399 1 (by omega) 0 (by omega) (fun j hj => by have e : j = 0 := by omega
                                                            rw [e]; exact Int.le_refl _) (fun j hj => absurd hj (by omega))⟩
end
def ts_ap (sp : Nat → Nat) (dst src m : Nat) : Nat → Nat := fun j => if dst ≤ j ∧ j < dst + m then sp (src + (j - dst)) else sp j
theorem ts_ap_0 (sp : Nat → Nat) (dst src : Nat) : ts_ap sp dst src 0 = sp := by
  funext j
  exact if_neg (by omega)
theorem ts_ap_s (sp : Nat → Nat) (dst src m : Nat) : ts_un (ts_ap sp dst src m) (dst + m) (sp (src + m)) = ts_ap sp dst src (m + 1) := by
  funext j
  unfold ts_un ts_ap
  by_cases h : j = dst + m
  · rw [if_pos h, if_pos (by omega), h, Nat.add_sub_cancel_left]
  · rw [if_neg h]
    by_cases h2 : dst ≤ j ∧ j < dst + m
    · rw [if_pos h2, if_pos (by omega)]
    · rw [if_neg h2, if_neg (by omega)]
theorem ts_ap_lo {sp : Nat → Nat} {dst src m j : Nat} (h : j < dst) : ts_ap sp dst src m j = sp j := if_neg (by omega)
theorem ts_ap_hi {sp : Nat → Nat} {dst src m j : Nat} (h : dst + m ≤ j) : ts_ap sp dst src m j = sp j := if_neg (by omega)
theorem ts_ap_in {sp : Nat → Nat} {dst src m i : Nat} (h : i < m) : ts_ap sp dst src m (dst + i) = sp (src + i) := by
  unfold ts_ap
  rw [if_pos (by omega), Nat.add_sub_cancel_left]
section
variable {f_words f_tokenCount f_textLength f_resultSize f_rowLength f_madeSize : Int32} {a_wordLetters a_wordLength a_wordCount a_leftOf a_rightOf a_priceOf a_spelling a_spellingLength a_text a_result a_row a_made a_pairFrequency a_waysFrom a_slotsAt a_slotKey a_slotToken a_slotRest : Nat → Int32}
theorem tx_append {post : SX → Prop} {t x b : Nat} {sp ln : Nat → Nat} (ht : t < 20) (hx : x < t) (hb : ln t = b) (hm : b + ln x ≤ 8)
    (h : post (f_words, f_tokenCount, f_textLength, f_resultSize, f_rowLength, f_madeSize, a_wordLetters, a_wordLength, a_wordCount, a_leftOf, a_rightOf, a_priceOf, ts_F (ts_ap sp (t * 8 + b) (x * 8) (ln x)), ts_F (ts_un ln t (b + ln x)), a_text, a_result, a_row, a_made, a_pairFrequency, a_waysFrom, a_slotsAt, a_slotKey, a_slotToken, a_slotRest)) :
    wpX_appendSpelling post (f_words, f_tokenCount, f_textLength, f_resultSize, f_rowLength, f_madeSize, a_wordLetters, a_wordLength, a_wordCount, a_leftOf, a_rightOf, a_priceOf, ts_F sp, ts_F ln, a_text, a_result, a_row, a_made, a_pairFrequency, a_waysFrom, a_slotsAt, a_slotKey, a_slotToken, a_slotRest) (nI t) (nI x) := by
  have ct : (nI t).toNatClampNeg = t := nI_clamp (by omega)
  have cx : (nI x).toNatClampNeg = x := nI_clamp (by omega)
  have H : ∀ d i, i + d = ln x → wX_appendSpelling_2 post (nI t) (nI x) f_words f_tokenCount f_textLength f_resultSize f_rowLength f_madeSize (d + 1) (nI i) a_wordLetters a_wordLength a_wordCount a_leftOf a_rightOf a_priceOf (ts_F (ts_ap sp (t * 8 + b) (x * 8) i)) (ts_F ln) a_text a_result a_row a_made a_pairFrequency a_waysFrom a_slotsAt a_slotKey a_slotToken a_slotRest := by
    intro d
    induction d with
    | zero =>
      intro i hi
      have e : i = ln x := by omega
      subst e
      refine ⟨ts_v (by omega), br_t ?_ ⟨ts_v ht, ts_v (by omega), ts_v ht, nm_r (e' := ts_F (ts_un ln t (b + ln x))) ?_ h⟩⟩
      · rw [cx]; exact nI_le (Nat.le_refl _) (by omega)
      · rw [ct, cx]
        show upd _ _ (nI (ln t) + nI (ln x)) = _
        rw [nI_add, hb]
        exact ts_F_up _ _ _
    | succ d ih =>
      intro i hi
      have e1 : nI x * 8 + nI i = nI (x * 8 + i) := ts_ma 8 x i
      have e2 : nI t * 8 + nI (b + i) = nI (t * 8 + (b + i)) := ts_ma 8 t (b + i)
      refine ⟨ts_v (by omega), br_f ?_ ⟨ts_v ht, nm_r (e' := nI (b + i)) ?_ ⟨?_, ?_, nm_r (e' := ts_F (ts_ap sp (t * 8 + b) (x * 8) (i + 1))) ?_ (nm_r (nI_1 i) (ih (i + 1) (by omega)))⟩⟩⟩
      · rw [cx]; exact nI_ge (by omega) (by omega)
      · rw [ct]
        show nI (ln t) + nI i = _
        rw [nI_add, hb]
      · rw [e1]; exact ts_v (by omega)
      · rw [e2]; exact ts_v (by omega)
      · rw [e1, e2, nI_clamp (by omega), nI_clamp (by omega)]
        show upd _ _ (nI (ts_ap sp (t * 8 + b) (x * 8) i (x * 8 + i))) = _
        rw [ts_ap_lo (by omega), ts_F_up, ← Nat.add_assoc, ts_ap_s]
  have := H (ln x) 0 (by omega)
  rw [ts_ap_0] at this
  exact ⟨_, this⟩
end
