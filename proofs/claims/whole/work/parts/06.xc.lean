theorem ts_nb {t : Nat} (h : t < 2 ^ 31) : ¬ nI t = (-1) := by
  intro z
  have a := ts_nn h
  rw [z] at a
  exact a ts_neg1
section
variable {f_words f_tokenCount f_textLength f_resultSize f_rowLength f_madeSize : Int32} {a_wordLetters a_wordLength a_wordCount a_leftOf a_rightOf a_priceOf a_spelling a_spellingLength a_text a_result a_row a_made a_pairFrequency a_waysFrom a_slotsAt a_slotKey a_slotToken a_slotRest : Nat → Int32}
theorem tx_fits {post : Int32 → Prop} {T n t p : Nat} {bx : Int32} {ln SP r : Nat → Nat} (ht : t < 20) (hn : n ≤ 12) (hp : p ≤ n) (hln : ∀ t, ln t ≤ 8) (hSP : ∀ j, SP j < 6) (hr : ∀ i, r i < 6) (hrow : ∀ i, i < n → a_row i = nI (r i)) (hb : ¬ nI t = bx)
    (h1 : ts_fit bx ln (fun t i => SP (t * 8 + i)) r n t p = true → post 1) (h0 : ¬ ts_fit bx ln (fun t i => SP (t * 8 + i)) r n t p = true → post 0) :
    wpX_fits post (f_words, nI T, f_textLength, f_resultSize, nI n, f_madeSize, a_wordLetters, a_wordLength, a_wordCount, a_leftOf, a_rightOf, a_priceOf, ts_F SP, ts_F ln, a_text, a_result, a_row, a_made, a_pairFrequency, a_waysFrom, a_slotsAt, a_slotKey, a_slotToken, a_slotRest) (nI t) (nI p) := by
  have ct : (nI t).toNatClampNeg = t := nI_clamp (by omega)
  have l8 := hln t
  have el : ts_F ln (nI t).toNatClampNeg = nI (ln t) := by rw [ct]; rfl
  have es : nI p + ts_F ln (nI t).toNatClampNeg = nI (p + ln t) := by rw [el, nI_add]
  refine ⟨ts_v ht, ?_⟩
  by_cases c : p + ln t ≤ n
  · refine br_t (by rw [es]; exact nI_le c (by omega)) ?_
    have H : ∀ d i, i + d = ln t → (∀ j, j < i → r (p + j) = SP (t * 8 + j)) → wX_fits_19 post (nI t) (nI p) f_words (nI T) f_textLength f_resultSize (nI n) f_madeSize a_wordLetters a_wordLength a_wordCount a_leftOf a_rightOf a_priceOf (ts_F SP) (ts_F ln) a_text a_result a_row a_made a_pairFrequency a_waysFrom a_slotsAt a_slotKey a_slotToken a_slotRest (d + 1) (nI i) := by
      intro d
      induction d with
      | zero =>
        intro i hi hj
        refine ⟨ts_v ht, br_t (by rw [el]; exact nI_le (by omega) (by omega)) (h1 (ts_fit_t.mpr ⟨hb, c, fun j hj' => hj j (by omega)⟩))⟩
      | succ d ih =>
        intro i hi hj
        have e1 : nI p + nI i = nI (p + i) := nI_add p i
        have e2 : nI t * 8 + nI i = nI (t * 8 + i) := ts_ma 8 t i
        have e3 : a_row (nI p + nI i).toNatClampNeg = nI (r (p + i)) := by rw [e1, nI_clamp (by omega)]; exact hrow _ (by omega)
        have e4 : ts_F SP (nI t * 8 + nI i).toNatClampNeg = nI (SP (t * 8 + i)) := by rw [e2, nI_clamp (by omega)]; rfl
        have b1 := hr (p + i)
        have b2 := hSP (t * 8 + i)
        refine ⟨ts_v ht, br_f (by rw [el]; exact nI_ge (by omega) (by omega)) ⟨by rw [e1]; exact ts_v (by omega), by rw [e2]; exact ts_v (by omega), ?_⟩⟩
        by_cases q : r (p + i) = SP (t * 8 + i)
        · refine br_t (by rw [e3, e4, q]) (nm_r (nI_1 i) (ih (i + 1) (by omega) (fun j hj' => ?_)))
          by_cases z : j = i
          · rw [z]; exact q
          · exact hj j (by omega)
        · refine br_f (fun z => ?_) (h0 (fun z => ?_))
          · rw [e3, e4] at z
            exact q ((nI_eq (by omega) (by omega)).mp z)
          · exact q ((ts_fit_t.mp z).2.2 i (by omega))
    exact ⟨_, H (ln t) 0 (by omega) (fun j hj => absurd hj (by omega))⟩
  · exact br_f (by rw [es]; exact nI_ge (by omega) (by omega)) (h0 (fun z => c (ts_fit_t.mp z).2.1))
theorem tx_longestAt {post : Int32 → Prop} {T n p : Nat} {ln SP r : Nat → Nat} (hE : ts_En T ln (fun t i => SP (t * 8 + i))) (hn : n ≤ 12) (hp : p < n) (hSP : ∀ j, SP j < 6) (hr : ∀ i, r i < 6) (hrow : ∀ i, i < n → a_row i = nI (r i))
    (h : post (nI (ts_lb (ts_fit (-1) ln (fun t i => SP (t * 8 + i)) r n) ln r p T))) :
    wpX_longestAt post (f_words, nI T, f_textLength, f_resultSize, nI n, f_madeSize, a_wordLetters, a_wordLength, a_wordCount, a_leftOf, a_rightOf, a_priceOf, ts_F SP, ts_F ln, a_text, a_result, a_row, a_made, a_pairFrequency, a_waysFrom, a_slotsAt, a_slotKey, a_slotToken, a_slotRest) (nI p) := by
  obtain ⟨h6, hT, hl1, hl8, hlet⟩ := id hE
  have hlet' := ts_En_let (bx := -1) (n := n) hE (fun t ht => ts_nb (by omega)) hr p hp
  have H : ∀ d t, 6 ≤ t → t + d = T → wX_longestAt_10 post (nI p) f_words (nI T) f_textLength f_resultSize (nI n) f_madeSize a_wordLetters a_wordLength a_wordCount a_leftOf a_rightOf a_priceOf (ts_F SP) (ts_F ln) a_text a_result a_row a_made a_pairFrequency a_waysFrom a_slotsAt a_slotKey a_slotToken a_slotRest (d + 1) (nI (ts_lb (ts_fit (-1) ln (fun t i => SP (t * 8 + i)) r n) ln r p t)) (nI t) := by
    intro d
    induction d with
    | zero =>
      intro t h6t ht
      have e : t = T := by omega
      subst e
      exact br_t (nI_le (Nat.le_refl t) (by omega)) h
    | succ d ih =>
      intro t h6t ht
      have ⟨b1, b2⟩ := ts_lb_ok (ln := ln) hlet'.1 hlet'.2 t (by omega)
      have l1 := hl8 t
      have l2 := hl8 (ts_lb (ts_fit (-1) ln (fun t i => SP (t * 8 + i)) r n) ln r p t)
      have e1 : ts_F ln (nI t).toNatClampNeg = nI (ln t) := by rw [nI_clamp (by omega)]; rfl
      have e2 : ts_F ln (nI (ts_lb (ts_fit (-1) ln (fun t i => SP (t * 8 + i)) r n) ln r p t)).toNatClampNeg = nI (ln (ts_lb (ts_fit (-1) ln (fun t i => SP (t * 8 + i)) r n) ln r p t)) := by rw [nI_clamp (by omega)]; rfl
      have ih' := ih (t + 1) (by omega) (by omega)
      refine br_f (nI_ge (by omega) (by omega)) ⟨ts_v (by omega), ts_v (by omega), ?_⟩
      by_cases c : ln t ≤ ln (ts_lb (ts_fit (-1) ln (fun t i => SP (t * 8 + i)) r n) ln r p t)
      · refine br_t (by rw [e1, e2]; exact nI_le c (by omega)) (nm_r (nI_1 t) ?_)
        unfold ts_lb at ih'
        rw [if_neg (fun z => by omega)] at ih'
        exact ih'
      · refine br_f (by rw [e1, e2]; exact nI_ge (by omega) (by omega)) ?_
        refine tx_fits (by omega) hn (by omega) hl8 hSP hr hrow (ts_nb (by omega)) (fun z => ?_) (fun z => ?_)
        · refine br_f (by decide) (nm_r (nI_1 t) ?_)
          unfold ts_lb at ih'
          rw [if_pos ⟨z, by omega⟩] at ih'
          exact ih'
        · refine br_t rfl (nm_r (nI_1 t) ?_)
          unfold ts_lb at ih'
          rw [if_neg (fun q => z q.1)] at ih'
          exact ih'
  refine ⟨ts_v (by omega), nm_r (e' := nI (r p)) ?_ ?_⟩
  · rw [nI_clamp (by omega)]; exact hrow p hp
  · have := H (T - 6) 6 (Nat.le_refl 6) (by omega)
    rw [ts_lb_6 hE (hr p) 6 (Nat.le_refl 6)] at this
    exact ⟨_, this⟩
theorem tx_splitLongest {post : SX → Prop} {T n : Nat} {ln SP r : Nat → Nat} {L : Nat → List Nat} (hE : ts_En T ln (fun t i => SP (t * 8 + i))) (hn : n ≤ 12) (hSP : ∀ j, SP j < 6) (hr : ∀ i, r i < 6) (hrow : ∀ i, i < n → a_row i = nI (r i)) (hL : ts_TL (ts_fit (-1) ln (fun t i => SP (t * 8 + i)) r n) ln r T n L)
    (h : ∀ a, ts_Hd a (L 0) → post (f_words, nI T, f_textLength, f_resultSize, nI n, nI (L 0).length, a_wordLetters, a_wordLength, a_wordCount, a_leftOf, a_rightOf, a_priceOf, ts_F SP, ts_F ln, a_text, a_result, a_row, a, a_pairFrequency, a_waysFrom, a_slotsAt, a_slotKey, a_slotToken, a_slotRest)) :
    wpX_splitLongestFirst post (f_words, nI T, f_textLength, f_resultSize, nI n, f_madeSize, a_wordLetters, a_wordLength, a_wordCount, a_leftOf, a_rightOf, a_priceOf, ts_F SP, ts_F ln, a_text, a_result, a_row, a_made, a_pairFrequency, a_waysFrom, a_slotsAt, a_slotKey, a_slotToken, a_slotRest) := by
  obtain ⟨h6, hT, hl1, hl8, hlet⟩ := id hE
  have hlet' := ts_En_let (bx := -1) (n := n) hE (fun t ht => ts_nb (by omega)) hr
  have skip : ∀ e q fuel ms a, q + e ≤ n → wX_splitLongestFirst_9 post f_words (nI T) f_textLength f_resultSize (nI n) fuel (nI (q + e)) (nI (q + e)) ms a_wordLetters a_wordLength a_wordCount a_leftOf a_rightOf a_priceOf (ts_F SP) (ts_F ln) a_text a_result a_row a a_pairFrequency a_waysFrom a_slotsAt a_slotKey a_slotToken a_slotRest → wX_splitLongestFirst_9 post f_words (nI T) f_textLength f_resultSize (nI n) (fuel + e) (nI (q + e)) (nI q) ms a_wordLetters a_wordLength a_wordCount a_leftOf a_rightOf a_priceOf (ts_F SP) (ts_F ln) a_text a_result a_row a a_pairFrequency a_waysFrom a_slotsAt a_slotKey a_slotToken a_slotRest := by
    intro e
    induction e with
    | zero => exact fun q fuel ms a _ hh => hh
    | succ e ih =>
      intro q fuel ms a hq hh
      refine br_f (nI_ge (by omega) (by omega)) (br_f (fun z => ?_) (nm_r (nI_1 q) ?_))
      · have := (nI_eq (by omega) (by omega)).mp z
        omega
      · have := ih (q + 1) fuel ms a (by omega)
        rw [show q + 1 + e = q + (e + 1) by omega] at this
        exact this hh
  have H : ∀ d p, p + d = n → ∀ a (out : List Nat), out.length ≤ p → ts_Hd a out → out ++ L p = L 0 → wX_splitLongestFirst_9 post f_words (nI T) f_textLength f_resultSize (nI n) (d + 1) (nI p) (nI p) (nI out.length) a_wordLetters a_wordLength a_wordCount a_leftOf a_rightOf a_priceOf (ts_F SP) (ts_F ln) a_text a_result a_row a a_pairFrequency a_waysFrom a_slotsAt a_slotKey a_slotToken a_slotRest := by
    intro d
    induction d using Nat.strongRecOn with
    | ind d ih =>
      intro p hp a out ho ha hf
      by_cases z : p = n
      · rw [z, hL.1, List.append_nil] at hf
        refine br_t (nI_le (by omega) (by omega)) ?_
        rw [hf]
        exact h a (by rw [← hf]; exact ha)
      · have hp' : p < n := by omega
        refine br_f (nI_ge (by omega) (by omega)) (br_t rfl ?_)
        have ⟨b1, b2⟩ := ts_lb_ok (ln := ln) (hlet' p hp').1 (hlet' p hp').2 T (Nat.le_refl T)
        have ⟨b3, b4⟩ := ts_En_FB hE _ p b1 b2
        refine tx_longestAt hE hn hp' hSP hr hrow ?_
        generalize hb : ts_lb (ts_fit (-1) ln (fun t i => SP (t * 8 + i)) r n) ln r p T = b at *
        have hLp := hL.2 p hp'
        rw [hb] at hLp
        have l8 := hl8 b
        refine ⟨ts_v (by omega), nm_r (e' := upd a out.length (nI b)) ?_ (nm_r (nI_1 out.length) ⟨ts_v (by omega), nm_r (e' := nI (p + ln b)) ?_ (nm_r (nI_1 p) ?_)⟩)⟩
        · rw [nI_clamp (by omega)]
        · rw [nI_clamp (by omega)]
          show nI p + nI (ln b) = _
          rw [nI_add]
        · have k1 := ih (d - ln b) (by omega) (p + ln b) (by omega) (upd a out.length (nI b)) (out ++ [b]) (by rw [List.length_append]; simp only [List.length_cons, List.length_nil]; omega) (ts_Hd_snoc ha) (by rw [List.append_assoc, ← hf, hLp]; rfl)
          rw [List.length_append] at k1
          have k2 := skip (ln b - 1) (p + 1) (d - ln b + 1) (nI (out.length + 1)) (upd a out.length (nI b)) (by omega)
          rw [show p + 1 + (ln b - 1) = p + ln b by omega, show d - ln b + 1 + (ln b - 1) = d by omega] at k2
          exact k2 k1
  exact ⟨_, H n 0 (by omega) a_made [] (Nat.le_refl 0) (ts_Hd_nil _) rfl⟩
theorem tx_ways {post : Int32 → SX → Prop} {T n : Nat} {ln SP r : Nat → Nat} {C : Nat → Nat} (hE : ts_En T ln (fun t i => SP (t * 8 + i))) (hn : n ≤ 12) (hSP : ∀ j, SP j < 6) (hr : ∀ i, r i < 6) (hC : ts_TC (ts_fit (-1) ln (fun t i => SP (t * 8 + i)) r n) ln T n C) (htx : ∀ i, i < n → a_text i = nI (r i))
    (h : ∀ rw' wf, post (nI (C 0)) (f_words, nI T, nI n, f_resultSize, nI n, f_madeSize, a_wordLetters, a_wordLength, a_wordCount, a_leftOf, a_rightOf, a_priceOf, ts_F SP, ts_F ln, a_text, a_result, rw', a_made, a_pairFrequency, wf, a_slotsAt, a_slotKey, a_slotToken, a_slotRest)) :
    wpX_ways post (f_words, nI T, nI n, f_resultSize, f_rowLength, f_madeSize, a_wordLetters, a_wordLength, a_wordCount, a_leftOf, a_rightOf, a_priceOf, ts_F SP, ts_F ln, a_text, a_result, a_row, a_made, a_pairFrequency, a_waysFrom, a_slotsAt, a_slotKey, a_slotToken, a_slotRest) := by
  obtain ⟨h6, hT, hl1, hl8, hlet⟩ := id hE
  refine tx_takeText hn ?_
  have hrow : ∀ i, i < n → ts_cp a_row a_text n i = nI (r i) := fun i hi => by rw [ts_cp_lt hi]; exact htx i hi
  generalize ts_cp a_row a_text n = rw' at hrow
  have cn : (nI n).toNatClampNeg = n := nI_clamp (by omega)
  have H2 : ∀ (J : Int32 → (Nat → Int32) → (Nat → Int32) → (Nat → Int32) → (Nat → Int32) → (Nat → Int32) → (Nat → Int32) → (Nat → Int32) → (Nat → Int32) → (Nat → Int32) → (Nat → Int32) → (Nat → Int32) → (Nat → Int32) → (Nat → Int32) → (Nat → Int32) → (Nat → Int32) → (Nat → Int32) → (Nat → Int32) → (Nat → Int32) → Prop) (p : Nat), p < n →
      (∀ wf, (∀ q, p ≤ q → q ≤ n → wf q = nI (C q)) → J (nI p + (-1)) a_wordLetters a_wordLength a_wordCount a_leftOf a_rightOf a_priceOf (ts_F SP) (ts_F ln) a_text a_result rw' a_made a_pairFrequency wf a_slotsAt a_slotKey a_slotToken a_slotRest) →
      ∀ d t, t + d = T → ∀ wf c, wf p = nI c → c + ts_cf (ts_fit (-1) ln (fun t i => SP (t * 8 + i)) r n) ln C p t d = C p → (∀ q, p < q → q ≤ n → wf q = nI (C q)) →
      wX_ways_34 post J (nI p) f_words (nI T) (nI n) f_resultSize (nI n) f_madeSize (d + 1) (nI t) a_wordLetters a_wordLength a_wordCount a_leftOf a_rightOf a_priceOf (ts_F SP) (ts_F ln) a_text a_result rw' a_made a_pairFrequency wf a_slotsAt a_slotKey a_slotToken a_slotRest := by
    intro J p hp hJ d
    induction d with
    | zero =>
      intro t ht wf c h1 h2 h3
      refine br_t (nI_le (by omega) (by omega)) (nm_e (hJ wf (fun q hq hqn => ?_)))
      by_cases z : q = p
      · rw [z, h1, ← h2]; rfl
      · exact h3 q (by omega) hqn
    | succ d ih =>
      intro t ht wf c h1 h2 h3
      refine br_f (nI_ge (by omega) (by omega)) ?_
      have h2' : c + ((if ts_fit (-1) ln (fun t i => SP (t * 8 + i)) r n t p = true then C (p + ln t) else 0) + ts_cf (ts_fit (-1) ln (fun t i => SP (t * 8 + i)) r n) ln C p (t + 1) d) = C p := h2
      refine tx_fits (by omega) hn (by omega) hl8 hSP hr hrow (ts_nb (by omega)) (fun z => ?_) (fun z => ?_)
      · have ⟨b1, b2⟩ := ts_En_FB hE t p (by omega) z
        have l8 := hl8 t
        have e1 : nI p + ts_F ln (nI t).toNatClampNeg = nI (p + ln t) := by
          rw [nI_clamp (by omega)]
          exact nI_add p (ln t)
        rw [if_pos z] at h2'
        refine br_f (by decide) ⟨ts_v (by omega), ts_v (by omega), by rw [e1]; exact ts_v (by omega), ts_v (by omega), nm_r (e' := upd wf p (nI (c + C (p + ln t)))) ?_ (nm_r (nI_1 t) (ih (t + 1) (by omega) _ (c + C (p + ln t)) pk_us (by omega) (fun q hq hqn => ?_)))⟩
        · rw [e1, nI_clamp (by omega), nI_clamp (by omega), h1, h3 _ (by omega) b2, nI_add]
        · rw [pk_un (by omega)]
          exact h3 q hq hqn
      · rw [if_neg z] at h2'
        exact br_t rfl (nm_r (nI_1 t) (ih (t + 1) (by omega) wf c h1 (by omega) h3))
  have H : ∀ p, p ≤ n → ∀ wf, (∀ q, p ≤ q → q ≤ n → wf q = nI (C q)) → wX_ways_21 post f_words (nI T) (nI n) f_resultSize (nI n) f_madeSize (p + 1) (nI p + (-1)) a_wordLetters a_wordLength a_wordCount a_leftOf a_rightOf a_priceOf (ts_F SP) (ts_F ln) a_text a_result rw' a_made a_pairFrequency wf a_slotsAt a_slotKey a_slotToken a_slotRest := by
    intro p
    induction p with
    | zero =>
      intro _ wf hwf
      refine br_t (by decide) ?_
      rw [hwf 0 (Nat.le_refl 0) (by omega)]
      exact h _ _
    | succ p ih =>
      intro hp wf hwf
      rw [pk_m1]
      refine br_f (ts_nn (by omega)) ⟨ts_v (by omega), nm_r (e' := upd wf p (nI 0)) (by rw [nI_clamp (by omega)]; rfl) ⟨_, H2 _ p (by omega) (fun wf' hw' => ih (by omega) wf' hw') T 0 (by omega) _ 0 pk_us ?_ (fun q hq hqn => ?_)⟩⟩
      · rw [Nat.zero_add]; exact (hC.2 p (by omega)).symm
      · rw [pk_un (by omega)]; exact hwf q (by omega) hqn
  refine ⟨ts_v (by omega), nm_r (e' := upd a_waysFrom n (nI 1)) (by rw [cn]; rfl) (nm_r (e' := nI n + (-1)) ?_ ⟨_, H n (Nat.le_refl n) _ (fun q hq hqn => ?_)⟩)⟩
  · exact Int32.sub_eq_add_neg _ _
  · rw [show q = n by omega, pk_us, hC.1]
end
