/-- what holds between two calls -/
def ts_I (w T tl rs : Nat) (WL WS LF RG PR SP LN LT TX RE : Nat → Nat) : Prop :=
  w ≤ 12 ∧ tl ≤ 12 ∧ rs ≤ 12 ∧ ts_En T LN (fun t i => SP (t * 8 + i)) ∧ (∀ t, t < T → ∀ i, i < LN t → LT (12 * t + i) = SP (t * 8 + i)) ∧ (∀ i, WL i < 6) ∧ (∀ i, WS i ≤ 8) ∧ (∀ t, LF t < 20) ∧ (∀ t, RG t < 20) ∧ (∀ t, PR t ≤ 99) ∧ (∀ j, SP j < 6) ∧ (∀ j, LT j < 6) ∧ (∀ i, TX i < 6) ∧ (∀ i, RE i < 20) ∧ (∀ t, 6 ≤ t → t < T → LF t < t ∧ RG t < t ∧ LN t = LN (LF t) + LN (RG t))
def i_Rel (k : Nat) (u : SX) (v : SY) : Prop :=
  ∃ (w T tl rs : Nat) (WL WS LF RG PR SP LN LT TX RE : Nat → Nat) (WC : Nat → Int32) (rlX msX : Int32) (rowX mdX pf wf sa sk st sr : Nat → Int32) (rlY mkY kpY : Int32) (rowY pt sm nb sl tr bg : Nat → Int32), u = (nI w, nI T, nI tl, nI rs, rlX, msX, ts_F WL, ts_F WS, WC, ts_F LF, ts_F RG, ts_F PR, ts_F SP, ts_F LN, ts_F TX, ts_F RE, rowX, mdX, pf, wf, sa, sk, st, sr) ∧ v = (nI w, nI T, nI tl, nI rs, rlY, -1, mkY, kpY, WC, ts_F WS, ts_F WL, ts_F LF, ts_F RG, ts_F PR, ts_F LN, ts_F LT, ts_F TX, ts_F RE, rowY, pt, sm, nb, sl, tr, bg) ∧ ts_I w T tl rs WL WS LF RG PR SP LN LT TX RE
theorem ts_mk {k : Nat} {w T tl rs : Nat} {WL WS LF RG PR SP LN LT TX RE : Nat → Nat} {WC : Nat → Int32} {rlX msX : Int32} {rowX mdX pf wf sa sk st sr : Nat → Int32} {rlY mkY kpY : Int32} {rowY pt sm nb sl tr bg : Nat → Int32} (hI : ts_I w T tl rs WL WS LF RG PR SP LN LT TX RE) : i_Rel k (nI w, nI T, nI tl, nI rs, rlX, msX, ts_F WL, ts_F WS, WC, ts_F LF, ts_F RG, ts_F PR, ts_F SP, ts_F LN, ts_F TX, ts_F RE, rowX, mdX, pf, wf, sa, sk, st, sr) (nI w, nI T, nI tl, nI rs, rlY, -1, mkY, kpY, WC, ts_F WS, ts_F WL, ts_F LF, ts_F RG, ts_F PR, ts_F LN, ts_F LT, ts_F TX, ts_F RE, rowY, pt, sm, nb, sl, tr, bg) := ⟨w, T, tl, rs, WL, WS, LF, RG, PR, SP, LN, LT, TX, RE, WC, rlX, msX, rowX, mdX, pf, wf, sa, sk, st, sr, rlY, mkY, kpY, rowY, pt, sm, nb, sl, tr, bg, rfl, rfl, hI⟩
theorem i_up {k : Nat} {u : SX} {v : SY} (h : i_Rel k u v) : i_Rel (k + 3) u v := h
def ts_p0 (c i : Nat) : Nat → Nat := fun j => if j < i then c else 0
theorem ts_p0_0 (c : Nat) : ts_F (ts_p0 c 0) = fun _ => 0 := by
  funext j
  show nI (if j < 0 then c else 0) = 0
  rw [if_neg (Nat.not_lt_zero j)]
  rfl
theorem ts_p0_s (c i : Nat) : ts_un (ts_p0 c i) i c = ts_p0 c (i + 1) := by
  funext j
  unfold ts_un ts_p0
  by_cases h : j = i
  · rw [if_pos h, if_pos (by omega)]
  · rw [if_neg h]
    by_cases h2 : j < i
    · rw [if_pos h2, if_pos (by omega)]
    · rw [if_neg h2, if_neg (by omega)]
def ts_s8 (i : Nat) : Nat → Nat := fun j => if j % 8 = 0 ∧ j / 8 < i then j / 8 else 0
def ts_s12 (i : Nat) : Nat → Nat := fun j => if j % 12 = 0 ∧ j / 12 < i then j / 12 else 0
theorem ts_s8_0 : ts_F (ts_s8 0) = fun _ => 0 := by
  funext j
  show nI (if j % 8 = 0 ∧ j / 8 < 0 then j / 8 else 0) = 0
  rw [if_neg (by omega)]
  rfl
theorem ts_s12_0 : ts_F (ts_s12 0) = fun _ => 0 := by
  funext j
  show nI (if j % 12 = 0 ∧ j / 12 < 0 then j / 12 else 0) = 0
  rw [if_neg (by omega)]
  rfl
theorem ts_s8_s (i : Nat) : ts_un (ts_s8 i) (i * 8) i = ts_s8 (i + 1) := by
  funext j
  unfold ts_un ts_s8
  by_cases h : j = i * 8
  · rw [if_pos h, if_pos (by omega)]
    omega
  · rw [if_neg h]
    by_cases h2 : j % 8 = 0 ∧ j / 8 < i
    · rw [if_pos h2, if_pos (by omega)]
    · rw [if_neg h2, if_neg (by omega)]
theorem ts_s12_s (i : Nat) : ts_un (ts_s12 i) (12 * i) i = ts_s12 (i + 1) := by
  funext j
  unfold ts_un ts_s12
  by_cases h : j = 12 * i
  · rw [if_pos h, if_pos (by omega)]
    omega
  · rw [if_neg h]
    by_cases h2 : j % 12 = 0 ∧ j / 12 < i
    · rw [if_pos h2, if_pos (by omega)]
    · rw [if_neg h2, if_neg (by omega)]
section
variable {f_words f_tokenCount f_textLength f_resultSize f_rowLength f_madeSize : Int32} {a_wordLetters a_wordLength a_wordCount a_leftOf a_rightOf a_priceOf a_spelling a_spellingLength a_text a_result a_row a_made a_pairFrequency a_waysFrom a_slotsAt a_slotKey a_slotToken a_slotRest : Nat → Int32}
theorem tx_init {post : SX → Prop} (h : post (f_words, f_tokenCount, f_textLength, f_resultSize, f_rowLength, f_madeSize, a_wordLetters, a_wordLength, a_wordCount, a_leftOf, a_rightOf, ts_F (ts_p0 20 6), ts_F (ts_s8 6), ts_F (ts_p0 1 6), a_text, a_result, a_row, a_made, a_pairFrequency, a_waysFrom, a_slotsAt, a_slotKey, a_slotToken, a_slotRest)) : ∀ d i, i + d = 6 → wX_init_183 post f_words f_tokenCount f_textLength f_resultSize f_rowLength f_madeSize (d + 1) (nI i) a_wordLetters a_wordLength a_wordCount a_leftOf a_rightOf (ts_F (ts_p0 20 i)) (ts_F (ts_s8 i)) (ts_F (ts_p0 1 i)) a_text a_result a_row a_made a_pairFrequency a_waysFrom a_slotsAt a_slotKey a_slotToken a_slotRest := by
  intro d
  induction d with
  | zero =>
    intro i hi
    have e : i = 6 := by omega
    subst e
    exact br_t (by decide) h
  | succ d ih =>
    intro i hi
    have e1 : (nI i).toNatClampNeg = i := nI_clamp (by omega)
    have e2 : nI i * 8 = nI (i * 8) := pk_mul i 8
    refine br_f (nI_ge (b := 6) (by omega) (by decide)) ⟨ts_v (by omega), nm_r (e' := ts_F (ts_p0 20 (i + 1))) ?_ ⟨by rw [e2]; exact ts_v (by omega), nm_r (e' := ts_F (ts_s8 (i + 1))) ?_ ⟨ts_v (by omega), nm_r (e' := ts_F (ts_p0 1 (i + 1))) ?_ (nm_r (nI_1 i) (ih (i + 1) (by omega)))⟩⟩⟩
    · rw [e1, ← ts_p0_s]; exact ts_F_up _ _ _
    · rw [e2, nI_clamp (by omega), ← ts_s8_s]; exact ts_F_up _ _ _
    · rw [e1, ← ts_p0_s]; exact ts_F_up _ _ _
end
section
variable {f_words f_tokens f_textSize f_resultSize f_rowSize f_barred f_made f_kept : Int32} {a_counts a_sizes a_spelled a_lefts a_rights a_prices a_lengths a_letters a_text a_result a_row a_parts a_sums a_numbers a_splits a_tried a_begins : Nat → Int32}
theorem ty_init {post : SY → Prop} (h : post (f_words, f_tokens, f_textSize, f_resultSize, f_rowSize, f_barred, f_made, f_kept, a_counts, a_sizes, a_spelled, a_lefts, a_rights, ts_F (ts_p0 20 6), ts_F (ts_p0 1 6), ts_F (ts_s12 6), a_text, a_result, a_row, a_parts, a_sums, a_numbers, a_splits, a_tried, a_begins)) : ∀ d i, i + d = 6 → wY_init_154 post f_words f_tokens f_textSize f_resultSize f_rowSize f_barred f_made f_kept (d + 1) (nI i) a_counts a_sizes a_spelled a_lefts a_rights (ts_F (ts_p0 20 i)) (ts_F (ts_p0 1 i)) (ts_F (ts_s12 i)) a_text a_result a_row a_parts a_sums a_numbers a_splits a_tried a_begins := by
  intro d
  induction d with
  | zero =>
    intro i hi
    have e : i = 6 := by omega
    subst e
    exact br_t (by decide) h
  | succ d ih =>
    intro i hi
    have e1 : (nI i).toNatClampNeg = i := nI_clamp (by omega)
    have e2 : 12 * nI i = nI (12 * i) := pk_mul 12 i
    refine br_f (nI_ge (b := 6) (by omega) (by decide)) ⟨ts_v (by omega), nm_r (e' := ts_F (ts_p0 20 (i + 1))) ?_ ⟨ts_v (by omega), nm_r (e' := ts_F (ts_p0 1 (i + 1))) ?_ ⟨by rw [e2]; exact ts_v (by omega), nm_r (e' := ts_F (ts_s12 (i + 1))) ?_ (nm_r (nI_1 i) (ih (i + 1) (by omega)))⟩⟩⟩
    · rw [e1, ← ts_p0_s]; exact ts_F_up _ _ _
    · rw [e1, ← ts_p0_s]; exact ts_F_up _ _ _
    · rw [e2, nI_clamp (by omega), ← ts_s12_s]; exact ts_F_up _ _ _
end
theorem ts_I0 : ts_I 0 6 0 0 (fun _ => 0) (fun _ => 0) (fun _ => 0) (fun _ => 0) (ts_p0 20 6) (ts_s8 6) (ts_p0 1 6) (ts_s12 6) (fun _ => 0) (fun _ => 0) := by
  have hp : ∀ t, t < 6 → ts_p0 1 6 t = 1 := fun t h => if_pos h
  have h8 : ∀ t, t < 6 → ts_s8 6 (t * 8 + 0) = t := by
    intro t h
    unfold ts_s8
    rw [if_pos (by omega)]
    omega
  have h12 : ∀ t, t < 6 → ts_s12 6 (12 * t + 0) = t := by
    intro t h
    unfold ts_s12
    rw [if_pos (by omega)]
    omega
  have z6 : ∀ _ : Nat, 0 < 6 := fun _ => by decide
  have z20 : ∀ _ : Nat, 0 < 20 := fun _ => by decide
  refine ⟨by decide, by decide, by decide, ⟨by decide, by decide, fun t h => by rw [hp t h]; exact Nat.le_refl 1, fun t => ?_, fun t h => ⟨hp t h, h8 t h⟩⟩, fun t h i hi => ?_, z6, fun _ => Nat.zero_le 8, z20, z20, fun t => ?_, fun j => ?_, fun j => ?_, z6, z20, fun t h1 h2 => absurd h2 (by omega)⟩
  · unfold ts_p0
    split <;> omega
  · rw [hp t h] at hi
    have : i = 0 := by omega
    subst this
    show ts_s12 6 (12 * t + 0) = ts_s8 6 (t * 8 + 0)
    rw [h8 t h, h12 t h]
  · unfold ts_p0
    split <;> omega
  · unfold ts_s8
    split <;> omega
  · unfold ts_s12
    split <;> omega
theorem i_vc0 : wpX_init (fun u => wpY_init (fun v => i_Rel 0 u v)) := by
  have H := fun post h => tx_init (post := post) (f_words := 0) (f_tokenCount := 6) (f_textLength := 0) (f_resultSize := 0) (f_rowLength := 0) (f_madeSize := 0) (a_wordLetters := fun _ => 0) (a_wordLength := fun _ => 0) (a_wordCount := fun _ => 0) (a_leftOf := fun _ => 0) (a_rightOf := fun _ => 0) (a_text := fun _ => 0) (a_result := fun _ => 0) (a_row := fun _ => 0) (a_made := fun _ => 0) (a_pairFrequency := fun _ => 0) (a_waysFrom := fun _ => 0) (a_slotsAt := fun _ => 0) (a_slotKey := fun _ => 0) (a_slotToken := fun _ => 0) (a_slotRest := fun _ => 0) h 6 0 rfl
  have G := fun post h => ty_init (post := post) (f_words := 0) (f_tokens := 6) (f_textSize := 0) (f_resultSize := 0) (f_rowSize := 0) (f_barred := -1) (f_made := 0) (f_kept := 0) (a_counts := fun _ => 0) (a_sizes := fun _ => 0) (a_spelled := fun _ => 0) (a_lefts := fun _ => 0) (a_rights := fun _ => 0) (a_text := fun _ => 0) (a_result := fun _ => 0) (a_row := fun _ => 0) (a_parts := fun _ => 0) (a_sums := fun _ => 0) (a_numbers := fun _ => 0) (a_splits := fun _ => 0) (a_tried := fun _ => 0) (a_begins := fun _ => 0) h 6 0 rfl
  simp only [ts_p0_0, ts_s8_0, ts_s12_0] at H G
  exact ⟨_, H _ ⟨_, G _ (ts_mk ts_I0)⟩⟩
theorem ts_5 {x : Int32} (h : nI 6 ≤ x) : ¬ x ≤ 5 := by
  intro z
  have a := Int32.le_iff_toInt_le.mp h
  have b := Int32.le_iff_toInt_le.mp z
  rw [show (nI 6).toInt = 6 by decide] at a
  rw [show (5 : Int32).toInt = 5 by decide] at b
  omega
theorem ts_lt {x : Int32} {T : Nat} (h : nI T ≤ x) : ¬ x < nI T := by
  intro z
  have a := Int32.le_iff_toInt_le.mp h
  have b := Int32.lt_iff_toInt_lt.mp z
  omega
theorem ts_10 : ¬ (1 : Int32) = 0 := by decide
section
variable {f_words f_tokenCount f_textLength f_resultSize f_rowLength f_madeSize : Int32} {a_wordLetters a_wordLength a_wordCount a_leftOf a_rightOf a_priceOf a_spelling a_spellingLength a_text a_result a_row a_made a_pairFrequency a_waysFrom a_slotsAt a_slotKey a_slotToken a_slotRest : Nat → Int32}
theorem tx_tok0 {post : Int32 → Prop} {x : Int32} {T : Nat} (h : x < 0 ∨ nI T ≤ x) (hp : post 0) : wpX_isToken post (f_words, nI T, f_textLength, f_resultSize, f_rowLength, f_madeSize, a_wordLetters, a_wordLength, a_wordCount, a_leftOf, a_rightOf, a_priceOf, a_spelling, a_spellingLength, a_text, a_result, a_row, a_made, a_pairFrequency, a_waysFrom, a_slotsAt, a_slotKey, a_slotToken, a_slotRest) x := by
  by_cases z : x < 0
  · exact br_t z hp
  · exact br_f z (br_t (h.resolve_left z) hp)
theorem tx_tok1 {post : Int32 → Prop} {j T : Nat} (hT : T ≤ 20) (h : j < T) (hp : post 1) : wpX_isToken post (f_words, nI T, f_textLength, f_resultSize, f_rowLength, f_madeSize, a_wordLetters, a_wordLength, a_wordCount, a_leftOf, a_rightOf, a_priceOf, a_spelling, a_spellingLength, a_text, a_result, a_row, a_made, a_pairFrequency, a_waysFrom, a_slotsAt, a_slotKey, a_slotToken, a_slotRest) (nI j) :=
  br_f (ts_nn (by omega)) (br_f (nI_ge h (by omega)) hp)
end
theorem tx_let0 {post : Int32 → Prop} {x : Int32} (h : x < 0 ∨ nI 6 ≤ x) (hp : post 0) : wpX_isLetter post x := by
  by_cases z : x < 0
  · exact br_t z hp
  · exact br_f z (br_t (h.resolve_left z) hp)
theorem tx_let1 {post : Int32 → Prop} {j : Nat} (h : j < 6) (hp : post 1) : wpX_isLetter post (nI j) :=
  br_f (ts_nn (by omega)) (br_f (nI_ge (b := 6) h (by omega)) hp)
section
variable {f_words f_tokens f_textSize f_resultSize f_rowSize f_barred f_made f_kept : Int32} {a_counts a_sizes a_spelled a_lefts a_rights a_prices a_lengths a_letters a_text a_result a_row a_parts a_sums a_numbers a_splits a_tried a_begins : Nat → Int32}
theorem ty_tok1 {post : Int32 → Prop} {x : Int32} {T : Nat} (h : x < 0 ∨ nI T ≤ x) (hp : post 1) : wpY_badToken post (f_words, nI T, f_textSize, f_resultSize, f_rowSize, f_barred, f_made, f_kept, a_counts, a_sizes, a_spelled, a_lefts, a_rights, a_prices, a_lengths, a_letters, a_text, a_result, a_row, a_parts, a_sums, a_numbers, a_splits, a_tried, a_begins) x := by
  by_cases z : x < 0
  · exact br_t z hp
  · exact br_f z (br_f (ts_lt (h.resolve_left z)) hp)
theorem ty_tok0 {post : Int32 → Prop} {j T : Nat} (hT : T ≤ 20) (h : j < T) (hp : post 0) : wpY_badToken post (f_words, nI T, f_textSize, f_resultSize, f_rowSize, f_barred, f_made, f_kept, a_counts, a_sizes, a_spelled, a_lefts, a_rights, a_prices, a_lengths, a_letters, a_text, a_result, a_row, a_parts, a_sums, a_numbers, a_splits, a_tried, a_begins) (nI j) :=
  br_f (ts_nn (by omega)) (br_t (nI_lt h (by omega)) hp)
theorem ty_let1 {post : Int32 → Prop} {x : Int32} (h : x < 0 ∨ nI 6 ≤ x) (hp : post 1) : wpY_badLetter post (f_words, f_tokens, f_textSize, f_resultSize, f_rowSize, f_barred, f_made, f_kept, a_counts, a_sizes, a_spelled, a_lefts, a_rights, a_prices, a_lengths, a_letters, a_text, a_result, a_row, a_parts, a_sums, a_numbers, a_splits, a_tried, a_begins) x := by
  by_cases z : x < 0
  · exact br_t z hp
  · exact br_f z (br_f (ts_5 (h.resolve_left z)) hp)
theorem ty_let0 {post : Int32 → Prop} {j : Nat} (h : j < 6) (hp : post 0) : wpY_badLetter post (f_words, f_tokens, f_textSize, f_resultSize, f_rowSize, f_barred, f_made, f_kept, a_counts, a_sizes, a_spelled, a_lefts, a_rights, a_prices, a_lengths, a_letters, a_text, a_result, a_row, a_parts, a_sums, a_numbers, a_splits, a_tried, a_begins) (nI j) :=
  br_f (ts_nn (by omega)) (br_t (nI_le (b := 5) (by omega) (by omega)) hp)
end
theorem ts_or {x : Int32} (N : Nat) (hN : N < 2 ^ 31) : (x < 0 ∨ nI N ≤ x) ∨ ∃ j, j < N ∧ x = nI j := by
  rcases pk_ix x hN with a | a | a
  · exact Or.inl (Or.inl a)
  · exact Or.inl (Or.inr a)
  · exact Or.inr a
