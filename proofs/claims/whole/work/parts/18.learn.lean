theorem ts_argm {g : Nat → Nat → Int} {m b T : Nat} (hT6 : 6 ≤ T) (hT : T ≤ 20) (hm : m < 400) (hx : m / 20 < T) (hy : m % 20 < T) (hb : b < T * T)
    (a1 : ∀ j, j < 400 → g (j / 20) (j % 20) ≤ g (m / 20) (m % 20)) (a2 : ∀ j, j < m → g (j / 20) (j % 20) < g (m / 20) (m % 20))
    (b1 : ∀ j, j < T * T → g (j / T) (j % T) ≤ g (b / T) (b % T)) (b2 : ∀ j, j < b → g (j / T) (j % T) < g (b / T) (b % T)) : b / T = m / 20 ∧ b % T = m % 20 := by
  have hx' : b / T < T := Nat.div_lt_of_lt_mul hb
  have hy' : b % T < T := Nat.mod_lt _ (by omega)
  have eb : T * (b / T) + b % T = b := Nat.div_add_mod b T
  have em : 20 * (m / 20) + m % 20 = m := Nat.div_add_mod m 20
  generalize b / T = x' at *
  generalize b % T = y' at *
  generalize m / 20 = x at *
  generalize m % 20 = y at *
  have j1 := a1 (x' * 20 + y') (by omega)
  have j1' := a2 (x' * 20 + y')
  rw [show (x' * 20 + y') / 20 = x' by omega, show (x' * 20 + y') % 20 = y' by omega] at j1 j1'
  have q1 : (T * x + y) / T = x := by
    rw [Nat.mul_add_div (by omega), Nat.div_eq_of_lt hy, Nat.add_zero]
  have q2 : (T * x + y) % T = y := by
    rw [Nat.mul_add_mod, Nat.mod_eq_of_lt hy]
  have q3 : T * x + y < T * T := by
    have : T * x + T ≤ T * T := by
      have := Nat.mul_le_mul_left T (show x + 1 ≤ T from hx)
      rw [Nat.mul_add, Nat.mul_one] at this
      exact this
    omega
  have j2 := b1 (T * x + y) q3
  have j2' := b2 (T * x + y)
  rw [q1, q2] at j2 j2'
  have c1 : ¬ x' * 20 + y' < m := fun z => by have := j1' z; omega
  have c2 : ¬ T * x + y < b := fun z => by have := j2' z; omega
  have c3 : ¬ x < x' := by
    intro z
    have := Nat.mul_le_mul_left T (show x + 1 ≤ x' from z)
    rw [Nat.mul_add, Nat.mul_one] at this
    omega
  have c4 : x' = x := by omega
  subst c4
  exact ⟨rfl, by omega⟩
/-- a pair that occurs is of tokens, and spells at most eight letters -/
theorem ts_fq_pair {w T tl rs : Nat} {WL WS LF RG PR SP LN LT TX RE : Nat → Nat} {WC : Nat → Int32} (hI : ts_I w T tl rs WL WS LF RG PR SP LN LT TX RE) {x y : Nat} (h : ¬ ts_fq WC (ts_ML LF RG WL WS T) x y w = 0) : x < T ∧ y < T ∧ LN x + LN y ≤ 8 := by
  obtain ⟨hw, htl, hrs, hE, hag, hWL, hWS, hLF, hRG, hPR, hSP, hLT, hTX, hRE, hsum⟩ := id hI
  obtain ⟨h6, hT, hl1, hl8, hlet⟩ := id hE
  by_cases z : ∃ v i, (ts_ML LF RG WL WS T v)[i]? = some x ∧ (ts_ML LF RG WL WS T v)[i + 1]? = some y
  · obtain ⟨v, i, p1, p2⟩ := z
    refine ⟨ts_ML_lt v h6 hWL x (List.mem_of_getElem? p1), ts_ML_lt v h6 hWL y (List.mem_of_getElem? p2), ?_⟩
    have a := ts_sl_pair (ln := LN) _ i x y p1 p2
    have b := (ts_mi_all (ln := LN) (T := T) (lf := LF) (rg := RG) (l0 := ts_rw (fun i => WL (v * 8 + i)) (WS v)) (fun t q1 q2 => (hsum t q1 q2).2.2) (fun e he => by obtain ⟨q, _, rfl⟩ := ts_rw_mem he; exact hWL _) (T - 6) (by omega)).2.1
    have c := ts_sl_one (ln := LN) (ts_rw (fun i => WL (v * 8 + i)) (WS v)) (fun e he => by obtain ⟨q, _, rfl⟩ := ts_rw_mem he; exact (hlet _ (hWL _)).1)
    rw [ts_rw_len] at c
    have d := hWS v
    have a' : LN x + LN y ≤ ts_sl LN (ts_mi LF RG (ts_rw (fun i => WL (v * 8 + i)) (WS v)) (T - 6)) := a
    omega
  · exact absurd (ts_fq_0 w (fun v _ i q => z ⟨v, i, q⟩)) h
theorem ts_ap_all {P : Nat → Prop} {sp : Nat → Nat} (h : ∀ j, P (sp j)) (dst src m : Nat) : ∀ j, P (ts_ap sp dst src m j) := by
  intro j
  unfold ts_ap
  split
  · exact h _
  · exact h _
/-- what holds after a token was learned -/
theorem ts_I_learn {w T tl rs : Nat} {WL WS LF RG PR SP LN LT TX RE : Nat → Nat} (hI : ts_I w T tl rs WL WS LF RG PR SP LN LT TX RE) {x y : Nat} (hT : T < 20) (hx : x < T) (hy : y < T) (hl : LN x + LN y ≤ 8) :
    ts_I w (T + 1) tl rs WL WS (ts_un LF T x) (ts_un RG T y) (ts_un PR T 25) (ts_ap (ts_ap SP (T * 8 + 0) (x * 8) (LN x)) (T * 8 + LN x) (y * 8) (LN y)) (ts_un LN T (LN x + LN y)) (ts_ap (ts_ap LT (12 * T) (12 * x) (LN x)) (12 * T + LN x) (12 * y) (LN y)) TX RE := by
  obtain ⟨hw, htl, hrs, hE, hag, hWL, hWS, hLF, hRG, hPR, hSP, hLT, hTX, hRE, hsum⟩ := hI
  obtain ⟨h6, _, hl1, hl8, hlet⟩ := hE
  have lx := hl1 x hx
  have ly := hl1 y hy
  have l8x := hl8 x
  have l8y := hl8 y
  refine ⟨hw, htl, hrs, ⟨by omega, by omega, fun t ht => ?_, ts_un_all (P := fun z => z ≤ 8) hl8 hl, fun t ht => ⟨?_, ?_⟩⟩, fun t ht i hi => ?_, hWL, hWS, ts_un_all (P := fun z => z < 20) hLF (by omega), ts_un_all (P := fun z => z < 20) hRG (by omega), ts_un_all (P := fun z => z ≤ 99) hPR (by decide), ts_ap_all (P := fun z => z < 6) (ts_ap_all (P := fun z => z < 6) hSP _ _ _) _ _ _, ts_ap_all (P := fun z => z < 6) (ts_ap_all (P := fun z => z < 6) hLT _ _ _) _ _ _, hTX, hRE, fun t t6 ht => ?_⟩
  · by_cases z : t = T
    · rw [z, ts_un_s]; omega
    · rw [ts_un_n z]; exact hl1 t (by omega)
  · rw [ts_un_n (by omega)]; exact (hlet t ht).1
  · show ts_ap _ _ _ _ (t * 8 + 0) = t
    rw [ts_ap_lo (by omega), ts_ap_lo (by omega)]
    exact (hlet t ht).2
  · show _ = ts_ap _ _ _ _ (t * 8 + i)
    by_cases z : t = T
    · subst z
      rw [ts_un_s] at hi
      by_cases c : i < LN x
      · rw [ts_ap_lo (by omega), ts_ap_in c, ts_ap_lo (by omega), show t * 8 + i = t * 8 + 0 + i by omega, ts_ap_in c]
        exact hag x hx i c
      · obtain ⟨q, rfl⟩ : ∃ q, i = LN x + q := ⟨i - LN x, by omega⟩
        rw [← Nat.add_assoc, ts_ap_in (by omega), ts_ap_lo (by omega), ← Nat.add_assoc, ts_ap_in (by omega), ts_ap_lo (by omega)]
        exact hag y hy q (by omega)
    · rw [ts_un_n z] at hi
      have := hl8 t
      rw [ts_ap_lo (by omega), ts_ap_lo (by omega), ts_ap_lo (by omega), ts_ap_lo (by omega)]
      exact hag t (by omega) i hi
  · by_cases z : t = T
    · subst z
      rw [ts_un_s, ts_un_s, ts_un_s, ts_un_n (by omega), ts_un_n (by omega)]
      exact ⟨hx, hy, rfl⟩
    · obtain ⟨s1, s2, s3⟩ := hsum t t6 (by omega)
      rw [ts_un_n z, ts_un_n z, ts_un_n z, ts_un_n (by omega), ts_un_n (by omega)]
      exact ⟨s1, s2, s3⟩
section
variable {f_words f_tokens f_textSize f_resultSize f_rowSize f_barred f_made f_kept : Int32} {a_counts a_sizes a_spelled a_lefts a_rights a_prices a_lengths a_letters a_text a_result a_row a_parts a_sums a_numbers a_splits a_tried a_begins : Nat → Int32}
theorem ty_learn193 {post : Int32 → SY → Prop} {T x y : Nat} {ln LT : Nat → Nat} (hT : T < 20) (hx : x < T) (hy : y < T) (hl : ln x + ln y ≤ 8)
    (h : post (nI T) (f_words, nI (T + 1), f_textSize, f_resultSize, f_rowSize, f_barred, f_made, f_kept, a_counts, a_sizes, a_spelled, a_lefts, a_rights, a_prices, ts_F ln, ts_F (ts_ap LT (12 * T + ln x) (12 * y) (ln y)), a_text, a_result, a_row, a_parts, a_sums, a_numbers, a_splits, a_tried, a_begins)) :
    ∃ n, wY_learn_193 post (nI x) (nI y) f_words (nI T) f_textSize f_resultSize f_rowSize f_barred f_made f_kept n 0 a_counts a_sizes a_spelled a_lefts a_rights a_prices (ts_F ln) (ts_F LT) a_text a_result a_row a_parts a_sums a_numbers a_splits a_tried a_begins := by
  have ey : ts_F ln (nI y).toNatClampNeg = nI (ln y) := by rw [nI_clamp (by omega)]; rfl
  have ex : ts_F ln (nI x).toNatClampNeg = nI (ln x) := by rw [nI_clamp (by omega)]; rfl
  have H : ∀ d i, i + d = ln y → wY_learn_193 post (nI x) (nI y) f_words (nI T) f_textSize f_resultSize f_rowSize f_barred f_made f_kept (d + 1) (nI i) a_counts a_sizes a_spelled a_lefts a_rights a_prices (ts_F ln) (ts_F (ts_ap LT (12 * T + ln x) (12 * y) i)) a_text a_result a_row a_parts a_sums a_numbers a_splits a_tried a_begins := by
    intro d
    induction d with
    | zero =>
      intro i hi
      have e : i = ln y := by omega
      subst e
      refine ⟨ts_v (by omega), br_t (by rw [ey]; exact nI_le (Nat.le_refl _) (by omega)) (nm_r (nI_1 T) ?_)⟩
      rw [nI_pred]
      exact h
    | succ d ih =>
      intro i hi
      have e1 : 12 * nI y + nI i = nI (12 * y + i) := ts_mb 12 y i
      have e2 : 12 * nI T + ts_F ln (nI x).toNatClampNeg + nI i = nI (12 * T + ln x + i) := by
        rw [ex, show 12 * nI T + nI (ln x) = nI (12 * T + ln x) from ts_mb 12 T (ln x), nI_add]
      refine ⟨ts_v (by omega), br_f (by rw [ey]; exact nI_ge (by omega) (by omega)) ⟨ts_v (by omega), by rw [e1]; exact ts_v (by omega), by rw [e2]; exact ts_v (by omega), nm_r (e' := ts_F (ts_ap LT (12 * T + ln x) (12 * y) (i + 1))) ?_ (nm_r (nI_1 i) (ih (i + 1) (by omega)))⟩⟩
      rw [e1, e2, nI_clamp (by omega), nI_clamp (by omega)]
      show upd _ _ (nI (ts_ap LT (12 * T + ln x) (12 * y) i (12 * y + i))) = _
      rw [ts_ap_lo (by omega), ts_F_up, ts_ap_s]
  have := H (ln y) 0 (by omega)
  rw [ts_ap_0] at this
  exact ⟨_, this⟩
theorem ty_learn146 {post : Int32 → SY → Prop} {T x y : Nat} {ln LT : Nat → Nat} (hT : T < 20) (hx : x < T) (hy : y < T) (hl : ln x + ln y ≤ 8)
    (h : post (nI T) (f_words, nI (T + 1), f_textSize, f_resultSize, f_rowSize, f_barred, f_made, f_kept, a_counts, a_sizes, a_spelled, a_lefts, a_rights, a_prices, ts_F ln, ts_F (ts_ap (ts_ap LT (12 * T) (12 * x) (ln x)) (12 * T + ln x) (12 * y) (ln y)), a_text, a_result, a_row, a_parts, a_sums, a_numbers, a_splits, a_tried, a_begins)) :
    ∃ n, wY_learn_146 post (nI x) (nI y) f_words (nI T) f_textSize f_resultSize f_rowSize f_barred f_made f_kept n 0 a_counts a_sizes a_spelled a_lefts a_rights a_prices (ts_F ln) (ts_F LT) a_text a_result a_row a_parts a_sums a_numbers a_splits a_tried a_begins := by
  have ex : ts_F ln (nI x).toNatClampNeg = nI (ln x) := by rw [nI_clamp (by omega)]; rfl
  have H : ∀ d i, i + d = ln x → wY_learn_146 post (nI x) (nI y) f_words (nI T) f_textSize f_resultSize f_rowSize f_barred f_made f_kept (d + 1) (nI i) a_counts a_sizes a_spelled a_lefts a_rights a_prices (ts_F ln) (ts_F (ts_ap LT (12 * T) (12 * x) i)) a_text a_result a_row a_parts a_sums a_numbers a_splits a_tried a_begins := by
    intro d
    induction d with
    | zero =>
      intro i hi
      have e : i = ln x := by omega
      subst e
      exact ⟨ts_v (by omega), br_t (by rw [ex]; exact nI_le (Nat.le_refl _) (by omega)) (ty_learn193 hT hx hy hl h)⟩
    | succ d ih =>
      intro i hi
      have e1 : 12 * nI x + nI i = nI (12 * x + i) := ts_mb 12 x i
      have e2 : 12 * nI T + nI i = nI (12 * T + i) := ts_mb 12 T i
      refine ⟨ts_v (by omega), br_f (by rw [ex]; exact nI_ge (by omega) (by omega)) ⟨by rw [e1]; exact ts_v (by omega), by rw [e2]; exact ts_v (by omega), nm_r (e' := ts_F (ts_ap LT (12 * T) (12 * x) (i + 1))) ?_ (nm_r (nI_1 i) (ih (i + 1) (by omega)))⟩⟩
      rw [e1, e2, nI_clamp (by omega), nI_clamp (by omega)]
      show upd _ _ (nI (ts_ap LT (12 * T) (12 * x) i (12 * x + i))) = _
      rw [ts_ap_lo (by omega), ts_F_up, ts_ap_s]
  have := H (ln x) 0 (by omega)
  rw [ts_ap_0] at this
  exact ⟨_, this⟩
end
theorem ty_learn {w T tl rs : Nat} {WL WS LF RG PR SP LN LT TX RE : Nat → Nat} {WC : Nat → Int32} {rlY mkY kpY : Int32} {rowY pt sm nb sl tr bg : Nat → Int32} {post : Int32 → SY → Prop} (hI : ts_I w T tl rs WL WS LF RG PR SP LN LT TX RE)
    (h0 : (∀ j, j < T * T → (ts_fq WC (ts_ML LF RG WL WS T) (j / T) (j % T) w).toInt ≤ 1) → ∀ rlY mkY rowY pt, post (-2) (nI w, nI T, nI tl, nI rs, rlY, -1, mkY, kpY, WC, ts_F WS, ts_F WL, ts_F LF, ts_F RG, ts_F PR, ts_F LN, ts_F LT, ts_F TX, ts_F RE, rowY, pt, sm, nb, sl, tr, bg))
    (h1 : ∀ b, b < T * T → 1 < (ts_fq WC (ts_ML LF RG WL WS T) (b / T) (b % T) w).toInt → (∀ j, j < b → (ts_fq WC (ts_ML LF RG WL WS T) (j / T) (j % T) w).toInt < (ts_fq WC (ts_ML LF RG WL WS T) (b / T) (b % T) w).toInt) → (∀ j, j < T * T → (ts_fq WC (ts_ML LF RG WL WS T) (j / T) (j % T) w).toInt ≤ (ts_fq WC (ts_ML LF RG WL WS T) (b / T) (b % T) w).toInt) →
      ∀ rlY mkY rowY pt, (T = 20 → post (-3) (nI w, nI T, nI tl, nI rs, rlY, -1, mkY, kpY, WC, ts_F WS, ts_F WL, ts_F LF, ts_F RG, ts_F PR, ts_F LN, ts_F LT, ts_F TX, ts_F RE, rowY, pt, sm, nb, sl, tr, bg)) ∧ (T < 20 → post (nI T) (nI w, nI (T + 1), nI tl, nI rs, rlY, -1, mkY, kpY, WC, ts_F WS, ts_F WL, ts_F (ts_un LF T (b / T)), ts_F (ts_un RG T (b % T)), ts_F (ts_un PR T 25), ts_F (ts_un LN T (LN (b / T) + LN (b % T))), ts_F (ts_ap (ts_ap LT (12 * T) (12 * (b / T)) (LN (b / T))) (12 * T + LN (b / T)) (12 * (b % T)) (LN (b % T))), ts_F TX, ts_F RE, rowY, pt, sm, nb, sl, tr, bg))) :
    wpY_learn post (nI w, nI T, nI tl, nI rs, rlY, -1, mkY, kpY, WC, ts_F WS, ts_F WL, ts_F LF, ts_F RG, ts_F PR, ts_F LN, ts_F LT, ts_F TX, ts_F RE, rowY, pt, sm, nb, sl, tr, bg) := by
  obtain ⟨hw, htl, hrs, hE, hag, hWL, hWS, hLF, hRG, hPR, hSP, hLT, hTX, hRE, hsum⟩ := id hI
  obtain ⟨h6, hT, hl1, hl8, hlet⟩ := id hE
  have TT : T * T ≤ 400 := Nat.mul_le_mul hT hT
  have eT : nI T * nI T = nI (T * T) := pk_mul T T
  have nT : ¬ nI T = 0 := nI_ne0 (by omega) (by omega)
  have cT : (nI T).toNatClampNeg = T := nI_clamp (by omega)
  have i1 : (1 : Int32).toInt = 1 := by decide
  have H : ∀ d q, q + d = T * T → ∀ best most rlY mkY rowY pt,
      ((best = -1 ∧ most = 1 ∧ ∀ j, j < q → (ts_fq WC (ts_ML LF RG WL WS T) (j / T) (j % T) w).toInt ≤ 1) ∨ (∃ b, best = nI b ∧ b < q ∧ most = ts_fq WC (ts_ML LF RG WL WS T) (b / T) (b % T) w ∧ 1 < (ts_fq WC (ts_ML LF RG WL WS T) (b / T) (b % T) w).toInt ∧ (∀ j, j < b → (ts_fq WC (ts_ML LF RG WL WS T) (j / T) (j % T) w).toInt < (ts_fq WC (ts_ML LF RG WL WS T) (b / T) (b % T) w).toInt) ∧ ∀ j, j < q → (ts_fq WC (ts_ML LF RG WL WS T) (j / T) (j % T) w).toInt ≤ (ts_fq WC (ts_ML LF RG WL WS T) (b / T) (b % T) w).toInt)) →
      wY_learn_6 post (d + 1) best most (nI q) (nI w) (nI T) (nI tl) (nI rs) rlY (-1) mkY kpY WC (ts_F WS) (ts_F WL) (ts_F LF) (ts_F RG) (ts_F PR) (ts_F LN) (ts_F LT) (ts_F TX) (ts_F RE) rowY pt sm nb sl tr bg := by
    intro d
    induction d with
    | zero =>
      intro q hq best most rlY mkY rowY pt hh
      have e : q = T * T := by omega
      subst e
      refine br_t (by rw [eT]; exact nI_le (Nat.le_refl _) (by omega)) ?_
      rcases hh with ⟨rfl, rfl, hj⟩ | ⟨b, rfl, hb, rfl, hb1, hb2, hb3⟩
      · exact br_f (by decide) (h0 hj _ _ _ _)
      · obtain ⟨k1, k2⟩ := h1 b hb hb1 hb2 hb3 rlY mkY rowY pt
        refine br_t (nI_pos' (by omega)) ?_
        by_cases c : T = 20
        · exact br_t (by rw [c]; rfl) (k1 c)
        · have k3 := k2 (by omega)
          have hfq : ¬ ts_fq WC (ts_ML LF RG WL WS T) (b / T) (b % T) w = 0 := by
            intro z
            rw [z] at hb1
            exact absurd hb1 (by decide)
          obtain ⟨p1, p2, p3⟩ := ts_fq_pair hI hfq
          have ed : nI b / nI T = nI (b / T) := pk_div (by omega) (by omega) (by omega)
          have er : nI b - nI b / nI T * nI T = nI (b % T) := pk_rem (by omega) (by omega) (by omega)
          have vT : vp_in (nI T) 20 := ts_v (by omega)
          have u1 : ts_un LN T (LN (b / T) + LN (b % T)) (b / T) = LN (b / T) := ts_un_n (by omega)
          have u2 : ts_un LN T (LN (b / T) + LN (b % T)) (b % T) = LN (b % T) := ts_un_n (by omega)
          refine br_f (fun z => c ((nI_eq (b := 20) (by omega) (by decide)).mp z)) ⟨nT, nm_r ed ⟨nT, nm_r er ⟨vT, nm_r (e' := ts_F (ts_un LF T (b / T))) (by rw [cT]; exact ts_F_up _ _ _) ⟨vT, nm_r (e' := ts_F (ts_un RG T (b % T))) (by rw [cT]; exact ts_F_up _ _ _) ⟨vT, nm_r (e' := ts_F (ts_un PR T 25)) (by rw [cT]; exact ts_F_up PR T 25) ⟨ts_v (by omega), ts_v (by omega), vT, nm_r (e' := ts_F (ts_un LN T (LN (b / T) + LN (b % T)))) ?_ ?_⟩⟩⟩⟩⟩⟩
          · rw [cT, nI_clamp (by omega), nI_clamp (by omega)]
            show upd _ _ (nI (LN (b / T)) + nI (LN (b % T))) = _
            rw [nI_add]
            exact ts_F_up _ _ _
          · refine ty_learn146 (by omega) p1 p2 (by rw [u1, u2]; exact p3) ?_
            rw [u1, u2]
            exact k3
    | succ d ih =>
      intro q hq best most rlY mkY rowY pt hh
      have ed : nI q / nI T = nI (q / T) := pk_div (by omega) (by omega) (by omega)
      have er : nI q - nI q / nI T * nI T = nI (q % T) := pk_rem (by omega) (by omega) (by omega)
      have hqd : q / T < T := Nat.div_lt_of_lt_mul (by omega)
      have hqm : q % T < T := Nat.mod_lt _ (by omega)
      refine br_f (by rw [eT]; exact nI_ge (by omega) (by omega)) ⟨nT, nT, ?_⟩
      rw [er, ed]
      refine ty_freq (by omega) (by omega) hw h6 hT hWL hWS hLF hRG (fun rl' ms' row' md' => ?_)
      by_cases c : (ts_fq WC (ts_ML LF RG WL WS T) (q / T) (q % T) w).toInt ≤ most.toInt
      · refine br_t (Int32.le_iff_toInt_le.mpr c) (nm_r (nI_1 q) (ih (q + 1) (by omega) _ _ _ _ _ _ ?_))
        rcases hh with ⟨rfl, rfl, hj⟩ | ⟨b, rfl, hb, rfl, hb1, hb2, hb3⟩
        · refine Or.inl ⟨rfl, rfl, fun j hj' => ?_⟩
          by_cases z : j = q
          · rw [z, ← i1]; exact c
          · exact hj j (by omega)
        · refine Or.inr ⟨b, rfl, by omega, rfl, hb1, hb2, fun j hj' => ?_⟩
          by_cases z : j = q
          · rw [z]; exact c
          · exact hb3 j (by omega)
      · refine br_f (fun z => c (Int32.le_iff_toInt_le.mp z)) (nm_r (nI_1 q) (ih (q + 1) (by omega) _ _ _ _ _ _ (Or.inr ⟨q, rfl, by omega, rfl, ?_, ?_, ?_⟩)))
        · rcases hh with ⟨rfl, rfl, hj⟩ | ⟨b, rfl, hb, rfl, hb1, hb2, hb3⟩
          · rw [i1] at c; omega
          · omega
        · intro j hj'
          rcases hh with ⟨rfl, rfl, hj⟩ | ⟨b, rfl, hb, rfl, hb1, hb2, hb3⟩
          · rw [i1] at c
            have := hj j hj'
            omega
          · have := hb3 j hj'
            omega
        · intro j hj'
          by_cases z : j = q
          · rw [z]; exact Int.le_refl _
          · rcases hh with ⟨rfl, rfl, hj⟩ | ⟨b, rfl, hb, rfl, hb1, hb2, hb3⟩
            · rw [i1] at c
              have := hj j (by omega)
              omega
            · have := hb3 j (by omega)
              omega
  exact ⟨_, H (T * T) 0 (by omega) _ _ _ _ _ _ (Or.inl ⟨rfl, rfl, fun j hj => absurd hj (by omega)⟩)⟩
theorem i_vc_learn {k : Nat} {u : SX} {v : SY} (I : i_Rel k u v) (hk : k + 3 ≤ 1536) : wpX_learn (fun r u' => wpY_learn (fun r' v' => r' = r ∧ i_Rel (k + 3) u' v') v) u := by
  unfold wpX_learn
  obtain ⟨w, T, tl, rs, WL, WS, LF, RG, PR, SP, LN, LT, TX, RE, WC, rlX, msX, rowX, mdX, pf, wf, sa, sk, st, sr, rlY, mkY, kpY, rowY, pt, sm, nb, sl, tr, bg, rfl, rfl, hI⟩ := I
  obtain ⟨hw, htl, hrs, hE, hag, hWL, hWS, hLF, hRG, hPR, hSP, hLT, hTX, hRE, hsum⟩ := id hI
  obtain ⟨h6, hT, hl1, hl8, hlet⟩ := id hE
  have TT : T * T ≤ 400 := Nat.mul_le_mul hT hT
  refine tx_countPairs hw h6 hT hWL hWS hLF hRG (fun rlX msX rowX mdX pf hpf => ?_)
  refine tx_mostFrequentPair (fun m hm hm1 hm2 => ?_)
  have cm : (nI m).toNatClampNeg = m := nI_clamp (by omega)
  have epf : ∀ j, j < 400 → pf j = ts_fq WC (ts_ML LF RG WL WS T) (j / 20) (j % 20) w := by
    intro j hj
    have := hpf (j / 20) (j % 20) (by omega) (by omega)
    rw [show j / 20 * 20 + j % 20 = j by omega] at this
    exact this
  have i2 : (2 : Int32).toInt = 2 := by decide
  refine ⟨ts_v hm, ?_⟩
  by_cases c : (2 : Int32) ≤ pf (nI m).toNatClampNeg
  · refine br_t c ?_
    have c' := Int32.le_iff_toInt_le.mp c
    rw [cm, i2] at c'
    have hfq : ¬ ts_fq WC (ts_ML LF RG WL WS T) (m / 20) (m % 20) w = 0 := by
      intro z
      rw [← epf m hm] at z
      rw [z] at c'
      exact absurd c' (by decide)
    obtain ⟨p1, p2, p3⟩ := ts_fq_pair hI hfq
    have A1 : ∀ j, j < 400 → (ts_fq WC (ts_ML LF RG WL WS T) (j / 20) (j % 20) w).toInt ≤ (ts_fq WC (ts_ML LF RG WL WS T) (m / 20) (m % 20) w).toInt := fun j hj => by
      rw [← epf m hm, ← epf j hj]; exact hm1 j hj
    have A2 : ∀ j, j < m → (ts_fq WC (ts_ML LF RG WL WS T) (j / 20) (j % 20) w).toInt < (ts_fq WC (ts_ML LF RG WL WS T) (m / 20) (m % 20) w).toInt := fun j hj => by
      rw [← epf m hm, ← epf j (by omega)]; exact hm2 j hj
    have no : ∀ (Q : Prop), (∀ j, j < T * T → (ts_fq WC (ts_ML LF RG WL WS T) (j / T) (j % T) w).toInt ≤ 1) → Q := by
      intro Q hj
      have q3 : T * (m / 20) + m % 20 < T * T := by
        have := Nat.mul_le_mul_left T (show m / 20 + 1 ≤ T from p1)
        rw [Nat.mul_add, Nat.mul_one] at this
        omega
      have := hj (T * (m / 20) + m % 20) q3
      rw [Nat.mul_add_div (by omega), Nat.div_eq_of_lt p2, Nat.add_zero, Nat.mul_add_mod, Nat.mod_eq_of_lt p2, ← epf m hm] at this
      exact absurd this (by omega)
    by_cases c20 : T < 20
    · have cT : (nI T).toNatClampNeg = T := nI_clamp (by omega)
      have vT : vp_in (nI T) 20 := ts_v (by omega)
      have ed : nI m / 20 = nI (m / 20) := pk_div (d := 20) (by omega) (by decide) (by decide)
      have er : nI m - nI m / 20 * 20 = nI (m % 20) := pk_rem (d := 20) (by omega) (by decide) (by decide)
      have z20 : ¬ (20 : Int32) = 0 := by decide
      have u0 : ts_un LN T 0 T = 0 := ts_un_s
      have u1 : ts_un LN T 0 (m / 20) = LN (m / 20) := ts_un_n (by omega)
      have lf : ts_F (ts_un LF T (m / 20)) (nI T).toNatClampNeg = nI (m / 20) := by
        rw [cT]
        show nI (ts_un LF T (m / 20) T) = _
        rw [ts_un_s]
      have rg : ts_F (ts_un RG T (m % 20)) (nI T).toNatClampNeg = nI (m % 20) := by
        rw [cT]
        show nI (ts_un RG T (m % 20) T) = _
        rw [ts_un_s]
      refine br_t (nI_lt (b := 20) c20 (by decide)) ⟨z20, vT, nm_r (e' := ts_F (ts_un LF T (m / 20))) (by rw [cT, ed]; exact ts_F_up _ _ _) ⟨z20, vT, nm_r (e' := ts_F (ts_un RG T (m % 20))) (by rw [cT, er]; exact ts_F_up _ _ _) ⟨vT, nm_r (e' := ts_F (ts_un PR T 25)) (by rw [cT]; exact ts_F_up PR T 25) ⟨vT, nm_r (e' := ts_F (ts_un LN T 0)) (by rw [cT]; exact ts_F_up LN T 0) ⟨vT, ?_⟩⟩⟩⟩⟩
      rw [lf]
      refine tx_append (b := 0) (by omega) p1 u0 (by rw [u1]; omega) ?_
      refine ⟨vT, ?_⟩
      rw [rg, u1, Nat.zero_add, ts_unun]
      have u2 : ts_un LN T (LN (m / 20)) (m % 20) = LN (m % 20) := ts_un_n (by omega)
      refine tx_append (b := LN (m / 20)) (by omega) p2 ts_un_s (by rw [u2]; exact p3) ?_
      rw [u2, ts_unun]
      refine nm_r (nI_1 T) ?_
      refine ty_learn hI (fun hj => no _ hj) (fun b hb hb1 hb2 hb3 rlY mkY rowY pt => ⟨fun z => absurd z (by omega), fun _ => ⟨rfl, ?_⟩⟩)
      obtain ⟨e1, e2⟩ := ts_argm (g := fun x y => (ts_fq WC (ts_ML LF RG WL WS T) x y w).toInt) h6 hT hm p1 p2 hb A1 A2 hb3 hb2
      rw [e1, e2]
      exact ts_mk (ts_I_learn hI c20 p1 p2 p3)
    · have T20 : T = 20 := by omega
      refine br_f (nI_nlt (b := 20) (by omega) (by omega)) ?_
      exact ty_learn hI (fun hj => no _ hj) (fun b hb hb1 hb2 hb3 rlY mkY rowY pt => ⟨fun _ => ⟨rfl, ts_mk hI⟩, fun z => absurd z (by omega)⟩)
  · refine br_f c ?_
    have c' : (pf m).toInt ≤ 1 := by
      have : ¬ (2 : Int32).toInt ≤ (pf m).toInt := by
        intro z
        apply c
        rw [cm]
        exact Int32.le_iff_toInt_le.mpr z
      rw [i2] at this
      omega
    refine ty_learn hI (fun _ rlY mkY rowY pt => ⟨rfl, ts_mk hI⟩) (fun b hb hb1 hb2 hb3 rlY mkY rowY pt => absurd hb1 ?_)
    have hd : b / T < T := Nat.div_lt_of_lt_mul hb
    have hmd : b % T < T := Nat.mod_lt _ (by omega)
    have := hm1 (b / T * 20 + b % T) (by omega)
    rw [hpf (b / T) (b % T) (by omega) (by omega)] at this
    omega
