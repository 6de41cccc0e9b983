section
variable {f_words f_tokens f_textSize f_resultSize f_rowSize f_barred f_made f_kept : Int32} {a_counts a_sizes a_spelled a_lefts a_rights a_prices a_lengths a_letters a_text a_result a_row a_parts a_sums a_numbers a_splits a_tried a_begins : Nat → Int32}
theorem ty_fits {post : Int32 → Prop} {T n t p : Nat} {bx : Int32} {ln LT r : Nat → Nat} {sp : Nat → Nat → Nat} (ht : t < T) (hT : T ≤ 20) (hn : n ≤ 12) (hp : p ≤ n) (hln : ∀ t, ln t ≤ 8) (hLT : ∀ j, LT j < 6) (hsp : ∀ t, t < T → ∀ i, i < ln t → LT (12 * t + i) = sp t i) (hr : ∀ i, r i < 6) (hrow : ∀ i, i < n → a_row i = nI (r i))
    (h1 : ts_fit bx ln sp r n t p = true → post 1) (h0 : ¬ ts_fit bx ln sp r n t p = true → post 0) :
    wpY_fits post (f_words, nI T, f_textSize, f_resultSize, nI n, bx, f_made, f_kept, a_counts, a_sizes, a_spelled, a_lefts, a_rights, a_prices, ts_F ln, ts_F LT, a_text, a_result, a_row, a_parts, a_sums, a_numbers, a_splits, a_tried, a_begins) (nI t) (nI p) := by
  by_cases hb : nI t = bx
  · exact br_t hb (h0 (fun z => (ts_fit_t.mp z).1 hb))
  have ct : (nI t).toNatClampNeg = t := nI_clamp (by omega)
  have l8 := hln t
  have el : ts_F ln (nI t).toNatClampNeg = nI (ln t) := by rw [ct]; rfl
  have es : nI p + ts_F ln (nI t).toNatClampNeg = nI (p + ln t) := by rw [el, nI_add]
  refine br_f hb ⟨ts_v (by omega), ?_⟩
  by_cases c : p + ln t ≤ n
  · refine br_t (by rw [es]; exact nI_le c (by omega)) ?_
    have H : ∀ d i, i + d = ln t → (∀ j, j < i → r (p + j) = sp t j) → wY_fits_27 post (nI t) (nI p) f_words (nI T) f_textSize f_resultSize (nI n) bx f_made f_kept a_counts a_sizes a_spelled a_lefts a_rights a_prices (ts_F ln) (ts_F LT) a_text a_result a_row a_parts a_sums a_numbers a_splits a_tried a_begins (d + 1) (nI i) := by
      intro d
      induction d with
      | zero =>
        intro i hi hj
        refine ⟨ts_v (by omega), br_t (by rw [el]; exact nI_le (by omega) (by omega)) (h1 (ts_fit_t.mpr ⟨hb, c, fun j hj' => hj j (by omega)⟩))⟩
      | succ d ih =>
        intro i hi hj
        have e1 : nI p + nI i = nI (p + i) := nI_add p i
        have e2 : 12 * nI t + nI i = nI (12 * t + i) := ts_mb 12 t i
        have e3 : a_row (nI p + nI i).toNatClampNeg = nI (r (p + i)) := by rw [e1, nI_clamp (by omega)]; exact hrow _ (by omega)
        have e4 : ts_F LT (12 * nI t + nI i).toNatClampNeg = nI (LT (12 * t + i)) := by rw [e2, nI_clamp (by omega)]; rfl
        have b1 := hr (p + i)
        have b2 := hLT (12 * t + i)
        have b3 := hsp t ht i (by omega)
        refine ⟨ts_v (by omega), br_f (by rw [el]; exact nI_ge (by omega) (by omega)) ⟨by rw [e1]; exact ts_v (by omega), by rw [e2]; exact ts_v (by omega), ?_⟩⟩
        by_cases q : r (p + i) = LT (12 * t + i)
        · refine br_t (by rw [e3, e4, q]) (nm_r (nI_1 i) (ih (i + 1) (by omega) (fun j hj' => ?_)))
          by_cases z : j = i
          · rw [z, q]; exact b3
          · exact hj j (by omega)
        · refine br_f (fun z => ?_) (h0 (fun z => ?_))
          · rw [e3, e4] at z
            exact q ((nI_eq (by omega) (by omega)).mp z)
          · exact q (((ts_fit_t.mp z).2.2 i (by omega)).trans b3.symm)
    exact ⟨_, H (ln t) 0 (by omega) (fun j hj => absurd hj (by omega))⟩
  · exact br_f (by rw [es]; exact nI_ge (by omega) (by omega)) (h0 (fun z => c (ts_fit_t.mp z).2.1))
theorem ty_takeLongest {post : SY → Prop} {T n : Nat} {ln LT r : Nat → Nat} {sp : Nat → Nat → Nat} {L : Nat → List Nat} (hE : ts_En T ln sp) (hn : n ≤ 12) (hLT : ∀ j, LT j < 6) (hsp : ∀ t, t < T → ∀ i, i < ln t → LT (12 * t + i) = sp t i) (hr : ∀ i, r i < 6) (hrow : ∀ i, i < n → a_row i = nI (r i)) (hL : ts_TL (ts_fit (-1) ln sp r n) ln r T n L)
    (h : ∀ a, ts_Hd a (L 0) → post (f_words, nI T, f_textSize, f_resultSize, nI n, -1, nI (L 0).length, f_kept, a_counts, a_sizes, a_spelled, a_lefts, a_rights, a_prices, ts_F ln, ts_F LT, a_text, a_result, a_row, a, a_sums, a_numbers, a_splits, a_tried, a_begins)) :
    wpY_takeLongest post (f_words, nI T, f_textSize, f_resultSize, nI n, -1, f_made, f_kept, a_counts, a_sizes, a_spelled, a_lefts, a_rights, a_prices, ts_F ln, ts_F LT, a_text, a_result, a_row, a_parts, a_sums, a_numbers, a_splits, a_tried, a_begins) := by
  obtain ⟨h6, hT, hl1, hl8, hlet⟩ := id hE
  have hlet' := ts_En_let (bx := -1) (n := n) hE (fun t ht => ts_nb (by omega)) hr
  have H2 : ∀ (J : ty_TJ) (p q : Nat) (a : Nat → Int32), p < n → q < 12 →
      J (nI (p + ln (ts_lb (ts_fit (-1) ln sp r n) ln r p T))) (nI (q + 1)) a_counts a_sizes a_spelled a_lefts a_rights a_prices (ts_F ln) (ts_F LT) a_text a_result a_row (upd a q (nI (ts_lb (ts_fit (-1) ln sp r n) ln r p T))) a_sums a_numbers a_splits a_tried a_begins →
      ∀ d t, t + d = T → wY_takeLongest_24 post J (nI p) f_words (nI T) f_textSize f_resultSize (nI n) (-1) (nI q) f_kept a_counts a_sizes a_spelled a_lefts a_rights a_prices (ts_F ln) (ts_F LT) a_text a_result a_row a a_sums a_numbers a_splits a_tried a_begins (d + 1) (nI (ts_lb (ts_fit (-1) ln sp r n) ln r p t)) (nI t) := by
    intro J p q a hp hq hJ d
    induction d with
    | zero =>
      intro t ht
      have e : t = T := by omega
      subst e
      have ⟨b1, b2⟩ := ts_lb_ok (ln := ln) (hlet' p hp).1 (hlet' p hp).2 t (Nat.le_refl t)
      refine br_t (nI_le (Nat.le_refl t) (by omega)) ⟨ts_v hq, nm_r (by rw [nI_clamp (by omega)]) (nm_r (nI_1 q) ⟨ts_v (by omega), nm_r ?_ hJ⟩)⟩
      rw [nI_clamp (by omega)]
      exact nI_add p _
    | succ d ih =>
      intro t ht
      have ⟨b1, b2⟩ := ts_lb_ok (ln := ln) (hlet' p hp).1 (hlet' p hp).2 t (by omega)
      have l1 := hl8 t
      have l2 := hl8 (ts_lb (ts_fit (-1) ln sp r n) ln r p t)
      have e1 : ts_F ln (nI t).toNatClampNeg = nI (ln t) := by rw [nI_clamp (by omega)]; rfl
      have e2 : ts_F ln (nI (ts_lb (ts_fit (-1) ln sp r n) ln r p t)).toNatClampNeg = nI (ln (ts_lb (ts_fit (-1) ln sp r n) ln r p t)) := by rw [nI_clamp (by omega)]; rfl
      have ih' := ih (t + 1) (by omega)
      unfold ts_lb at ih'
      refine br_f (nI_ge (by omega) (by omega)) ?_
      refine ty_fits (by omega) hT hn (by omega) hl8 hLT hsp hr hrow (fun z => ?_) (fun z => ?_)
      · refine br_f (by decide) ⟨ts_v (by omega), ts_v (by omega), ?_⟩
        by_cases c : ln t ≤ ln (ts_lb (ts_fit (-1) ln sp r n) ln r p t)
        · refine br_t (by rw [e1, e2]; exact nI_le c (by omega)) (nm_r (nI_1 t) ?_)
          rw [if_neg (fun z => by omega)] at ih'
          exact ih'
        · refine br_f (by rw [e1, e2]; exact nI_ge (by omega) (by omega)) (nm_r (nI_1 t) ?_)
          rw [if_pos ⟨z, by omega⟩] at ih'
          exact ih'
      · refine br_t rfl (nm_r (nI_1 t) ?_)
        rw [if_neg (fun q => z q.1)] at ih'
        exact ih'
  have H : ∀ d p, p + d = n → ∀ fuel, d < fuel → ∀ a (out : List Nat), out.length ≤ p → ts_Hd a out → out ++ L p = L 0 → wY_takeLongest_7 post f_words (nI T) f_textSize f_resultSize (nI n) (-1) f_kept fuel (nI p) (nI out.length) a_counts a_sizes a_spelled a_lefts a_rights a_prices (ts_F ln) (ts_F LT) a_text a_result a_row a a_sums a_numbers a_splits a_tried a_begins := by
    intro d
    induction d using Nat.strongRecOn with
    | ind d ih =>
      intro p hp fuel hfu a out ho ha hf
      obtain ⟨fuel, rfl⟩ : ∃ g, fuel = g + 1 := ⟨fuel - 1, by omega⟩
      by_cases z : p = n
      · rw [z, hL.1, List.append_nil] at hf
        refine br_t (nI_le (by omega) (by omega)) ?_
        rw [hf]
        exact h a (by rw [← hf]; exact ha)
      · have hp' : p < n := by omega
        refine br_f (nI_ge (by omega) (by omega)) ⟨ts_v (by omega), nm_r (e' := nI (r p)) ?_ ?_⟩
        · rw [nI_clamp (by omega)]; exact hrow p hp'
        have ⟨b1, b2⟩ := ts_lb_ok (ln := ln) (hlet' p hp').1 (hlet' p hp').2 T (Nat.le_refl T)
        have ⟨b3, b4⟩ := ts_En_FB hE _ p b1 b2
        have hLp := hL.2 p hp'
        refine ⟨_, H2 _ p out.length a hp' (by omega) ?_ T 0 (by omega)⟩
        have k1 := ih (d - ln (ts_lb (ts_fit (-1) ln sp r n) ln r p T)) (by omega) (p + ln (ts_lb (ts_fit (-1) ln sp r n) ln r p T)) (by omega) fuel (by omega) (upd a out.length (nI (ts_lb (ts_fit (-1) ln sp r n) ln r p T))) (out ++ [ts_lb (ts_fit (-1) ln sp r n) ln r p T]) (by rw [List.length_append]; simp only [List.length_cons, List.length_nil]; omega) (ts_Hd_snoc ha) (by rw [List.append_assoc, ← hf, hLp]; rfl)
        rw [List.length_append] at k1
        exact k1
  exact ⟨n + 1, H n 0 (by omega) _ (by omega) a_parts [] (Nat.le_refl 0) (ts_Hd_nil _) rfl⟩
theorem ty_next {post : Int32 → Prop} {T n p f : Nat} {bx : Int32} {ln LT r : Nat → Nat} {sp : Nat → Nat → Nat} (hf : f ≤ T) (hT : T ≤ 20) (hn : n ≤ 12) (hp : p ≤ n) (hln : ∀ t, ln t ≤ 8) (hLT : ∀ j, LT j < 6) (hsp : ∀ t, t < T → ∀ i, i < ln t → LT (12 * t + i) = sp t i) (hr : ∀ i, r i < 6) (hrow : ∀ i, i < n → a_row i = nI (r i))
    (h1 : ∀ t, f ≤ t → t < T → ts_fit bx ln sp r n t p = true → (∀ t', f ≤ t' → t' < t → ¬ ts_fit bx ln sp r n t' p = true) → post (nI t)) (h0 : (∀ t', f ≤ t' → t' < T → ¬ ts_fit bx ln sp r n t' p = true) → post (-1)) :
    wpY_next post (f_words, nI T, f_textSize, f_resultSize, nI n, bx, f_made, f_kept, a_counts, a_sizes, a_spelled, a_lefts, a_rights, a_prices, ts_F ln, ts_F LT, a_text, a_result, a_row, a_parts, a_sums, a_numbers, a_splits, a_tried, a_begins) (nI f) (nI p) := by
  have H : ∀ d t, t + d = T → f ≤ t → (∀ t', f ≤ t' → t' < t → ¬ ts_fit bx ln sp r n t' p = true) → wY_next_2 post (nI p) f_words (nI T) f_textSize f_resultSize (nI n) bx f_made f_kept a_counts a_sizes a_spelled a_lefts a_rights a_prices (ts_F ln) (ts_F LT) a_text a_result a_row a_parts a_sums a_numbers a_splits a_tried a_begins (d + 1) (nI t) := by
    intro d
    induction d with
    | zero =>
      intro t ht hft hn'
      have e : t = T := by omega
      subst e
      exact br_t (nI_le (Nat.le_refl t) (by omega)) (h0 hn')
    | succ d ih =>
      intro t ht hft hn'
      refine br_f (nI_ge (by omega) (by omega)) (ty_fits (by omega) hT hn hp hln hLT hsp hr hrow (fun z => ?_) (fun z => ?_))
      · exact br_f (by decide) (h1 t hft (by omega) z hn')
      · refine br_t rfl (nm_r (nI_1 t) (ih (t + 1) (by omega) (by omega) (fun t' a b => ?_)))
        by_cases q : t' = t
        · rw [q]; exact z
        · exact hn' t' a (by omega)
  exact ⟨_, H (T - f) f (by omega) (Nat.le_refl f) (fun t' a b => absurd b (by omega))⟩
end
/-- Y's store of kept splits -/
def ts_RS (pr : Nat → Nat) (sm nb sl : Nat → Int32) (i : Nat) (e : List Nat) : Prop :=
  sm i = nI (ts_sp pr e) ∧ nb i = nI e.length ∧ ∀ j x, e[j]? = some x → sl (12 * i + j) = nI x
def ts_KR (pr : Nat → Nat) (sm nb sl : Nat → Int32) (acc : List (List Nat)) : Prop := ∀ i e, acc[i]? = some e → ts_RS pr sm nb sl i e
def ts_c12 (sl : Nat → Int32) (c m : Nat) : Nat → Int32 := fun j => if 12 * (c + 1) ≤ j ∧ j < 12 * (c + 1) + m then sl (j - 12) else sl j
theorem ts_c12_0 (sl : Nat → Int32) (c : Nat) : ts_c12 sl c 0 = sl := by
  funext j
  exact if_neg (by omega)
theorem ts_c12_s (sl : Nat → Int32) (c m : Nat) (hm : m < 12) : upd (ts_c12 sl c m) (12 * (c + 1) + m) (ts_c12 sl c m (12 * c + m)) = ts_c12 sl c (m + 1) := by
  funext j
  unfold upd ts_c12
  by_cases z : j = 12 * (c + 1) + m
  · rw [if_pos z, if_neg (by omega), if_pos (by omega), z]
    congr 1
    omega
  · rw [if_neg z]
    by_cases z2 : 12 * (c + 1) ≤ j ∧ j < 12 * (c + 1) + m
    · rw [if_pos z2, if_pos (by omega)]
    · rw [if_neg z2, if_neg (by omega)]
theorem ts_c12_in {sl : Nat → Int32} {c i : Nat} (h : i < 12) : ts_c12 sl c 12 (12 * (c + 1) + i) = sl (12 * c + i) := by
  unfold ts_c12
  rw [if_pos (by omega)]
  congr 1
  omega
theorem ts_c12_out {sl : Nat → Int32} {c j : Nat} (h : j < 12 * (c + 1) ∨ 12 * (c + 2) ≤ j) : ts_c12 sl c 12 j = sl j := if_neg (by omega)
def ts_wr (sl tr : Nat → Int32) (b m : Nat) : Nat → Int32 := fun j => if b ≤ j ∧ j < b + m then tr (j - b) else sl j
theorem ts_wr_0 (sl tr : Nat → Int32) (b : Nat) : ts_wr sl tr b 0 = sl := by
  funext j
  exact if_neg (by omega)
theorem ts_wr_s (sl tr : Nat → Int32) (b m : Nat) : upd (ts_wr sl tr b m) (b + m) (tr m) = ts_wr sl tr b (m + 1) := by
  funext j
  unfold upd ts_wr
  by_cases z : j = b + m
  · rw [if_pos z, if_pos (by omega), z, Nat.add_sub_cancel_left]
  · rw [if_neg z]
    by_cases z2 : b ≤ j ∧ j < b + m
    · rw [if_pos z2, if_pos (by omega)]
    · rw [if_neg z2, if_neg (by omega)]
theorem ts_len_of {e : List Nat} {j x : Nat} (h : e[j]? = some x) : j < e.length := by
  obtain ⟨q, _⟩ := List.getElem?_eq_some_iff.mp h
  exact q
section
variable {f_words f_tokens f_textSize f_resultSize f_rowSize f_barred f_made f_kept : Int32} {a_counts a_sizes a_spelled a_lefts a_rights a_prices a_lengths a_letters a_text a_result a_row a_parts a_sums a_numbers a_splits a_tried a_begins : Nat → Int32}
theorem ty_keep151 {post : SY → Prop} {c : Nat} {pr : Nat → Nat} {acc : List (List Nat)} {x : List Nat} (hx : x.length ≤ 12) (hA : ts_AG pr acc) (hc : c ≤ acc.length) (hT : ts_Hd a_tried x)
    (h1 : ∀ i e, i < c → acc[i]? = some e → ts_RS pr a_sums a_numbers a_splits i e) (h2 : ∀ i e, c ≤ i → acc[i]? = some e → ts_RS pr a_sums a_numbers a_splits (i + 1) e)
    (e : ts_ins (ts_ky pr) acc x = acc.take c ++ x :: acc.drop c)
    (h : ∀ sm nb sl, ts_KR pr sm nb sl (ts_top (ts_ky pr) acc x) → post (f_words, f_tokens, f_textSize, f_resultSize, f_rowSize, f_barred, f_made, nI (ts_top (ts_ky pr) acc x).length, a_counts, a_sizes, a_spelled, a_lefts, a_rights, a_prices, a_lengths, a_letters, a_text, a_result, a_row, a_parts, sm, nb, sl, a_tried, a_begins)) :
    wY_keep_151 post (nI x.length) (nI (ts_sp pr x)) (nI c) f_words f_tokens f_textSize f_resultSize f_rowSize f_barred f_made (nI acc.length) a_counts a_sizes a_spelled a_lefts a_rights a_prices a_lengths a_letters a_text a_result a_row a_parts a_sums a_numbers a_splits a_tried a_begins := by
  obtain ⟨a1, a2, a3⟩ := hA
  have cc : (nI c).toNatClampNeg = c := nI_clamp (by omega)
  have tl : (ts_top (ts_ky pr) acc x).length = min 6 (acc.length + 1) := by
    unfold ts_top
    rw [List.length_take, ts_ins_len]
  have kr : ts_KR pr (upd a_sums c (nI (ts_sp pr x))) (upd a_numbers c (nI x.length)) (ts_wr a_splits a_tried (12 * c) x.length) (ts_top (ts_ky pr) acc x) := by
    intro i y hy
    unfold ts_top at hy
    rw [e, List.getElem?_take] at hy
    by_cases i6 : i < 6
    · rw [if_pos i6, ts_pos_get acc x c i hc] at hy
      by_cases i1 : i < c
      · rw [if_pos i1] at hy
        obtain ⟨g1, g2, g3⟩ := h1 i y i1 hy
        have yl := a3 y (List.mem_of_getElem? hy)
        refine ⟨by rw [pk_un (by omega)]; exact g1, by rw [pk_un (by omega)]; exact g2, fun j z hz => ?_⟩
        have := ts_len_of hz
        unfold ts_wr
        rw [if_neg (by omega)]
        exact g3 j z hz
      · rw [if_neg i1] at hy
        by_cases i2 : i = c
        · rw [if_pos i2] at hy
          cases hy
          subst i2
          refine ⟨pk_us, pk_us, fun j z hz => ?_⟩
          have := ts_len_of hz
          unfold ts_wr
          rw [if_pos (by omega), Nat.add_sub_cancel_left]
          exact hT j z hz
        · rw [if_neg i2] at hy
          obtain ⟨g1, g2, g3⟩ := h2 (i - 1) y (by omega) hy
          rw [show i - 1 + 1 = i by omega] at g1 g2 g3
          refine ⟨by rw [pk_un (by omega)]; exact g1, by rw [pk_un (by omega)]; exact g2, fun j z hz => ?_⟩
          unfold ts_wr
          rw [if_neg (by omega)]
          exact g3 j z hz
    · rw [if_neg i6] at hy
      cases hy
  have fin := h _ _ _ kr
  rw [tl] at fin
  have H : ∀ d i, i + d = x.length → wY_keep_168 post (nI x.length) (nI c) f_words f_tokens f_textSize f_resultSize f_rowSize f_barred f_made (nI acc.length) (d + 1) (nI i) a_counts a_sizes a_spelled a_lefts a_rights a_prices a_lengths a_letters a_text a_result a_row a_parts (upd a_sums c (nI (ts_sp pr x))) (upd a_numbers c (nI x.length)) (ts_wr a_splits a_tried (12 * c) i) a_tried a_begins := by
    intro d
    induction d with
    | zero =>
      intro i hi
      have ei : i = x.length := by omega
      subst ei
      refine br_t (nI_le (Nat.le_refl _) (by omega)) ?_
      by_cases f6 : acc.length = 6
      · refine br_t (by rw [f6]; decide) ?_
        rw [show min 6 (acc.length + 1) = acc.length by omega] at fin
        exact fin
      · refine br_f (nI_ge (b := 6) (by omega) (by decide)) (nm_r (nI_1 _) ?_)
        rw [show min 6 (acc.length + 1) = acc.length + 1 by omega] at fin
        exact fin
    | succ d ih =>
      intro i hi
      have e1 : 12 * nI c + nI i = nI (12 * c + i) := ts_mb 12 c i
      refine br_f (nI_ge (by omega) (by omega)) ⟨ts_v (by omega), by rw [e1]; exact ts_v (by omega), nm_r (e' := ts_wr a_splits a_tried (12 * c) (i + 1)) ?_ (nm_r (nI_1 i) (ih (i + 1) (by omega)))⟩
      rw [e1, nI_clamp (by omega), nI_clamp (by omega)]
      exact ts_wr_s _ _ _ _
  have H0 := H x.length 0 (by omega)
  rw [ts_wr_0] at H0
  exact ⟨ts_v (by omega), nm_r (by rw [cc]) ⟨ts_v (by omega), nm_r (by rw [cc]) ⟨_, H0⟩⟩⟩
def ty_TJ3 : Type := Int32 → (Nat → Int32) → (Nat → Int32) → (Nat → Int32) → (Nat → Int32) → (Nat → Int32) → (Nat → Int32) → (Nat → Int32) → (Nat → Int32) → (Nat → Int32) → (Nat → Int32) → (Nat → Int32) → (Nat → Int32) → (Nat → Int32) → (Nat → Int32) → (Nat → Int32) → (Nat → Int32) → (Nat → Int32) → Prop
theorem ty_keep74 {post : SY → Prop} {J : ty_TJ3} {c : Nat} {x1 x2 : Int32} (hc : c < 6)
    (h : J (nI c) a_counts a_sizes a_spelled a_lefts a_rights a_prices a_lengths a_letters a_text a_result a_row a_parts (upd a_sums (c + 1) (a_sums c)) (upd a_numbers (c + 1) (a_numbers c)) (ts_c12 a_splits c 12) a_tried a_begins) :
    wY_keep_74 post J x1 x2 (nI (c + 1)) f_words f_tokens f_textSize f_resultSize f_rowSize f_barred f_made f_kept a_counts a_sizes a_spelled a_lefts a_rights a_prices a_lengths a_letters a_text a_result a_row a_parts a_sums a_numbers a_splits a_tried a_begins := by
  have e1 : nI (c + 1) - 1 = nI c := nI_pred c
  have v1 : vp_in (nI (c + 1) - 1) 7 := by rw [e1]; exact ts_v (by omega)
  have v2 : vp_in (nI (c + 1)) 7 := ts_v (by omega)
  have e2 : (nI (c + 1) - 1).toNatClampNeg = c := by rw [e1]; exact nI_clamp (by omega)
  have e3 : (nI (c + 1)).toNatClampNeg = c + 1 := nI_clamp (by omega)
  have e4 : (12 : Int32) * nI (c + 1) = nI (12 * (c + 1)) := pk_mul 12 (c + 1)
  have e5 : (12 : Int32) * nI (c + 1) - 12 = nI (12 * c) := by
    rw [e4]
    have := pk_sub (a := 12 * (c + 1)) (b := 12) (by omega)
    rw [show 12 * (c + 1) - 12 = 12 * c by omega] at this
    exact this
  have H : ∀ d i, i + d = 12 → wY_keep_105 post J x1 x2 (nI (c + 1)) f_words f_tokens f_textSize f_resultSize f_rowSize f_barred f_made f_kept (d + 1) (nI i) a_counts a_sizes a_spelled a_lefts a_rights a_prices a_lengths a_letters a_text a_result a_row a_parts (upd a_sums (c + 1) (a_sums c)) (upd a_numbers (c + 1) (a_numbers c)) (ts_c12 a_splits c i) a_tried a_begins := by
    intro d
    induction d with
    | zero =>
      intro i hi
      have ei : i = 12 := by omega
      subst ei
      exact br_t (nI_le (b := 12) (Nat.le_refl _) (by decide)) (nm_r (pk_m1 c) h)
    | succ d ih =>
      intro i hi
      have e6 : (12 : Int32) * nI (c + 1) - 12 + nI i = nI (12 * c + i) := by rw [e5, nI_add]
      have e7 : (12 : Int32) * nI (c + 1) + nI i = nI (12 * (c + 1) + i) := by rw [e4, nI_add]
      refine br_f (nI_ge (b := 12) (by omega) (by decide)) ⟨by rw [e6]; exact ts_v (by omega), by rw [e7]; exact ts_v (by omega), nm_r (e' := ts_c12 a_splits c (i + 1)) ?_ (nm_r (nI_1 i) (ih (i + 1) (by omega)))⟩
      rw [e6, e7, nI_clamp (by omega), nI_clamp (by omega)]
      exact ts_c12_s _ _ _ (by omega)
  have H0 := H 12 0 (by omega)
  rw [ts_c12_0] at H0
  exact ⟨v1, v2, nm_r (by rw [e2, e3]) ⟨v1, v2, nm_r (by rw [e2, e3]) ⟨_, H0⟩⟩⟩
theorem ty_keep {post : SY → Prop} {pr : Nat → Nat} {acc : List (List Nat)} {x : List Nat} (hx : x.length ≤ 12) (hxt : ∀ t ∈ x, t < 20) (hpr : ∀ t, pr t ≤ 99) (hA : ts_AG pr acc) (hT : ts_Hd a_tried x) (hKR : ts_KR pr a_sums a_numbers a_splits acc)
    (h : ∀ sm nb sl, ts_KR pr sm nb sl (ts_top (ts_ky pr) acc x) → post (f_words, f_tokens, f_textSize, f_resultSize, f_rowSize, f_barred, f_made, nI (ts_top (ts_ky pr) acc x).length, a_counts, a_sizes, a_spelled, a_lefts, a_rights, ts_F pr, a_lengths, a_letters, a_text, a_result, a_row, a_parts, sm, nb, sl, a_tried, a_begins)) :
    wpY_keep post (f_words, f_tokens, f_textSize, f_resultSize, f_rowSize, f_barred, f_made, nI acc.length, a_counts, a_sizes, a_spelled, a_lefts, a_rights, ts_F pr, a_lengths, a_letters, a_text, a_result, a_row, a_parts, a_sums, a_numbers, a_splits, a_tried, a_begins) (nI x.length) := by
  obtain ⟨a1, a2, a3⟩ := id hA
  have xs := ts_sp_le hpr x
  have H2 : ∀ c, c ≤ acc.length → ∀ sm nb sl, (∀ i e, i < c → acc[i]? = some e → ts_RS pr sm nb sl i e) → (∀ i e, c ≤ i → acc[i]? = some e → ts_RS pr sm nb sl (i + 1) e) → (∀ j e, c ≤ j → acc[j]? = some e → ts_ky pr x < ts_ky pr e) →
      wY_keep_34 post (nI x.length) (nI (ts_sp pr x)) f_words f_tokens f_textSize f_resultSize f_rowSize f_barred f_made (nI acc.length) (c + 1) (nI c) a_counts a_sizes a_spelled a_lefts a_rights (ts_F pr) a_lengths a_letters a_text a_result a_row a_parts sm nb sl a_tried a_begins := by
    intro c
    induction c with
    | zero =>
      intro hc sm nb sl h1 h2 h3
      exact br_t (by decide) (ty_keep151 hx hA hc hT h1 h2 (ts_pos acc x 0 a2 hc h3 (fun e z => absurd z (by omega))) h)
    | succ c ih =>
      intro hc sm nb sl h1 h2 h3
      obtain ⟨y, hy⟩ : ∃ y, acc[c]? = some y := ⟨acc[c]'(by omega), List.getElem?_eq_getElem (by omega)⟩
      have yl := a3 y (List.mem_of_getElem? hy)
      have ys := ts_sp_le hpr y
      obtain ⟨g1, g2, g3⟩ := h1 c y (by omega) hy
      have e1 : nI (c + 1) - 1 = nI c := nI_pred c
      have v1 : vp_in (nI (c + 1) - 1) 7 := by rw [e1]; exact ts_v (by omega)
      have e2 : (nI (c + 1) - 1).toNatClampNeg = c := by rw [e1]; exact nI_clamp (by omega)
      have ex : ts_ky pr x = 16 * ts_sp pr x + x.length := rfl
      have ey : ts_ky pr y = 16 * ts_sp pr y + y.length := rfl
      have stop : ts_ky pr y ≤ ts_ky pr x → wY_keep_151 post (nI x.length) (nI (ts_sp pr x)) (nI (c + 1)) f_words f_tokens f_textSize f_resultSize f_rowSize f_barred f_made (nI acc.length) a_counts a_sizes a_spelled a_lefts a_rights (ts_F pr) a_lengths a_letters a_text a_result a_row a_parts sm nb sl a_tried a_begins := by
        intro z
        refine ty_keep151 hx hA hc hT h1 h2 (ts_pos acc x (c + 1) a2 hc h3 (fun e _ he => ?_)) h
        rw [Nat.add_sub_cancel, hy] at he
        cases he
        exact z
      have go : ts_ky pr x < ts_ky pr y → wY_keep_74 post (wY_keep_34 post (nI x.length) (nI (ts_sp pr x)) f_words f_tokens f_textSize f_resultSize f_rowSize f_barred f_made (nI acc.length) (c + 1)) (nI x.length) (nI (ts_sp pr x)) (nI (c + 1)) f_words f_tokens f_textSize f_resultSize f_rowSize f_barred f_made (nI acc.length) a_counts a_sizes a_spelled a_lefts a_rights (ts_F pr) a_lengths a_letters a_text a_result a_row a_parts sm nb sl a_tried a_begins := by
        intro z
        refine ty_keep74 (by omega) (ih (by omega) _ _ _ (fun i e hi he => ?_) (fun i e hi he => ?_) (fun j e hj he => ?_))
        · obtain ⟨k1, k2, k3⟩ := h1 i e (by omega) he
          have el := a3 e (List.mem_of_getElem? he)
          refine ⟨by rw [pk_un (by omega)]; exact k1, by rw [pk_un (by omega)]; exact k2, fun j w hw => ?_⟩
          have := ts_len_of hw
          rw [ts_c12_out (by omega)]
          exact k3 j w hw
        · by_cases q : i = c
          · subst q
            rw [hy] at he
            cases he
            refine ⟨by rw [pk_us]; exact g1, by rw [pk_us]; exact g2, fun j w hw => ?_⟩
            have := ts_len_of hw
            rw [ts_c12_in (by omega)]
            exact g3 j w hw
          · obtain ⟨k1, k2, k3⟩ := h2 i e (by omega) he
            refine ⟨by rw [pk_un (by omega)]; exact k1, by rw [pk_un (by omega)]; exact k2, fun j w hw => ?_⟩
            rw [ts_c12_out (by omega)]
            exact k3 j w hw
        · by_cases q : j = c
          · rw [q, hy] at he
            cases he
            exact z
          · exact h3 j e (by omega) he
      refine br_f (nI_nle (by omega) (by omega)) ⟨v1, ?_⟩
      by_cases c1 : ts_sp pr x < ts_sp pr y
      · exact br_t (by rw [e2, g1]; exact nI_lt c1 (by omega)) (go (by omega))
      · refine br_f (by rw [e2, g1]; exact nI_nlt (by omega) (by omega)) ⟨v1, ?_⟩
        by_cases c2 : ts_sp pr y = ts_sp pr x
        · refine br_t (by rw [e2, g1, c2]) ⟨v1, ?_⟩
          by_cases c3 : y.length ≤ x.length
          · exact br_t (by rw [e2, g2]; exact nI_le c3 (by omega)) (stop (by omega))
          · exact br_f (by rw [e2, g2]; exact nI_ge (by omega) (by omega)) (go (by omega))
        · refine br_f (fun z => ?_) (stop (by omega))
          rw [e2, g1] at z
          exact c2 ((nI_eq (by omega) (by omega)).mp z)
  have H : ∀ d i, i + d = x.length → wY_keep_4 post (nI x.length) f_words f_tokens f_textSize f_resultSize f_rowSize f_barred f_made (nI acc.length) a_counts a_sizes a_spelled a_lefts a_rights (ts_F pr) a_lengths a_letters a_text a_result a_row a_parts a_sums a_numbers a_splits a_tried a_begins (d + 1) (nI (ts_sp pr (x.take i))) (nI i) := by
    intro d
    induction d with
    | zero =>
      intro i hi
      have ei : i = x.length := by omega
      subst ei
      rw [List.take_length]
      refine br_t (nI_le (Nat.le_refl _) (by omega)) ⟨_, H2 acc.length (Nat.le_refl _) _ _ _ (fun i e _ he => hKR i e he) (fun i e hi he => ?_) (fun i e hi he => ?_)⟩
      · obtain ⟨q, _⟩ := List.getElem?_eq_some_iff.mp he
        omega
      · obtain ⟨q, _⟩ := List.getElem?_eq_some_iff.mp he
        omega
    | succ d ih =>
      intro i hi
      obtain ⟨t, ht⟩ := ts_get (l := x) (i := i) (by omega)
      have t20 := hxt t (List.mem_of_getElem? ht)
      have e1 : a_tried (nI i).toNatClampNeg = nI t := by rw [nI_clamp (by omega)]; exact hT i t ht
      refine br_f (nI_ge (by omega) (by omega)) ⟨ts_v (by omega), by rw [e1]; exact ts_v t20, nm_r (e' := nI (ts_sp pr (x.take (i + 1)))) ?_ (nm_r (nI_1 i) (ih (i + 1) (by omega)))⟩
      rw [e1, nI_clamp (by omega), List.take_succ, ht, ts_sp_app]
      show nI _ + nI (pr t) = _
      rw [nI_add]
      rfl
  exact ⟨_, H x.length 0 (by omega)⟩
end
