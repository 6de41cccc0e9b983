section
variable {f_words f_tokens f_textSize f_resultSize f_rowSize f_barred f_made f_kept : Int32} {a_counts a_sizes a_spelled a_lefts a_rights a_prices a_lengths a_letters a_text a_result a_row a_parts a_sums a_numbers a_splits a_tried a_begins : Nat → Int32}
theorem ty_takeText {post : SY → Prop} {tl : Nat} (htl : tl ≤ 12) (h : post (f_words, f_tokens, nI tl, f_resultSize, nI tl, f_barred, f_made, f_kept, a_counts, a_sizes, a_spelled, a_lefts, a_rights, a_prices, a_lengths, a_letters, a_text, a_result, ts_cp a_row a_text tl, a_parts, a_sums, a_numbers, a_splits, a_tried, a_begins)) : wpY_takeText post (f_words, f_tokens, nI tl, f_resultSize, f_rowSize, f_barred, f_made, f_kept, a_counts, a_sizes, a_spelled, a_lefts, a_rights, a_prices, a_lengths, a_letters, a_text, a_result, a_row, a_parts, a_sums, a_numbers, a_splits, a_tried, a_begins) := by
  have H : ∀ d i, i + d = tl → wY_takeText_10 post f_words f_tokens (nI tl) f_resultSize (nI tl) f_barred f_made f_kept (d + 1) (nI i) a_counts a_sizes a_spelled a_lefts a_rights a_prices a_lengths a_letters a_text a_result (ts_cp a_row a_text i) a_parts a_sums a_numbers a_splits a_tried a_begins := by
    intro d
    induction d with
    | zero =>
      intro i hi
      have e : i = tl := by omega
      subst e
      exact br_t (nI_le (Nat.le_refl i) (by omega)) h
    | succ d ih =>
      intro i hi
      refine br_f (nI_ge (by omega) (by omega)) ⟨ts_v (by omega), ts_v (by omega), nm_r (e' := ts_cp a_row a_text (i + 1)) ?_ (nm_r (nI_1 i) (ih (i + 1) (by omega)))⟩
      rw [nI_clamp (by omega)]
      exact ts_cp_s _ _ _
  have := H tl 0 (by omega)
  rw [ts_cp_0] at this
  exact ⟨_, this⟩
theorem ty_takeWord {post : SY → Prop} {w m : Nat} (hw : w < 12) (hm : m ≤ 8) (e : a_sizes w = nI m) (h : post (f_words, f_tokens, f_textSize, f_resultSize, nI m, f_barred, f_made, f_kept, a_counts, a_sizes, a_spelled, a_lefts, a_rights, a_prices, a_lengths, a_letters, a_text, a_result, ts_cp a_row (fun i => a_spelled (w * 8 + i)) m, a_parts, a_sums, a_numbers, a_splits, a_tried, a_begins)) : wpY_takeWord post (f_words, f_tokens, f_textSize, f_resultSize, f_rowSize, f_barred, f_made, f_kept, a_counts, a_sizes, a_spelled, a_lefts, a_rights, a_prices, a_lengths, a_letters, a_text, a_result, a_row, a_parts, a_sums, a_numbers, a_splits, a_tried, a_begins) (nI w) := by
  have hc : (nI w).toNatClampNeg = w := nI_clamp (by omega)
  have H : ∀ d i, i + d = m → wY_takeWord_12 post (nI w) f_words f_tokens f_textSize f_resultSize (nI m) f_barred f_made f_kept (d + 1) (nI i) a_counts a_sizes a_spelled a_lefts a_rights a_prices a_lengths a_letters a_text a_result (ts_cp a_row (fun i => a_spelled (w * 8 + i)) i) a_parts a_sums a_numbers a_splits a_tried a_begins := by
    intro d
    induction d with
    | zero =>
      intro i hi
      have e2 : i = m := by omega
      subst e2
      exact br_t (nI_le (Nat.le_refl i) (by omega)) h
    | succ d ih =>
      intro i hi
      have e3 : 8 * nI w + nI i = nI (w * 8 + i) := by
        have := ts_mb 8 w i
        rw [Nat.mul_comm 8 w] at this
        exact this
      refine br_f (nI_ge (by omega) (by omega)) ⟨?_, ts_v (by omega), nm_r (e' := ts_cp a_row (fun i => a_spelled (w * 8 + i)) (i + 1)) ?_ (nm_r (nI_1 i) (ih (i + 1) (by omega)))⟩
      · rw [e3]; exact ts_v (by omega)
      · rw [e3, nI_clamp (by omega), nI_clamp (by omega)]
        exact ts_cp_s _ (fun i => a_spelled (w * 8 + i)) _
  have := H m 0 (by omega)
  rw [ts_cp_0] at this
  exact ⟨ts_v hw, nm_r (by rw [hc, e]) ⟨_, this⟩⟩
def ty_TJ : Type := Int32 → Int32 → (Nat → Int32) → (Nat → Int32) → (Nat → Int32) → (Nat → Int32) → (Nat → Int32) → (Nat → Int32) → (Nat → Int32) → (Nat → Int32) → (Nat → Int32) → (Nat → Int32) → (Nat → Int32) → (Nat → Int32) → (Nat → Int32) → (Nat → Int32) → (Nat → Int32) → (Nat → Int32) → (Nat → Int32) → Prop
theorem ty_mp0 {post : SY → Prop} {J J2 : ty_TJ} {x1 : Int32} {q i : Nat} {z : Int32} (hq : q < 12) (hi : i < 12) (ez : a_parts i = z) (h : J2 (nI (q + 1)) (nI (i + 1)) a_counts a_sizes a_spelled a_lefts a_rights a_prices a_lengths a_letters a_text a_result a_row (upd a_parts q z) a_sums a_numbers a_splits a_tried a_begins) : wY_merge_105 post J J2 x1 (nI q) (nI i) f_words f_tokens f_textSize f_resultSize f_rowSize f_barred f_made f_kept a_counts a_sizes a_spelled a_lefts a_rights a_prices a_lengths a_letters a_text a_result a_row a_parts a_sums a_numbers a_splits a_tried a_begins := by
  subst ez
  have e1 : upd a_parts (nI q).toNatClampNeg (a_parts (nI i).toNatClampNeg) = upd a_parts q (a_parts i) := by
    rw [nI_clamp (by omega), nI_clamp (by omega)]
  exact br_t rfl ⟨ts_v hi, ts_v hq, nm_r e1 (nm_r (nI_1 q) (br_t rfl (nm_r (nI_1 i) h)))⟩
theorem ty_mp1 {post : SY → Prop} {J J2 : ty_TJ} {x1 : Int32} {q i : Nat} (hq : q < 12) (hi : i < 12) (h : J2 (nI (q + 1)) (nI (i + 2)) a_counts a_sizes a_spelled a_lefts a_rights a_prices a_lengths a_letters a_text a_result a_row (upd a_parts q x1) a_sums a_numbers a_splits a_tried a_begins) : wY_merge_106 post J J2 x1 (nI q) (nI i) 1 f_words f_tokens f_textSize f_resultSize f_rowSize f_barred f_made f_kept a_counts a_sizes a_spelled a_lefts a_rights a_prices a_lengths a_letters a_text a_result a_row a_parts a_sums a_numbers a_splits a_tried a_begins := by
  have e1 : upd a_parts (nI q).toNatClampNeg x1 = upd a_parts q x1 := by
    rw [nI_clamp (by omega)]
  have n10 : ¬ (1 : Int32) = 0 := by decide
  exact br_f n10 ⟨ts_v hq, nm_r e1 (nm_r (nI_1 q) (br_f n10 (nm_r (nI_add i 2) h)))⟩
theorem ty_merge51 {post : SY → Prop} {J : ty_TJ} {t : Nat} {lf rg : Nat → Nat} {L : List Nat} (ht : t < 20) (hL : L.length ≤ 12) (hLe : ∀ e ∈ L, e < 20) (hlf : lf t < 20) (hrg : rg t < 20) (h0 : ts_Hd a_parts L)
    (h : ∀ a, ts_Hd a (ts_mg (lf t) (rg t) t L) → J (nI (t + 1)) (nI (ts_mg (lf t) (rg t) t L).length) a_counts a_sizes a_spelled (ts_F lf) (ts_F rg) a_prices a_lengths a_letters a_text a_result a_row a a_sums a_numbers a_splits a_tried a_begins) :
    ∃ n, wY_merge_51 post J (nI t) f_words f_tokens f_textSize f_resultSize f_rowSize f_barred (nI L.length) f_kept n 0 0 a_counts a_sizes a_spelled (ts_F lf) (ts_F rg) a_prices a_lengths a_letters a_text a_result a_row a_parts a_sums a_numbers a_splits a_tried a_begins := by
  have hct : (nI t).toNatClampNeg = t := nI_clamp (by omega)
  have H : ∀ d i, i + d = L.length → ∀ fuel, d < fuel → ∀ (a : Nat → Int32) (out : List Nat), out.length ≤ i → ts_Hd a out → (∀ j e, i ≤ j → L[j]? = some e → a j = nI e) → out ++ ts_mg (lf t) (rg t) t (L.drop i) = ts_mg (lf t) (rg t) t L →
      wY_merge_51 post J (nI t) f_words f_tokens f_textSize f_resultSize f_rowSize f_barred (nI L.length) f_kept fuel (nI out.length) (nI i) a_counts a_sizes a_spelled (ts_F lf) (ts_F rg) a_prices a_lengths a_letters a_text a_result a_row a a_sums a_numbers a_splits a_tried a_begins := by
    intro d
    induction d using Nat.strongRecOn with
    | ind d ih =>
      intro i hi fuel hf a out ho ha hr hfin
      obtain ⟨fuel, rfl⟩ : ∃ g, fuel = g + 1 := ⟨fuel - 1, by omega⟩
      by_cases z : i = L.length
      · have e1 : ts_mg (lf t) (rg t) t (L.drop i) = [] := by rw [List.drop_eq_nil_of_le (by omega)]; simp only [ts_mg]
        rw [e1, List.append_nil] at hfin
        refine br_t (nI_le (by omega) (by omega)) (nm_r (nI_1 t) ?_)
        rw [hfin]
        exact h a (by rw [← hfin]; exact ha)
      · refine br_f (nI_ge (by omega) (by omega)) ?_
        obtain ⟨x, hx⟩ := ts_get (l := L) (i := i) (by omega)
        have hxl : x < 20 := hLe x (List.mem_of_getElem? hx)
        have hax : a i = nI x := hr i x (Nat.le_refl i) hx
        have hci : (nI i).toNatClampNeg = i := nI_clamp (by omega)
        have e1 : nI i + 1 = nI (i + 1) := nI_1 i
        have hns : ts_mg (lf t) (rg t) t (L.drop i) = x :: ts_mg (lf t) (rg t) t (L.drop (i + 1)) → wY_merge_105 post J (wY_merge_51 post J (nI t) f_words f_tokens f_textSize f_resultSize f_rowSize f_barred (nI L.length) f_kept fuel) (nI t) (nI out.length) (nI i) f_words f_tokens f_textSize f_resultSize f_rowSize f_barred (nI L.length) f_kept a_counts a_sizes a_spelled (ts_F lf) (ts_F rg) a_prices a_lengths a_letters a_text a_result a_row a a_sums a_numbers a_splits a_tried a_begins := by
          intro hm
          refine ty_mp0 (by omega) (by omega) hax ?_
          have := ih (d - 1) (by omega) (i + 1) (by omega) fuel (by omega) (upd a out.length (nI x)) (out ++ [x]) (by rw [List.length_append]; simp only [List.length_cons, List.length_nil]; omega) (ts_Hd_snoc ha) (fun j e hj he => by rw [pk_un (by omega)]; exact hr j e (by omega) he) (by rw [List.append_assoc, ← hfin, hm]; rfl)
          rw [List.length_append] at this
          exact this
        by_cases z2 : i + 1 = L.length
        · refine br_t ?_ (hns ?_)
          · rw [e1]; exact nI_le (by omega) (by omega)
          · rw [ts_drop hx, List.drop_eq_nil_of_le (by omega)]; simp only [ts_mg]
        · obtain ⟨y, hy⟩ := ts_get (l := L) (i := i + 1) (by omega)
          have hyl : y < 20 := hLe y (List.mem_of_getElem? hy)
          have hay : a (i + 1) = nI y := hr (i + 1) y (by omega) hy
          have hci1 : (nI i + 1).toNatClampNeg = i + 1 := by rw [e1]; exact nI_clamp (by omega)
          have hv1 : vp_in (nI i + 1) 12 := by rw [e1]; exact ts_v (by omega)
          refine br_f (by rw [e1]; exact nI_ge (by omega) (by omega)) ⟨ts_v (by omega), ts_v ht, ?_⟩
          by_cases c1 : x = lf t
          · refine br_t (by rw [hci, hct, hax, c1]; rfl) ⟨hv1, ts_v ht, ?_⟩
            by_cases c2 : y = rg t
            · refine br_t (by rw [hci1, hct, hay, c2]; rfl) ?_
              refine ty_mp1 (by omega) (by omega) ?_
              have := ih (d - 2) (by omega) (i + 2) (by omega) fuel (by omega) (upd a out.length (nI t)) (out ++ [t]) (by rw [List.length_append]; simp only [List.length_cons, List.length_nil]; omega) (ts_Hd_snoc ha) (fun j e hj he => by rw [pk_un (by omega)]; exact hr j e (by omega) he) (by
                  rw [List.append_assoc, ← hfin, ts_drop hx, ts_drop hy]
                  simp only [ts_mg]
                  rw [if_pos ⟨c1, c2⟩]
                  rfl)
              rw [List.length_append] at this
              exact this
            · refine br_f (fun z => ?_) (hns ?_)
              · rw [hci1, hct, hay] at z
                exact c2 ((nI_eq (by omega) (by omega)).mp z)
              · rw [ts_drop hx, ts_drop hy]
                simp only [ts_mg]
                rw [if_neg (fun q => c2 q.2)]
          · refine br_f (fun z => ?_) (hns ?_)
            · rw [hci, hct, hax] at z
              exact c1 ((nI_eq (by omega) (by omega)).mp z)
            · rw [ts_drop hx, ts_drop hy]
              simp only [ts_mg]
              rw [if_neg (fun q => c1 q.1)]
  exact ⟨L.length + 1, H L.length 0 (by omega) _ (by omega) a_parts [] (Nat.le_refl 0) (ts_Hd_nil _) (fun j e _ he => h0 j e he) rfl⟩
theorem ty_merge39 {post : SY → Prop} {T : Nat} {lf rg : Nat → Nat} {l0 : List Nat} (hT : T ≤ 20) (hl0 : l0.length ≤ 12) (he0 : ∀ e ∈ l0, e < 6) (hlf : ∀ t, lf t < 20) (hrg : ∀ t, rg t < 20)
    (h : ∀ a, ts_Hd a (ts_mi lf rg l0 (T - 6)) → post (f_words, nI T, f_textSize, f_resultSize, f_rowSize, f_barred, nI (ts_mi lf rg l0 (T - 6)).length, f_kept, a_counts, a_sizes, a_spelled, ts_F lf, ts_F rg, a_prices, a_lengths, a_letters, a_text, a_result, a_row, a, a_sums, a_numbers, a_splits, a_tried, a_begins)) :
    ∀ d k, 6 + k + d = T → ∀ a, ts_Hd a (ts_mi lf rg l0 k) → wY_merge_39 post f_words (nI T) f_textSize f_resultSize f_rowSize f_barred f_kept (d + 1) (nI (6 + k)) (nI (ts_mi lf rg l0 k).length) a_counts a_sizes a_spelled (ts_F lf) (ts_F rg) a_prices a_lengths a_letters a_text a_result a_row a a_sums a_numbers a_splits a_tried a_begins := by
  intro d
  induction d with
  | zero =>
    intro k hk a ha
    have e : k = T - 6 := by omega
    subst e
    exact br_t (nI_le (by omega) (by omega)) (h a ha)
  | succ d ih =>
    intro k hk a ha
    refine br_f (nI_ge (by omega) (by omega)) ?_
    refine ty_merge51 (by omega) (Nat.le_trans (ts_mi_len lf rg l0 k) hl0) (fun e he => ?_) (hlf _) (hrg _) ha ?_
    · have := ts_mi_lt lf rg l0 he0 k e he
      omega
    · intro a' ha'
      exact ih (k + 1) (by omega) a' ha'
theorem ty_merge {post : SY → Prop} {T n : Nat} {lf rg r : Nat → Nat} (hT6 : 6 ≤ T) (hT : T ≤ 20) (hn : n ≤ 12) (hr : ∀ i, r i < 6) (hrow : ∀ i, i < n → a_row i = nI (r i)) (hlf : ∀ t, lf t < 20) (hrg : ∀ t, rg t < 20)
    (h : ∀ a, ts_Hd a (ts_mi lf rg (ts_rw r n) (T - 6)) → post (f_words, nI T, f_textSize, f_resultSize, nI n, f_barred, nI (ts_mi lf rg (ts_rw r n) (T - 6)).length, f_kept, a_counts, a_sizes, a_spelled, ts_F lf, ts_F rg, a_prices, a_lengths, a_letters, a_text, a_result, a_row, a, a_sums, a_numbers, a_splits, a_tried, a_begins)) :
    wpY_merge post (f_words, nI T, f_textSize, f_resultSize, nI n, f_barred, f_made, f_kept, a_counts, a_sizes, a_spelled, ts_F lf, ts_F rg, a_prices, a_lengths, a_letters, a_text, a_result, a_row, a_parts, a_sums, a_numbers, a_splits, a_tried, a_begins) := by
  have H : ∀ d i, i + d = n → wY_merge_10 post f_words (nI T) f_textSize f_resultSize (nI n) f_barred (nI n) f_kept (d + 1) (nI i) a_counts a_sizes a_spelled (ts_F lf) (ts_F rg) a_prices a_lengths a_letters a_text a_result a_row (ts_cp a_parts a_row i) a_sums a_numbers a_splits a_tried a_begins := by
    intro d
    induction d with
    | zero =>
      intro i hi
      have e : i = n := by omega
      subst e
      refine br_t (nI_le (Nat.le_refl i) (by omega)) ?_
      have hd : ts_Hd (ts_cp a_parts a_row i) (ts_mi lf rg (ts_rw r i) 0) := by
        intro j e he
        rw [show ts_mi lf rg (ts_rw r i) 0 = ts_rw r i from rfl, ts_rw_get] at he
        by_cases z : j < i
        · rw [if_pos z] at he
          cases he
          rw [ts_cp_lt z]
          exact hrow j z
        · rw [if_neg z] at he
          cases he
      have := ty_merge39 (post := post) (T := T) (lf := lf) (rg := rg) (l0 := ts_rw r i) hT (by rw [ts_rw_len]; exact hn) (fun e he => by obtain ⟨q, _, rfl⟩ := ts_rw_mem he; exact hr q) hlf hrg h (T - 6) 0 (by omega) _ hd
      rw [show (ts_mi lf rg (ts_rw r i) 0).length = i from ts_rw_len r i] at this
      exact ⟨_, this⟩
    | succ d ih =>
      intro i hi
      refine br_f (nI_ge (by omega) (by omega)) ⟨ts_v (by omega), ts_v (by omega), nm_r (e' := ts_cp a_parts a_row (i + 1)) ?_ (nm_r (nI_1 i) (ih (i + 1) (by omega)))⟩
      rw [nI_clamp (by omega)]
      exact ts_cp_s _ _ _
  have := H n 0 (by omega)
  rw [ts_cp_0] at this
  exact ⟨_, this⟩
def ty_TJ2 : Type := Int32 → Int32 → Int32 → Int32 → Int32 → Int32 → Int32 → Int32 → Int32 → Int32 → (Nat → Int32) → (Nat → Int32) → (Nat → Int32) → (Nat → Int32) → (Nat → Int32) → (Nat → Int32) → (Nat → Int32) → (Nat → Int32) → (Nat → Int32) → (Nat → Int32) → (Nat → Int32) → (Nat → Int32) → (Nat → Int32) → (Nat → Int32) → (Nat → Int32) → (Nat → Int32) → (Nat → Int32) → Prop
theorem ty_fq27 {post : Int32 → SY → Prop} {J : ty_TJ2} {w x y : Nat} {s : Int32} {L : List Nat} (hw : w < 12) (hx : x < 20) (hy : y < 20) (hL : L.length ≤ 12) (hLe : ∀ e ∈ L, e < 20) (h0 : ts_Hd a_parts L)
    (h : J (s + ts_am (a_counts w) L x y (L.length - 1)) (nI (w + 1)) f_words f_tokens f_textSize f_resultSize f_rowSize f_barred (nI L.length) f_kept a_counts a_sizes a_spelled a_lefts a_rights a_prices a_lengths a_letters a_text a_result a_row a_parts a_sums a_numbers a_splits a_tried a_begins) :
    ∃ n, wY_frequencyOf_27 post J (nI x) (nI y) (nI w) f_words f_tokens f_textSize f_resultSize f_rowSize f_barred (nI L.length) f_kept a_counts a_sizes a_spelled a_lefts a_rights a_prices a_lengths a_letters a_text a_result a_row a_parts a_sums a_numbers a_splits a_tried a_begins n s 0 := by
  have hcw : (nI w).toNatClampNeg = w := nI_clamp (by omega)
  have H : ∀ d i, i + 1 + d = max L.length 1 → wY_frequencyOf_27 post J (nI x) (nI y) (nI w) f_words f_tokens f_textSize f_resultSize f_rowSize f_barred (nI L.length) f_kept a_counts a_sizes a_spelled a_lefts a_rights a_prices a_lengths a_letters a_text a_result a_row a_parts a_sums a_numbers a_splits a_tried a_begins (d + 1) (s + ts_am (a_counts w) L x y i) (nI i) := by
    intro d
    induction d with
    | zero =>
      intro i hi
      rw [show L.length - 1 = i by omega] at h
      exact br_t (by rw [nI_1]; exact nI_le (by omega) (by omega)) (nm_r (nI_1 w) h)
    | succ d ih =>
      intro i hi
      obtain ⟨a, ha⟩ := ts_get (l := L) (i := i) (by omega)
      obtain ⟨b, hb⟩ := ts_get (l := L) (i := i + 1) (by omega)
      have hal : a < 20 := hLe a (List.mem_of_getElem? ha)
      have hbl : b < 20 := hLe b (List.mem_of_getElem? hb)
      have e0 : nI i + 1 = nI (i + 1) := nI_1 i
      have e1 : a_parts (nI i).toNatClampNeg = nI a := by rw [nI_clamp (by omega)]; exact h0 i a ha
      have e2 : a_parts (nI i + 1).toNatClampNeg = nI b := by rw [e0, nI_clamp (by omega)]; exact h0 (i + 1) b hb
      have ih' := ih (i + 1) (by omega)
      have ih2 : wY_frequencyOf_27 post J (nI x) (nI y) (nI w) f_words f_tokens f_textSize f_resultSize f_rowSize f_barred (nI L.length) f_kept a_counts a_sizes a_spelled a_lefts a_rights a_prices a_lengths a_letters a_text a_result a_row a_parts a_sums a_numbers a_splits a_tried a_begins (d + 1) (s + (ts_am (a_counts w) L x y i + (if L[i]? = some x ∧ L[i + 1]? = some y then a_counts w else 0))) (nI (i + 1)) := ih'
      refine br_f (by rw [e0]; exact nI_ge (by omega) (by omega)) ⟨ts_v (by omega), ?_⟩
      by_cases c1 : a = x
      · refine br_t (by rw [e1, c1]) ⟨by rw [e0]; exact ts_v (by omega), ?_⟩
        by_cases c2 : b = y
        · refine br_t (by rw [e2, c2]) ⟨ts_v hw, nm_r (e' := s + (ts_am (a_counts w) L x y i + a_counts w)) ?_ (nm_r e0 ?_)⟩
          · rw [hcw, Int32.add_assoc]
          · rw [if_pos ⟨by rw [ha, c1], by rw [hb, c2]⟩] at ih2
            exact ih2
        · refine br_f (fun z => ?_) (nm_r e0 ?_)
          · rw [e2] at z
            exact c2 ((nI_eq (by omega) (by omega)).mp z)
          · rw [if_neg (fun z => by rw [hb] at z; exact c2 (Option.some.inj z.2)), Int32.add_zero] at ih2
            exact ih2
      · refine br_f (fun z => ?_) (nm_r e0 ?_)
        · rw [e1] at z
          exact c1 ((nI_eq (by omega) (by omega)).mp z)
        · rw [if_neg (fun z => by rw [ha] at z; exact c1 (Option.some.inj z.1)), Int32.add_zero] at ih2
          exact ih2
  have := H (max L.length 1 - 1) 0 (by omega)
  rw [show ts_am (a_counts w) L x y 0 = 0 from rfl, Int32.add_zero] at this
  exact ⟨_, this⟩
theorem ty_freq {post : Int32 → SY → Prop} {W T x y : Nat} {lf rg WL WS : Nat → Nat} (hx : x < 20) (hy : y < 20) (hW : W ≤ 12) (hT6 : 6 ≤ T) (hT : T ≤ 20) (hWL : ∀ i, WL i < 6) (hWS : ∀ i, WS i ≤ 8) (hlf : ∀ t, lf t < 20) (hrg : ∀ t, rg t < 20)
    (h : ∀ rl ms row md, post (ts_fq a_counts (ts_ML lf rg WL WS T) x y W) (nI W, nI T, f_textSize, f_resultSize, rl, f_barred, ms, f_kept, a_counts, ts_F WS, ts_F WL, ts_F lf, ts_F rg, a_prices, a_lengths, a_letters, a_text, a_result, row, md, a_sums, a_numbers, a_splits, a_tried, a_begins)) :
    wpY_frequencyOf post (nI W, nI T, f_textSize, f_resultSize, f_rowSize, f_barred, f_made, f_kept, a_counts, ts_F WS, ts_F WL, ts_F lf, ts_F rg, a_prices, a_lengths, a_letters, a_text, a_result, a_row, a_parts, a_sums, a_numbers, a_splits, a_tried, a_begins) (nI x) (nI y) := by
  have H2 : ∀ d w, w + d = W → ∀ rl ms row md, wY_frequencyOf_5 post (nI x) (nI y) (d + 1) (ts_fq a_counts (ts_ML lf rg WL WS T) x y w) (nI w) (nI W) (nI T) f_textSize f_resultSize rl f_barred ms f_kept a_counts (ts_F WS) (ts_F WL) (ts_F lf) (ts_F rg) a_prices a_lengths a_letters a_text a_result row md a_sums a_numbers a_splits a_tried a_begins := by
    intro d
    induction d with
    | zero =>
      intro w hw rl ms row md
      have e : w = W := by omega
      subst e
      exact br_t (nI_le (Nat.le_refl w) (by omega)) (h _ _ _ _)
    | succ d ih =>
      intro w hw rl ms row md
      have hs := hWS w
      refine br_f (nI_ge (by omega) (by omega)) ?_
      refine ty_takeWord (w := w) (m := WS w) (by omega) hs rfl ?_
      refine ty_merge (r := fun i => WL (w * 8 + i)) (n := WS w) hT6 hT (by omega) (fun i => hWL _) (fun i hi => ts_cp_lt hi) hlf hrg (fun a ha => ?_)
      have hl := ts_ML_len lf rg WL WS T w
      exact ty_fq27 (L := ts_ML lf rg WL WS T w) (by omega) hx hy (by omega) (fun e he => by have := ts_ML_lt w hT6 hWL e he; omega) ha (ih (w + 1) (by omega) _ _ _ _)
  exact ⟨_, H2 W 0 (by omega) _ _ _ _⟩
end
