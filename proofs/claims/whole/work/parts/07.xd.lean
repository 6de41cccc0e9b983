/-- the chain of slots from s on spells the list; slots from lo on -/
def ts_Rd (st sr : Nat → Int32) : List Nat → Nat → Nat → Prop
  | [], _, _ => True
  | t :: l, lo, s => lo ≤ s ∧ s < 78 ∧ st s = nI t ∧ ∃ s', sr s = nI s' ∧ ts_Rd st sr l (6 * (s / 6) + 6) s'
theorem ts_Rd_lo {st sr : Nat → Int32} (l : List Nat) {lo lo' s : Nat} (h : lo' ≤ lo) (hr : ts_Rd st sr l lo s) : ts_Rd st sr l lo' s := by
  cases l with
  | nil => exact True.intro
  | cons t l =>
    obtain ⟨a, b⟩ := hr
    exact ⟨by omega, b⟩
theorem ts_Rd_ag {st sr st' sr' : Nat → Int32} (l : List Nat) : ∀ lo s, (∀ j, lo ≤ j → st' j = st j ∧ sr' j = sr j) → ts_Rd st sr l lo s → ts_Rd st' sr' l lo s := by
  induction l with
  | nil => exact fun _ _ _ _ => True.intro
  | cons t l ih =>
    intro lo s h hr
    obtain ⟨a, b, c, s', d, e⟩ := hr
    refine ⟨a, b, by rw [(h s a).1]; exact c, s', by rw [(h s a).2]; exact d, ih _ _ (fun j hj => h j (by omega)) e⟩
theorem ts_Rd_mv {st sr st' sr' : Nat → Int32} {p : Nat} (l : List Nat) {j j' : Nat} (h1 : p * 6 ≤ j) (h2 : j < p * 6 + 6) (h3 : p * 6 ≤ j') (h4 : j' < p * 6 + 6) (hj : j' < 78) (e1 : st' j' = st j) (e2 : sr' j' = sr j) (h : ∀ i, p * 6 + 6 ≤ i → st' i = st i ∧ sr' i = sr i) (hr : ts_Rd st sr l (p * 6) j) : ts_Rd st' sr' l (p * 6) j' := by
  cases l with
  | nil => exact True.intro
  | cons t l =>
    obtain ⟨a, b, c, s', d, e⟩ := hr
    refine ⟨h3, hj, by rw [e1]; exact c, s', by rw [e2]; exact d, ?_⟩
    rw [show 6 * (j' / 6) + 6 = p * 6 + 6 by omega]
    rw [show 6 * (j / 6) + 6 = p * 6 + 6 by omega] at e
    exact ts_Rd_ag l _ _ h e
/-- the slots of place p hold the list of splits -/
def ts_GP (pr : Nat → Nat) (sk st sr : Nat → Int32) (p : Nat) (acc : List (List Nat)) : Prop :=
  ∀ i e, acc[i]? = some e → sk (p * 6 + i) = nI (ts_ky pr e) ∧ ts_Rd st sr e (p * 6) (p * 6 + i)
def ts_AG (pr : Nat → Nat) (acc : List (List Nat)) : Prop := acc.length ≤ 6 ∧ ts_Srt (ts_ky pr) acc ∧ ∀ e ∈ acc, e.length ≤ 12
theorem ts_AG_top {pr : Nat → Nat} {acc : List (List Nat)} {x : List Nat} (h : ts_AG pr acc) (hx : x.length ≤ 12) : ts_AG pr (ts_top (ts_ky pr) acc x) := by
  refine ⟨ts_top_len _ _, ts_top_srt _ h.2.1, fun e he => ?_⟩
  rcases ts_top_mem he with z | z
  · rw [z]; exact hx
  · exact h.2.2 e z
theorem ts_ky_b {pr : Nat → Nat} (hpr : ∀ t, pr t ≤ 99) {e : List Nat} (h : e.length ≤ 12) : ts_ky pr e < 20000 := by
  have := ts_sp_le hpr e
  unfold ts_ky
  omega
def ts_sh (f : Nat → Int32) (lo hi : Nat) : Nat → Int32 := fun j => if lo < j ∧ j ≤ hi then f (j - 1) else f j
theorem ts_sh_0 (f : Nat → Int32) (hi : Nat) : ts_sh f hi hi = f := by
  funext j
  exact if_neg (by omega)
theorem ts_sh_s (f : Nat → Int32) {i hi : Nat} (h : i + 1 ≤ hi) : upd (ts_sh f (i + 1) hi) (i + 1) (ts_sh f (i + 1) hi i) = ts_sh f i hi := by
  funext j
  unfold upd ts_sh
  by_cases z : j = i + 1
  · rw [if_pos z, if_neg (by omega), if_pos (by omega), z, Nat.add_sub_cancel]
  · rw [if_neg z]
    by_cases z2 : i + 1 < j ∧ j ≤ hi
    · rw [if_pos z2, if_pos (by omega)]
    · rw [if_neg z2, if_neg (by omega)]
/-- the slots after a shift and a store -/
theorem ts_GP_ins {pr : Nat → Nat} {sk st sr : Nat → Int32} {p c m s : Nat} {acc : List (List Nat)} {t : Nat} {l : List Nat} (hp : p ≤ 12) (hA : ts_AG pr acc) (hG : ts_GP pr sk st sr p acc) (hc : c ≤ acc.length) (hc6 : c < 6) (hm : m = min 6 (acc.length + 1))
    (e : ts_ins (ts_ky pr) acc (t :: l) = acc.take c ++ (t :: l) :: acc.drop c) (hs : ts_Rd st sr l (p * 6 + 6) s) :
    ts_GP pr (upd (ts_sh sk (p * 6 + c) (p * 6 + m - 1)) (p * 6 + c) (nI (ts_ky pr (t :: l)))) (upd (ts_sh st (p * 6 + c) (p * 6 + m - 1)) (p * 6 + c) (nI t)) (upd (ts_sh sr (p * 6 + c) (p * 6 + m - 1)) (p * 6 + c) (nI s)) p (ts_top (ts_ky pr) acc (t :: l)) := by
  obtain ⟨a1, a2, a3⟩ := hA
  have hag : ∀ i, p * 6 + 6 ≤ i → upd (ts_sh st (p * 6 + c) (p * 6 + m - 1)) (p * 6 + c) (nI t) i = st i ∧ upd (ts_sh sr (p * 6 + c) (p * 6 + m - 1)) (p * 6 + c) (nI s) i = sr i := by
    intro i hi
    rw [pk_un (by omega), pk_un (by omega)]
    unfold ts_sh
    rw [if_neg (by omega), if_neg (by omega)]
    exact ⟨rfl, rfl⟩
  intro i x hx
  unfold ts_top at hx
  rw [e, List.getElem?_take] at hx
  by_cases i6 : i < 6
  · rw [if_pos i6, ts_pos_get acc (t :: l) c i hc] at hx
    by_cases i1 : i < c
    · rw [if_pos i1] at hx
      obtain ⟨g1, g2⟩ := hG i x hx
      have es : ∀ f : Nat → Int32, ∀ z, upd (ts_sh f (p * 6 + c) (p * 6 + m - 1)) (p * 6 + c) z (p * 6 + i) = f (p * 6 + i) := by
        intro f z
        rw [pk_un (by omega)]
        exact if_neg (by omega)
      refine ⟨by rw [es]; exact g1, ts_Rd_mv (st := st) (sr := sr) x (j := p * 6 + i) (by omega) (by omega) (by omega) (by omega) (by omega) (es _ _) (es _ _) hag g2⟩
    · rw [if_neg i1] at hx
      by_cases i2 : i = c
      · rw [if_pos i2] at hx
        cases hx
        subst i2
        refine ⟨pk_us, by omega, by omega, pk_us, s, pk_us, ?_⟩
        rw [show 6 * ((p * 6 + i) / 6) + 6 = p * 6 + 6 by omega]
        exact ts_Rd_ag l _ _ hag hs
      · rw [if_neg i2] at hx
        have hlt : i - 1 < acc.length := by
          obtain ⟨q, _⟩ := List.getElem?_eq_some_iff.mp hx
          exact q
        obtain ⟨g1, g2⟩ := hG (i - 1) x hx
        have es : ∀ f : Nat → Int32, ∀ z, upd (ts_sh f (p * 6 + c) (p * 6 + m - 1)) (p * 6 + c) z (p * 6 + i) = f (p * 6 + (i - 1)) := by
          intro f z
          rw [pk_un (by omega)]
          unfold ts_sh
          rw [if_pos (by omega)]
          congr 1
          omega
        refine ⟨by rw [es]; exact g1, ts_Rd_mv (st := st) (sr := sr) x (j := p * 6 + (i - 1)) (by omega) (by omega) (by omega) (by omega) (by omega) (es _ _) (es _ _) hag g2⟩
  · rw [if_neg i6] at hx
    cases hx
/-- what an offer may change -/
def ts_FR (p : Nat) (sa sk st sr sa' sk' st' sr' : Nat → Int32) : Prop :=
  (∀ q, q ≠ p → sa' q = sa q) ∧ ∀ j, p * 6 + 6 ≤ j → sk' j = sk j ∧ st' j = st j ∧ sr' j = sr j
section
variable {f_words f_tokenCount f_textLength f_resultSize f_rowLength f_madeSize : Int32} {a_wordLetters a_wordLength a_wordCount a_leftOf a_rightOf a_priceOf a_spelling a_spellingLength a_text a_result a_row a_made a_pairFrequency a_waysFrom a_slotsAt a_slotKey a_slotToken a_slotRest : Nat → Int32}
theorem tx_offer104 {post : SX → Prop} {p c m t s kk : Nat} {sk st sr : Nat → Int32} (hp : p ≤ 12) (hcm : c < m) (hm : m ≤ 6)
    (h : post (f_words, f_tokenCount, f_textLength, f_resultSize, f_rowLength, f_madeSize, a_wordLetters, a_wordLength, a_wordCount, a_leftOf, a_rightOf, a_priceOf, a_spelling, a_spellingLength, a_text, a_result, a_row, a_made, a_pairFrequency, a_waysFrom, a_slotsAt, upd (ts_sh sk (p * 6 + c) (p * 6 + m - 1)) (p * 6 + c) (nI kk), upd (ts_sh st (p * 6 + c) (p * 6 + m - 1)) (p * 6 + c) (nI t), upd (ts_sh sr (p * 6 + c) (p * 6 + m - 1)) (p * 6 + c) (nI s))) :
    ∀ d i, c + d = i → i < m → wX_offerSplit_104 post (nI t) (nI s) (nI kk) (nI (p * 6)) (nI c) f_words f_tokenCount f_textLength f_resultSize f_rowLength f_madeSize (d + 1) (nI (p * 6 + i)) a_wordLetters a_wordLength a_wordCount a_leftOf a_rightOf a_priceOf a_spelling a_spellingLength a_text a_result a_row a_made a_pairFrequency a_waysFrom a_slotsAt (ts_sh sk (p * 6 + i) (p * 6 + m - 1)) (ts_sh st (p * 6 + i) (p * 6 + m - 1)) (ts_sh sr (p * 6 + i) (p * 6 + m - 1)) := by
  have e0 : nI (p * 6) + nI c = nI (p * 6 + c) := nI_add _ _
  have hv : vp_in (nI (p * 6) + nI c) 78 := by rw [e0]; exact ts_v (by omega)
  have ec : (nI (p * 6) + nI c).toNatClampNeg = p * 6 + c := by rw [e0]; exact nI_clamp (by omega)
  intro d
  induction d with
  | zero =>
    intro i hi him
    have e : i = c := by omega
    subst e
    exact br_t (by rw [e0]; exact nI_le (Nat.le_refl _) (by omega)) ⟨hv, nm_r (by rw [ec]) ⟨hv, nm_r (by rw [ec]) ⟨hv, nm_r (by rw [ec]) h⟩⟩⟩
  | succ d ih =>
    intro i hi him
    obtain ⟨q, rfl⟩ : ∃ q, i = q + 1 := ⟨i - 1, by omega⟩
    have e1 : nI (p * 6 + (q + 1)) - 1 = nI (p * 6 + q) := nI_pred (p * 6 + q)
    have e2 : (nI (p * 6 + (q + 1)) - 1).toNatClampNeg = p * 6 + q := by rw [e1]; exact nI_clamp (by omega)
    have e3 : (nI (p * 6 + (q + 1))).toNatClampNeg = p * 6 + q + 1 := nI_clamp (by omega)
    have v1 : vp_in (nI (p * 6 + (q + 1)) - 1) 78 := by rw [e1]; exact ts_v (by omega)
    have v2 : vp_in (nI (p * 6 + (q + 1))) 78 := ts_v (by omega)
    have es : ∀ f : Nat → Int32, upd (ts_sh f (p * 6 + (q + 1)) (p * 6 + m - 1)) (nI (p * 6 + (q + 1))).toNatClampNeg (ts_sh f (p * 6 + (q + 1)) (p * 6 + m - 1) (nI (p * 6 + (q + 1)) - 1).toNatClampNeg) = ts_sh f (p * 6 + q) (p * 6 + m - 1) := by
      intro f
      rw [e2, e3]
      exact ts_sh_s f (i := p * 6 + q) (hi := p * 6 + m - 1) (by omega)
    exact br_f (by rw [e0]; exact nI_ge (by omega) (by omega)) ⟨v1, v2, nm_r (es sk) ⟨v1, v2, nm_r (es st) ⟨v1, v2, nm_r (es sr) (nm_r (pk_m1 (p * 6 + q)) (ih q (by omega) (by omega)))⟩⟩⟩
theorem tx_offer62 {post : SX → Prop} {p c t s : Nat} {pr : Nat → Nat} {acc : List (List Nat)} {l : List Nat} (hp : p ≤ 12) (hpr : ∀ t, pr t ≤ 99) (hA : ts_AG pr acc) (hG : ts_GP pr a_slotKey a_slotToken a_slotRest p acc) (hsa : a_slotsAt p = nI acc.length) (hc : c ≤ acc.length)
    (e : ts_ins (ts_ky pr) acc (t :: l) = acc.take c ++ (t :: l) :: acc.drop c) (hs : ts_Rd a_slotToken a_slotRest l (p * 6 + 6) s)
    (h : ∀ sa sk st sr, sa p = nI (ts_top (ts_ky pr) acc (t :: l)).length → ts_FR p a_slotsAt a_slotKey a_slotToken a_slotRest sa sk st sr → ts_GP pr sk st sr p (ts_top (ts_ky pr) acc (t :: l)) → post (f_words, f_tokenCount, f_textLength, f_resultSize, f_rowLength, f_madeSize, a_wordLetters, a_wordLength, a_wordCount, a_leftOf, a_rightOf, a_priceOf, a_spelling, a_spellingLength, a_text, a_result, a_row, a_made, a_pairFrequency, a_waysFrom, sa, sk, st, sr)) :
    wX_offerSplit_62 post (nI p) (nI t) (nI s) (nI (ts_ky pr (t :: l))) (nI (p * 6)) (nI c) f_words f_tokenCount f_textLength f_resultSize f_rowLength f_madeSize a_wordLetters a_wordLength a_wordCount a_leftOf a_rightOf a_priceOf a_spelling a_spellingLength a_text a_result a_row a_made a_pairFrequency a_waysFrom a_slotsAt a_slotKey a_slotToken a_slotRest := by
  have ep : (nI p).toNatClampNeg = p := nI_clamp (by omega)
  have al := hA.1
  have tl : (ts_top (ts_ky pr) acc (t :: l)).length = min 6 (acc.length + 1) := by
    unfold ts_top
    rw [List.length_take, ts_ins_len]
  by_cases c6 : c < 6
  · refine br_t (nI_lt (b := 6) c6 (by decide)) ⟨ts_v (by omega), ?_⟩
    have fin : ∀ sa : Nat → Int32, sa p = nI (min 6 (acc.length + 1)) → (∀ q, q ≠ p → sa q = a_slotsAt q) → wX_offerSplit_91 post (nI p) (nI t) (nI s) (nI (ts_ky pr (t :: l))) (nI (p * 6)) (nI c) f_words f_tokenCount f_textLength f_resultSize f_rowLength f_madeSize a_wordLetters a_wordLength a_wordCount a_leftOf a_rightOf a_priceOf a_spelling a_spellingLength a_text a_result a_row a_made a_pairFrequency a_waysFrom sa a_slotKey a_slotToken a_slotRest := by
      intro sa h1 h2
      have := tx_offer104 (post := post) (p := p) (c := c) (m := min 6 (acc.length + 1)) (t := t) (s := s) (kk := ts_ky pr (t :: l)) (a_slotsAt := sa) (sk := a_slotKey) (st := a_slotToken) (sr := a_slotRest) hp (by omega) (by omega) (h _ _ _ _ (by rw [tl]; exact h1) ⟨h2, fun j hj => ?_⟩ (ts_GP_ins hp hA hG hc c6 rfl e hs)) (min 6 (acc.length + 1) - 1 - c) (min 6 (acc.length + 1) - 1) (by omega) (by omega)
      · rw [show p * 6 + (min 6 (acc.length + 1) - 1) = p * 6 + min 6 (acc.length + 1) - 1 by omega, ts_sh_0, ts_sh_0, ts_sh_0] at this
        refine ⟨ts_v (by omega), nm_r (e' := nI (p * 6 + min 6 (acc.length + 1) - 1)) ?_ ⟨_, this⟩⟩
        rw [ep, h1, nI_add, ts_sub1 (by omega)]
      · rw [pk_un (by omega), pk_un (by omega), pk_un (by omega)]
        unfold ts_sh
        rw [if_neg (by omega), if_neg (by omega), if_neg (by omega)]
        exact ⟨rfl, rfl, rfl⟩
    by_cases f6 : acc.length = 6
    · refine br_t (by rw [ep, hsa, f6]; decide) (fin a_slotsAt ?_ (fun q _ => rfl))
      rw [hsa, f6]
      rfl
    · refine br_f (by rw [ep, hsa]; exact nI_ge (b := 6) (by omega) (by decide)) ⟨ts_v (by omega), ts_v (by omega), nm_r (e' := upd a_slotsAt p (nI (acc.length + 1))) ?_ (fin _ ?_ (fun q hq => pk_un hq))⟩
      · rw [ep, hsa, nI_1]
      · rw [pk_us]
        congr 1
        omega
  · have c6' : c = 6 := by omega
    have l6 : acc.length = 6 := by omega
    have et : ts_top (ts_ky pr) acc (t :: l) = acc := by
      unfold ts_top
      rw [e, c6', ← l6, List.take_length, List.take_left]
    rw [et] at h
    refine br_f (by rw [c6']; decide) (h _ _ _ _ hsa ⟨fun _ _ => rfl, fun _ _ => ⟨rfl, rfl, rfl⟩⟩ hG)
theorem tx_offerSplit {post : SX → Prop} {p t s : Nat} {pr : Nat → Nat} {acc : List (List Nat)} {l : List Nat} (hp : p ≤ 12) (ht : t < 20) (hs78 : s < 78) (hl : l.length ≤ 11) (hpr : ∀ t, pr t ≤ 99) (hA : ts_AG pr acc) (hG : ts_GP pr a_slotKey a_slotToken a_slotRest p acc) (hsa : a_slotsAt p = nI acc.length)
    (hk : a_slotKey s = nI (ts_ky pr l)) (hs : ts_Rd a_slotToken a_slotRest l (p * 6 + 6) s)
    (h : ∀ sa sk st sr, sa p = nI (ts_top (ts_ky pr) acc (t :: l)).length → ts_FR p a_slotsAt a_slotKey a_slotToken a_slotRest sa sk st sr → ts_GP pr sk st sr p (ts_top (ts_ky pr) acc (t :: l)) → post (f_words, f_tokenCount, f_textLength, f_resultSize, f_rowLength, f_madeSize, a_wordLetters, a_wordLength, a_wordCount, a_leftOf, a_rightOf, ts_F pr, a_spelling, a_spellingLength, a_text, a_result, a_row, a_made, a_pairFrequency, a_waysFrom, sa, sk, st, sr)) :
    wpX_offerSplit post (f_words, f_tokenCount, f_textLength, f_resultSize, f_rowLength, f_madeSize, a_wordLetters, a_wordLength, a_wordCount, a_leftOf, a_rightOf, ts_F pr, a_spelling, a_spellingLength, a_text, a_result, a_row, a_made, a_pairFrequency, a_waysFrom, a_slotsAt, a_slotKey, a_slotToken, a_slotRest) (nI p) (nI t) (nI s) := by
  have ep : (nI p).toNatClampNeg = p := nI_clamp (by omega)
  have al := hA.1
  have kb : ts_ky pr (t :: l) < 20000 := ts_ky_b hpr (by rw [List.length_cons]; omega)
  have H : ∀ c, c ≤ acc.length → (∀ j e, c ≤ j → acc[j]? = some e → ts_ky pr (t :: l) < ts_ky pr e) → wX_offerSplit_34 post (nI p) (nI t) (nI s) (nI (ts_ky pr (t :: l))) (nI (p * 6)) f_words f_tokenCount f_textLength f_resultSize f_rowLength f_madeSize a_wordLetters a_wordLength a_wordCount a_leftOf a_rightOf (ts_F pr) a_spelling a_spellingLength a_text a_result a_row a_made a_pairFrequency a_waysFrom a_slotsAt a_slotKey a_slotToken a_slotRest (c + 1) (nI c) := by
    intro c
    induction c with
    | zero =>
      intro h0 hj
      refine br_t (by decide) (tx_offer62 hp hpr hA hG hsa h0 (ts_pos acc (t :: l) 0 hA.2.1 h0 hj (fun e z => absurd z (by omega))) hs h)
    | succ c ih =>
      intro h0 hj
      obtain ⟨x, hx⟩ : ∃ x, acc[c]? = some x := ⟨acc[c]'(by omega), List.getElem?_eq_getElem (by omega)⟩
      have xm : x ∈ acc := List.mem_of_getElem? hx
      have xb : ts_ky pr x < 20000 := ts_ky_b hpr (hA.2.2 x xm)
      have e1 : nI (p * 6) + nI (c + 1) - 1 = nI (p * 6 + c) := by
        rw [nI_add]
        exact nI_pred (p * 6 + c)
      have e2 : a_slotKey (nI (p * 6) + nI (c + 1) - 1).toNatClampNeg = nI (ts_ky pr x) := by
        rw [e1, nI_clamp (by omega)]
        exact (hG c x hx).1
      refine br_f (nI_nle (by omega) (by omega)) ⟨by rw [e1]; exact ts_v (by omega), ?_⟩
      by_cases z : ts_ky pr x ≤ ts_ky pr (t :: l)
      · refine br_t (by rw [e2]; exact nI_le z (by omega)) (tx_offer62 hp hpr hA hG hsa h0 (ts_pos acc (t :: l) (c + 1) hA.2.1 h0 hj (fun e _ he => ?_)) hs h)
        rw [Nat.add_sub_cancel, hx] at he
        cases he
        exact z
      · refine br_f (by rw [e2]; exact nI_ge (by omega) (by omega)) (nm_r (pk_m1 c) (ih (by omega) (fun j e hj' he => ?_)))
        by_cases q : j = c
        · rw [q, hx] at he
          cases he
          omega
        · exact hj j e (by omega) he
  refine ⟨ts_v hs78, ts_v ht, nm_r (e' := nI (ts_ky pr (t :: l))) ?_ (nm_r (pk_mul p 6) ⟨ts_v (by omega), nm_r (e' := nI acc.length) ?_ ⟨_, H acc.length (Nat.le_refl _) (fun j e hj he => ?_)⟩⟩)⟩
  · rw [nI_clamp (by omega), nI_clamp (by omega), hk]
    show nI (ts_ky pr l) + nI (pr t) * nI 16 + 1 = _
    rw [pk_mul, nI_add, nI_1, ts_ky_cons]
  · rw [ep, hsa]
  · obtain ⟨q, _⟩ := List.getElem?_eq_some_iff.mp he
    omega
end
