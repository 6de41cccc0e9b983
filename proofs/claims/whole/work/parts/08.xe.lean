/-- the slots of places p and on hold the table -/
def ts_SI (pr : Nat → Nat) (K : Nat → List (List Nat)) (n p : Nat) (sa sk st sr : Nat → Int32) : Prop :=
  ∀ q, p ≤ q → q ≤ n → sa q = nI (K q).length ∧ ts_GP pr sk st sr q (K q)
theorem ts_GP_ag {pr : Nat → Nat} {sk st sr sk' st' sr' : Nat → Int32} {q : Nat} {acc : List (List Nat)} (h : ∀ j, q * 6 ≤ j → sk' j = sk j ∧ st' j = st j ∧ sr' j = sr j) (hG : ts_GP pr sk st sr q acc) : ts_GP pr sk' st' sr' q acc := by
  intro i e he
  obtain ⟨a, b⟩ := hG i e he
  exact ⟨by rw [(h _ (by omega)).1]; exact a, ts_Rd_ag e _ _ (fun j hj => (h j hj).2) b⟩
theorem ts_SI_ag {pr : Nat → Nat} {K : Nat → List (List Nat)} {n p : Nat} {sa sk st sr sa' sk' st' sr' : Nat → Int32} (h : ts_FR p sa sk st sr sa' sk' st' sr') (hS : ts_SI pr K n (p + 1) sa sk st sr) : ts_SI pr K n (p + 1) sa' sk' st' sr' := by
  intro q hq hqn
  obtain ⟨a, b⟩ := hS q hq hqn
  exact ⟨by rw [h.1 q (by omega)]; exact a, ts_GP_ag (fun j hj => h.2 j (by omega)) b⟩
section
variable {f_words f_tokenCount f_textLength f_resultSize f_rowLength f_madeSize : Int32} {a_wordLetters a_wordLength a_wordCount a_leftOf a_rightOf a_priceOf a_spelling a_spellingLength a_text a_result a_row a_made a_pairFrequency a_waysFrom a_slotsAt a_slotKey a_slotToken a_slotRest : Nat → Int32}
theorem tx_offerSplits {post : SX → Prop} {T n p t : Nat} {F : Nat → Nat → Bool} {ln pr : Nat → Nat} {K : Nat → List (List Nat)} {acc fin : List (List Nat)} (hn : n ≤ 12) (hp : p < n) (ht : t < 20) (hl1 : 1 ≤ ln t) (hlt : p + ln t ≤ n) (hpr : ∀ t, pr t ≤ 99) (hFB : ts_FB F ln T n) (hK : ts_TK F ln pr T n K)
    (hA : ts_AG pr acc) (hG : ts_GP pr a_slotKey a_slotToken a_slotRest p acc) (hsa : a_slotsAt p = nI acc.length) (hS : ts_SI pr K n (p + 1) a_slotsAt a_slotKey a_slotToken a_slotRest)
    (hfin : ((K (p + ln t)).map (fun r => t :: r)).foldl (ts_top (ts_ky pr)) acc = fin)
    (h : ∀ sa sk st sr, ts_AG pr fin → sa p = nI fin.length → ts_GP pr sk st sr p fin → ts_SI pr K n (p + 1) sa sk st sr → post (f_words, f_tokenCount, f_textLength, f_resultSize, f_rowLength, f_madeSize, a_wordLetters, a_wordLength, a_wordCount, a_leftOf, a_rightOf, ts_F pr, a_spelling, ts_F ln, a_text, a_result, a_row, a_made, a_pairFrequency, a_waysFrom, sa, sk, st, sr)) :
    wpX_offerSplits post (f_words, f_tokenCount, f_textLength, f_resultSize, f_rowLength, f_madeSize, a_wordLetters, a_wordLength, a_wordCount, a_leftOf, a_rightOf, ts_F pr, a_spelling, ts_F ln, a_text, a_result, a_row, a_made, a_pairFrequency, a_waysFrom, a_slotsAt, a_slotKey, a_slotToken, a_slotRest) (nI p) (nI t) := by
  have kg := ts_K_good hFB hK (n - (p + ln t)) (p + ln t) (by omega)
  have H : ∀ d j, j + d = (K (p + ln t)).length → ∀ acc sa sk st sr, ts_AG pr acc → ts_GP pr sk st sr p acc → sa p = nI acc.length → ts_SI pr K n (p + 1) sa sk st sr → (((K (p + ln t)).drop j).map (fun r => t :: r)).foldl (ts_top (ts_ky pr)) acc = fin →
      wX_offerSplits_20 post (nI p) (nI t) (nI (p + ln t)) (nI (K (p + ln t)).length) (d + 1) (nI j) f_words f_tokenCount f_textLength f_resultSize f_rowLength f_madeSize a_wordLetters a_wordLength a_wordCount a_leftOf a_rightOf (ts_F pr) a_spelling (ts_F ln) a_text a_result a_row a_made a_pairFrequency a_waysFrom sa sk st sr := by
    intro d
    induction d with
    | zero =>
      intro j hj acc sa sk st sr a1 a2 a3 a4 a5
      rw [List.drop_eq_nil_of_le (by omega)] at a5
      have a5' : acc = fin := a5
      subst a5'
      exact br_t (nI_le (by omega) (by omega)) (h _ _ _ _ a1 a3 a2 a4)
    | succ d ih =>
      intro j hj acc sa sk st sr a1 a2 a3 a4 a5
      have hjl : j < (K (p + ln t)).length := by omega
      obtain ⟨x, hx⟩ : ∃ x, (K (p + ln t))[j]? = some x := ⟨_, List.getElem?_eq_getElem hjl⟩
      have xg := kg.2.2 x (List.mem_of_getElem? hx)
      obtain ⟨s1, s2⟩ := a4 (p + ln t) (by omega) hlt
      obtain ⟨s3, s4⟩ := s2 j x hx
      have e1 : nI (p + ln t) * 6 + nI j = nI ((p + ln t) * 6 + j) := ts_ma 6 _ _
      have ed : (K (p + ln t)).drop j = x :: (K (p + ln t)).drop (j + 1) := by
        obtain ⟨q1, q2⟩ := List.getElem?_eq_some_iff.mp hx
        rw [List.drop_eq_getElem_cons q1, q2]
      rw [ed, List.map_cons, List.foldl_cons] at a5
      refine br_f (nI_ge (by omega) (by omega)) ?_
      rw [e1]
      refine tx_offerSplit (acc := acc) (l := x) (by omega) ht (by omega) (by omega) hpr a1 a2 a3 s3 (ts_Rd_lo x (by omega) s4) (fun sa' sk' st' sr' b1 b2 b3 => ?_)
      exact nm_r (nI_1 j) (ih (j + 1) (by omega) _ _ _ _ _ (ts_AG_top a1 (by rw [List.length_cons]; omega)) b3 b1 (ts_SI_ag b2 a4) a5)
  obtain ⟨s1, s2⟩ := hS (p + ln t) (by omega) hlt
  refine ⟨ts_v ht, nm_r (e' := nI (p + ln t)) ?_ ⟨ts_v (by omega), nm_r (e' := nI (K (p + ln t)).length) ?_ ⟨_, H (K (p + ln t)).length 0 (by omega) acc _ _ _ _ hA hG hsa hS hfin⟩⟩⟩
  · rw [nI_clamp (by omega)]
    exact nI_add p (ln t)
  · rw [nI_clamp (by omega), s1]
theorem tx_rankSplits {post : SX → Prop} {T n : Nat} {bx : Int32} {ln SP r pr : Nat → Nat} {K : Nat → List (List Nat)} (hE : ts_En T ln (fun t i => SP (t * 8 + i))) (hn : n ≤ 12) (hSP : ∀ j, SP j < 6) (hr : ∀ i, r i < 6) (hrow : ∀ i, i < n → a_row i = nI (r i)) (hpr : ∀ t, pr t ≤ 99)
    (hK : ts_TK (ts_fit bx ln (fun t i => SP (t * 8 + i)) r n) ln pr T n K)
    (h : ∀ sa sk st sr, ts_SI pr K n 0 sa sk st sr → post (f_words, nI T, f_textLength, f_resultSize, nI n, f_madeSize, a_wordLetters, a_wordLength, a_wordCount, a_leftOf, a_rightOf, ts_F pr, ts_F SP, ts_F ln, a_text, a_result, a_row, a_made, a_pairFrequency, a_waysFrom, sa, sk, st, sr)) :
    wpX_rankSplits post (f_words, nI T, f_textLength, f_resultSize, nI n, f_madeSize, a_wordLetters, a_wordLength, a_wordCount, a_leftOf, a_rightOf, ts_F pr, ts_F SP, ts_F ln, a_text, a_result, a_row, a_made, a_pairFrequency, a_waysFrom, a_slotsAt, a_slotKey, a_slotToken, a_slotRest) bx := by
  obtain ⟨h6, hT, hl1, hl8, hlet⟩ := id hE
  have hFB : ts_FB (ts_fit bx ln (fun t i => SP (t * 8 + i)) r n) ln T n := ts_En_FB hE
  have H2 : ∀ (J : tx_TJ2) (p : Nat), p < n →
      (∀ sa sk st sr, ts_SI pr K n p sa sk st sr → J (nI p + (-1)) f_words (nI T) f_textLength f_resultSize (nI n) f_madeSize a_wordLetters a_wordLength a_wordCount a_leftOf a_rightOf (ts_F pr) (ts_F SP) (ts_F ln) a_text a_result a_row a_made a_pairFrequency a_waysFrom sa sk st sr) →
      ∀ d t, t + d = T → ∀ acc sa sk st sr, ts_AG pr acc → ts_GP pr sk st sr p acc → sa p = nI acc.length → ts_SI pr K n (p + 1) sa sk st sr → (ts_of (ts_fit bx ln (fun t i => SP (t * 8 + i)) r n) ln K p t d).foldl (ts_top (ts_ky pr)) acc = K p →
      wX_rankSplits_43 post J bx (nI p) (d + 1) (nI t) f_words (nI T) f_textLength f_resultSize (nI n) f_madeSize a_wordLetters a_wordLength a_wordCount a_leftOf a_rightOf (ts_F pr) (ts_F SP) (ts_F ln) a_text a_result a_row a_made a_pairFrequency a_waysFrom sa sk st sr := by
    intro J p hp hJ d
    induction d with
    | zero =>
      intro t ht acc sa sk st sr a1 a2 a3 a4 a5
      have a5' : acc = K p := a5
      subst a5'
      refine br_t (nI_le (by omega) (by omega)) (nm_e (hJ _ _ _ _ (fun q hq hqn => ?_)))
      by_cases z : q = p
      · rw [z]; exact ⟨a3, a2⟩
      · exact a4 q (by omega) hqn
    | succ d ih =>
      intro t ht acc sa sk st sr a1 a2 a3 a4 a5
      have a5' : ((if ts_fit bx ln (fun t i => SP (t * 8 + i)) r n t p = true then (K (p + ln t)).map (fun r => t :: r) else []) ++ ts_of (ts_fit bx ln (fun t i => SP (t * 8 + i)) r n) ln K p (t + 1) d).foldl (ts_top (ts_ky pr)) acc = K p := a5
      rw [List.foldl_append] at a5'
      refine br_f (nI_ge (by omega) (by omega)) ?_
      by_cases b : nI t = bx
      · rw [if_neg (fun z => (ts_fit_t.mp z).1 b)] at a5'
        exact br_t b (nm_r (nI_1 t) (ih (t + 1) (by omega) acc _ _ _ _ a1 a2 a3 a4 a5'))
      · refine br_f b (tx_fits (by omega) hn (by omega) hl8 hSP hr hrow b (fun z => ?_) (fun z => ?_))
        · rw [if_pos z] at a5'
          have ⟨b1, b2⟩ := hFB t p (by omega) z
          refine br_f (by decide) (tx_offerSplits hn hp (by omega) b1 b2 hpr hFB hK a1 a2 a3 a4 rfl (fun sa' sk' st' sr' c1 c2 c3 c4 => ?_))
          exact nm_r (nI_1 t) (ih (t + 1) (by omega) _ _ _ _ _ c1 c3 c2 c4 a5')
        · rw [if_neg z] at a5'
          exact br_t rfl (nm_r (nI_1 t) (ih (t + 1) (by omega) acc _ _ _ _ a1 a2 a3 a4 a5'))
  have H : ∀ p, p ≤ n → ∀ sa sk st sr, ts_SI pr K n p sa sk st sr → wX_rankSplits_30 post bx (p + 1) (nI p + (-1)) f_words (nI T) f_textLength f_resultSize (nI n) f_madeSize a_wordLetters a_wordLength a_wordCount a_leftOf a_rightOf (ts_F pr) (ts_F SP) (ts_F ln) a_text a_result a_row a_made a_pairFrequency a_waysFrom sa sk st sr := by
    intro p
    induction p with
    | zero => exact fun _ sa sk st sr hS => br_t (by decide) (h _ _ _ _ hS)
    | succ p ih =>
      intro hp sa sk st sr hS
      rw [pk_m1]
      refine br_f (ts_nn (by omega)) ⟨ts_v (by omega), nm_r (e' := upd sa p (nI 0)) (by rw [nI_clamp (by omega)]; rfl) ⟨_, H2 _ p (by omega) (fun sa' sk' st' sr' hS' => ih (by omega) _ _ _ _ hS') T 0 (by omega) [] _ _ _ _ ⟨Nat.zero_le 6, List.Pairwise.nil, fun e he => absurd he (List.not_mem_nil)⟩ (fun i e he => by rw [List.getElem?_nil] at he; cases he) pk_us (ts_SI_ag ⟨fun q hq => pk_un hq, fun _ _ => ⟨rfl, rfl, rfl⟩⟩ hS) (hK.2 p (by omega)).symm⟩⟩
  have e6 : nI n * 6 = nI (n * 6) := pk_mul n 6
  refine ⟨ts_v (by omega), nm_r (e' := upd a_slotsAt n (nI 1)) (by rw [nI_clamp (by omega)]; rfl) ⟨by rw [e6]; exact ts_v (by omega), nm_r (e' := upd a_slotKey (n * 6) (nI 0)) (by rw [e6, nI_clamp (by omega)]; rfl) (nm_r (e' := nI n + (-1)) (Int32.sub_eq_add_neg _ _) ⟨_, H n (Nat.le_refl n) _ _ _ _ (fun q hq hqn => ?_)⟩)⟩⟩
  have eq : q = n := by omega
  subst eq
  rw [pk_us, hK.1]
  refine ⟨rfl, fun i e he => ?_⟩
  cases i with
  | zero =>
    cases he
    exact ⟨pk_us, True.intro⟩
  | succ i =>
    rw [List.getElem?_cons_succ, List.getElem?_nil] at he
    cases he
theorem tx_readSplit {post : SX → Prop} {k : Nat} {pr : Nat → Nat} {e : List Nat} (hk : k < 78) (he : e.length ≤ 12) (hpr : ∀ t, pr t ≤ 99) (h1 : a_slotKey k = nI (ts_ky pr e)) (h2 : ts_Rd a_slotToken a_slotRest e 0 k)
    (h : ∀ a, ts_Hd a e → post (f_words, f_tokenCount, f_textLength, f_resultSize, f_rowLength, nI e.length, a_wordLetters, a_wordLength, a_wordCount, a_leftOf, a_rightOf, a_priceOf, a_spelling, a_spellingLength, a_text, a_result, a_row, a, a_pairFrequency, a_waysFrom, a_slotsAt, a_slotKey, a_slotToken, a_slotRest)) : wpX_readSplit post (f_words, f_tokenCount, f_textLength, f_resultSize, f_rowLength, f_madeSize, a_wordLetters, a_wordLength, a_wordCount, a_leftOf, a_rightOf, a_priceOf, a_spelling, a_spellingLength, a_text, a_result, a_row, a_made, a_pairFrequency, a_waysFrom, a_slotsAt, a_slotKey, a_slotToken, a_slotRest) (nI k) := by
  have ck : (nI k).toNatClampNeg = k := nI_clamp (by omega)
  have kb := ts_ky_b hpr he
  have em : ts_ky pr e % 16 = e.length := by unfold ts_ky; omega
  have H : ∀ d i, i + d = e.length → ∀ a s lo, ts_Hd a (e.take i) → ts_Rd a_slotToken a_slotRest (e.drop i) lo s → wX_readSplit_17 post f_words f_tokenCount f_textLength f_resultSize f_rowLength (nI e.length) (d + 1) (nI s) (nI i) a_wordLetters a_wordLength a_wordCount a_leftOf a_rightOf a_priceOf a_spelling a_spellingLength a_text a_result a_row a a_pairFrequency a_waysFrom a_slotsAt a_slotKey a_slotToken a_slotRest := by
    intro d
    induction d with
    | zero =>
      intro i hi a s lo ha hs
      have z : i = e.length := by omega
      rw [z, List.take_length] at ha
      exact br_t (nI_le (by omega) (by omega)) (h a ha)
    | succ d ih =>
      intro i hi a s lo ha hs
      obtain ⟨t, ht⟩ := ts_get (l := e) (i := i) (by omega)
      rw [ts_drop ht] at hs
      obtain ⟨r1, r2, r3, s', r4, r5⟩ := hs
      have cs : (nI s).toNatClampNeg = s := nI_clamp (by omega)
      refine br_f (nI_ge (by omega) (by omega)) ⟨ts_v r2, ts_v (by omega), nm_r (e' := upd a i (nI t)) ?_ ⟨ts_v r2, nm_r (e' := nI s') ?_ (nm_r (nI_1 i) (ih (i + 1) (by omega) _ s' _ ?_ r5))⟩⟩
      · rw [cs, nI_clamp (by omega), r3]
      · rw [cs, r4]
      · have := ts_Hd_snoc (e := t) ha
        rw [List.length_take, show min i e.length = i by omega] at this
        rw [List.take_succ, ht]
        exact this
  refine ⟨ts_v hk, by decide, nm_r (e' := nI e.length) ?_ ⟨_, H e.length 0 (by omega) a_made k 0 (ts_Hd_nil _) h2⟩⟩
  rw [ck, h1]
  have := pk_rem (a := ts_ky pr e) (d := 16) (by omega) (by decide) (by decide)
  rw [em] at this
  exact this
end
