theorem ts_exM {F : Nat → Nat → Bool} {ln : Nat → Nat} {T n : Nat} (hF : ts_FB F ln T n) : ∃ M : Nat → Nat, M n = 1 ∧ ∀ p, p < n → M p = 1 + ts_cf F ln (fun q => 1 + M q) p 0 T :=
  ts_tab (fun M p => 1 + ts_cf F ln (fun q => 1 + M q) p 0 T) 1 n (fun K K' p _ h => by
    show 1 + _ = 1 + _
    rw [ts_cf_loc hF (K := fun q => 1 + K q) (K' := fun q => 1 + K' q) (fun q a b => by show 1 + K q = 1 + K' q; rw [h q a b]) T 0 (by omega)])
theorem ts_K_self {F : Nat → Nat → Bool} {ln pr : Nat → Nat} {T n : Nat} {K : Nat → List (List Nat)} (h : ts_TK F ln pr T n K) {p : Nat} (hp : p ≤ n) : ((K p).map (fun r => [] ++ r)).foldl (ts_top (ts_ky pr)) [] = K p := by
  have e : (K p).map (fun r => [] ++ r) = K p := by
    simp only [List.nil_append]
    exact List.map_id' _
  rw [e]
  by_cases z : p = n
  · rw [z, h.1]
    rfl
  · have := h.2 p (by omega)
    rw [this]
    exact (ts_absorb _ [] (Nat.zero_le 6)).symm
theorem ts_ft_AG {pr : Nat → Nat} (L : List (List Nat)) : ∀ acc : List (List Nat), ts_AG pr acc → (∀ e ∈ L, e.length ≤ 12) → ts_AG pr (L.foldl (ts_top (ts_ky pr)) acc) := by
  induction L with
  | nil => exact fun acc h _ => h
  | cons x L ih => exact fun acc h hL => ih _ (ts_AG_top h (hL x List.mem_cons_self)) (fun e he => hL e (List.mem_cons_of_mem _ he))
def ty_TJ4 : Type := Int32 → Int32 → Int32 → Int32 → Int32 → Int32 → Int32 → Int32 → Int32 → Int32 → Int32 → (Nat → Int32) → (Nat → Int32) → (Nat → Int32) → (Nat → Int32) → (Nat → Int32) → (Nat → Int32) → (Nat → Int32) → (Nat → Int32) → (Nat → Int32) → (Nat → Int32) → (Nat → Int32) → (Nat → Int32) → (Nat → Int32) → (Nat → Int32) → (Nat → Int32) → (Nat → Int32) → (Nat → Int32) → Prop
/-- where the search goes on after a place is done -/
def ts_bk (tr : Nat → Int32) (d : Nat) : Int32 := if d = 0 then 0 else tr (d - 1) + 1
section
variable {f_words f_tokens f_textSize f_resultSize f_rowSize f_barred f_made f_kept : Int32} {a_counts a_sizes a_spelled a_lefts a_rights a_prices a_lengths a_letters a_text a_result a_row a_parts a_sums a_numbers a_splits a_tried a_begins : Nat → Int32}
theorem ty_pop {post : Int32 → SY → Prop} {J : ty_TJ4} {x1 : Int32} {d : Nat} (hd : d ≤ 12) (h : J x1 (nI d + (-1)) (ts_bk a_tried d) f_words f_tokens f_textSize f_resultSize f_rowSize f_barred f_made f_kept a_counts a_sizes a_spelled a_lefts a_rights a_prices a_lengths a_letters a_text a_result a_row a_parts a_sums a_numbers a_splits a_tried a_begins) : wY_lookAtAll_73 post J x1 (nI d) (-1) f_words f_tokens f_textSize f_resultSize f_rowSize f_barred f_made f_kept a_counts a_sizes a_spelled a_lefts a_rights a_prices a_lengths a_letters a_text a_result a_row a_parts a_sums a_numbers a_splits a_tried a_begins := by
  refine br_t ts_neg1 (nm_e ?_)
  by_cases z : d = 0
  · subst z
    exact br_f (by decide) h
  · have e : nI d + (-1) = nI (d - 1) := ts_m1 (by omega)
    have e2 : ts_bk a_tried d = a_tried (d - 1) + 1 := if_neg z
    rw [e, e2] at h
    rw [e]
    refine br_t (nI_pos' (by omega)) ⟨ts_v (by omega), nm_r ?_ h⟩
    rw [nI_clamp (by omega)]
theorem ty_look {post : Int32 → SY → Prop} {T n : Nat} {bx : Int32} {ln LT r pr : Nat → Nat} {sp : Nat → Nat → Nat} {K : Nat → List (List Nat)} {C : Nat → Nat} (hE : ts_En T ln sp) (hn : n ≤ 12) (hLT : ∀ j, LT j < 6) (hsp : ∀ t, t < T → ∀ i, i < ln t → LT (12 * t + i) = sp t i) (hr : ∀ i, r i < 6) (hrow : ∀ i, i < n → a_row i = nI (r i)) (hpr : ∀ t, pr t ≤ 99)
    (hK : ts_TK (ts_fit bx ln sp r n) ln pr T n K) (hC : ts_TC (ts_fit bx ln sp r n) ln T n C)
    (h : ∀ sm nb sl tr bg, ts_KR pr sm nb sl (K 0) → post (nI (C 0)) (f_words, nI T, f_textSize, f_resultSize, nI n, bx, f_made, nI (K 0).length, a_counts, a_sizes, a_spelled, a_lefts, a_rights, ts_F pr, ts_F ln, ts_F LT, a_text, a_result, a_row, a_parts, sm, nb, sl, tr, bg)) :
    wpY_lookAtAll post (f_words, nI T, f_textSize, f_resultSize, nI n, bx, f_made, f_kept, a_counts, a_sizes, a_spelled, a_lefts, a_rights, ts_F pr, ts_F ln, ts_F LT, a_text, a_result, a_row, a_parts, a_sums, a_numbers, a_splits, a_tried, a_begins) := by
  obtain ⟨h6, hT, hl1, hl8, hlet⟩ := id hE
  have hFB : ts_FB (ts_fit bx ln sp r n) ln T n := ts_En_FB hE
  obtain ⟨M, hM0, hM⟩ := ts_exM hFB
  have main : ∀ j p, p + j = n → ∀ (N c : Nat) (pre : List Nat) (acc : List (List Nat)) (sm nb sl tr bg : Nat → Int32), pre.length ≤ p → (∀ t ∈ pre, t < 20) → ts_AG pr acc → ts_KR pr sm nb sl acc → ts_Hd tr pre → bg pre.length = nI p →
      (∀ sm' nb' sl' tr' bg', ts_KR pr sm' nb' sl' (((K p).map (fun r => pre ++ r)).foldl (ts_top (ts_ky pr)) acc) → ts_Hd tr' pre → (∀ i, i ≤ pre.length → bg' i = bg i) →
        wY_lookAtAll_18 post N (nI (c + C p)) (nI pre.length + (-1)) (ts_bk tr' pre.length) f_words (nI T) f_textSize f_resultSize (nI n) bx f_made (nI (((K p).map (fun r => pre ++ r)).foldl (ts_top (ts_ky pr)) acc).length) a_counts a_sizes a_spelled a_lefts a_rights (ts_F pr) (ts_F ln) (ts_F LT) a_text a_result a_row a_parts sm' nb' sl' tr' bg') →
      wY_lookAtAll_18 post (N + M p) (nI c) (nI pre.length) 0 f_words (nI T) f_textSize f_resultSize (nI n) bx f_made (nI acc.length) a_counts a_sizes a_spelled a_lefts a_rights (ts_F pr) (ts_F ln) (ts_F LT) a_text a_result a_row a_parts sm nb sl tr bg := by
    intro j
    induction j using Nat.strongRecOn with
    | ind j ih =>
      intro p hp N c pre acc sm nb sl tr bg hpre hprt hA hKR hHd hbg hk
      have cd : (nI pre.length).toNatClampNeg = pre.length := nI_clamp (by omega)
      have vd : vp_in (nI pre.length) 13 := ts_v (by omega)
      have eb : bg (nI pre.length).toNatClampNeg = nI p := by rw [cd]; exact hbg
      by_cases z : p = n
      · subst z
        rw [hM0]
        refine br_f (ts_nn (by omega)) ⟨vd, br_t eb ⟨vd, br_t eb (nm_r (nI_1 c) ?_)⟩⟩
        refine ty_keep (by omega) hprt hpr hA hHd hKR (fun sm' nb' sl' hk' => ty_pop (by omega) ?_)
        have := hk sm' nb' sl' tr bg
        rw [hK.1, hC.1] at this
        simp only [List.map_cons, List.map_nil, List.append_nil, List.foldl_cons, List.foldl_nil] at this
        exact this hk' hHd (fun _ _ => by trivial)
      · have hpn : p < n := by omega
        have node : ∀ k f, f + k = T → ∀ (N c : Nat) (acc : List (List Nat)) (sm nb sl tr bg : Nat → Int32), ts_AG pr acc → ts_KR pr sm nb sl acc → ts_Hd tr pre → bg pre.length = nI p →
            (∀ sm' nb' sl' tr' bg', ts_KR pr sm' nb' sl' (((ts_of (ts_fit bx ln sp r n) ln K p f k).map (fun r => pre ++ r)).foldl (ts_top (ts_ky pr)) acc) → ts_Hd tr' pre → (∀ i, i ≤ pre.length → bg' i = bg i) →
              wY_lookAtAll_18 post N (nI (c + ts_cf (ts_fit bx ln sp r n) ln C p f k)) (nI pre.length + (-1)) (ts_bk tr' pre.length) f_words (nI T) f_textSize f_resultSize (nI n) bx f_made (nI (((ts_of (ts_fit bx ln sp r n) ln K p f k).map (fun r => pre ++ r)).foldl (ts_top (ts_ky pr)) acc).length) a_counts a_sizes a_spelled a_lefts a_rights (ts_F pr) (ts_F ln) (ts_F LT) a_text a_result a_row a_parts sm' nb' sl' tr' bg') →
            wY_lookAtAll_18 post (N + (1 + ts_cf (ts_fit bx ln sp r n) ln (fun q => 1 + M q) p f k)) (nI c) (nI pre.length) (nI f) f_words (nI T) f_textSize f_resultSize (nI n) bx f_made (nI acc.length) a_counts a_sizes a_spelled a_lefts a_rights (ts_F pr) (ts_F ln) (ts_F LT) a_text a_result a_row a_parts sm nb sl tr bg := by
          intro k
          induction k using Nat.strongRecOn with
          | ind k ihk =>
            intro f hf N c acc sm nb sl tr bg hA hKR hHd hbg hk
            have eb : bg (nI pre.length).toNatClampNeg = nI p := by rw [cd]; exact hbg
            have nb0 : ¬ bg (nI pre.length).toNatClampNeg = nI n := by
              rw [eb]
              intro q
              have := (nI_eq (by omega) (by omega)).mp q
              omega
            rw [show N + (1 + ts_cf (ts_fit bx ln sp r n) ln (fun q => 1 + M q) p f k) = (N + ts_cf (ts_fit bx ln sp r n) ln (fun q => 1 + M q) p f k) + 1 by omega]
            refine br_f (ts_nn (by omega)) ⟨vd, br_f nb0 ⟨vd, ?_⟩⟩
            rw [eb]
            refine ty_next (by omega) hT hn (by omega) hl8 hLT hsp hr hrow (fun t ht1 ht2 ht3 ht4 => ?_) (fun hnone => ?_)
            · obtain ⟨k', hk'⟩ : ∃ k', k = (t - f) + (k' + 1) := ⟨k - (t - f) - 1, by omega⟩
              have sk1 : ∀ G : Nat → Nat, ts_cf (ts_fit bx ln sp r n) ln G p f k = G (p + ln t) + ts_cf (ts_fit bx ln sp r n) ln G p (t + 1) k' := by
                intro G
                rw [hk', ts_cf_skip (t - f) f (k' + 1) (fun t' a b => ht4 t' a (by omega)), show f + (t - f) = t by omega]
                show (if _ then _ else _) + _ = _
                rw [if_pos ht3]
              have sk2 : ts_of (ts_fit bx ln sp r n) ln K p f k = (K (p + ln t)).map (fun r => t :: r) ++ ts_of (ts_fit bx ln sp r n) ln K p (t + 1) k' := by
                rw [hk', ts_of_skip (t - f) f (k' + 1) (fun t' a b => ht4 t' a (by omega)), show f + (t - f) = t by omega]
                show (if _ then _ else _) ++ _ = _
                rw [if_pos ht3]
              have ⟨b1, b2⟩ := hFB t p ht2 ht3
              have l8 := hl8 t
              have emap : ((K (p + ln t)).map (fun r => t :: r)).map (fun r => pre ++ r) = (K (p + ln t)).map (fun r => (pre ++ [t]) ++ r) := by
                rw [List.map_map]
                refine List.map_congr_left (fun x _ => ?_)
                show pre ++ (t :: x) = pre ++ [t] ++ x
                rw [List.append_assoc]
                rfl
              have kg := ts_K_good hFB hK (n - (p + ln t)) (p + ln t) (by omega)
              rw [sk1, sk2, List.map_append, List.foldl_append, emap] at hk
              rw [sk1]
              have plen : (pre ++ [t]).length = pre.length + 1 := by rw [List.length_append]; rfl
              refine ⟨vd, br_f nb0 (br_f (ts_nn (by omega)) ⟨vd, nm_r (e' := upd tr pre.length (nI t)) (by rw [cd]) ⟨vd, ts_v (by omega), by rw [nI_1]; exact ts_v (by omega), nm_r (e' := upd bg (pre.length + 1) (nI (p + ln t))) ?_ (nm_r (nI_1 pre.length) ?_)⟩⟩)⟩
              · rw [eb, nI_1, nI_clamp (by omega), nI_clamp (by omega)]
                congr 1
                exact nI_add p (ln t)
              · have hprt2 : ∀ x ∈ pre ++ [t], x < 20 := by
                  intro x hx
                  rcases List.mem_append.mp hx with q | q
                  · exact hprt x q
                  · have := List.mem_singleton.mp q
                    omega
                have st := ih (j - ln t) (by omega) (p + ln t) (by omega) (N + (1 + ts_cf (ts_fit bx ln sp r n) ln (fun q => 1 + M q) p (t + 1) k')) c (pre ++ [t]) acc sm nb sl (upd tr pre.length (nI t)) (upd bg (pre.length + 1) (nI (p + ln t))) (by omega) hprt2 hA hKR (ts_Hd_snoc hHd) (by rw [plen]; exact pk_us)
                rw [plen] at st
                rw [show N + (1 + M (p + ln t) + ts_cf (ts_fit bx ln sp r n) ln (fun q => 1 + M q) p (t + 1) k') = N + (1 + ts_cf (ts_fit bx ln sp r n) ln (fun q => 1 + M q) p (t + 1) k') + M (p + ln t) by omega]
                refine st (fun sm' nb' sl' tr' bg' q1 q2 q3 => ?_)
                have e8 : nI (pre.length + 1) + (-1) = nI pre.length := pk_m1 _
                have e9 : ts_bk tr' (pre.length + 1) = nI (t + 1) := by
                  unfold ts_bk
                  rw [if_neg (by omega), Nat.add_sub_cancel, q2 pre.length t (by rw [List.getElem?_append_right (Nat.le_refl _), Nat.sub_self]; rfl), nI_1]
                rw [e8, e9]
                have hb2 : ∀ i, i ≤ pre.length → bg' i = bg i := by
                  intro i hi
                  rw [q3 i (by omega), pk_un (by omega)]
                refine ihk k' (by omega) (t + 1) (by omega) N (c + C (p + ln t)) _ sm' nb' sl' tr' bg' (ts_ft_AG _ _ hA (fun e he => ?_)) q1 (fun i x hx => ?_) (by rw [hb2 _ (Nat.le_refl _)]; exact hbg) (fun sm2 nb2 sl2 tr2 bg2 w1 w2 w3 => ?_)
                · obtain ⟨y, hy, rfl⟩ := List.mem_map.mp he
                  have := (kg.2.2 y hy).1
                  rw [List.length_append, plen]
                  omega
                · refine q2 i x ?_
                  rw [List.getElem?_append_left (ts_len_of hx)]
                  exact hx
                · have := hk sm2 nb2 sl2 tr2 bg2 w1 w2 (fun i hi => (w3 i hi).trans (hb2 i hi))
                  rw [← Nat.add_assoc] at this
                  exact this
            · have sk1 : ∀ G : Nat → Nat, ts_cf (ts_fit bx ln sp r n) ln G p f k = 0 := by
                intro G
                have := ts_cf_skip (F := ts_fit bx ln sp r n) (ln := ln) (C := G) (p := p) k f 0 (fun t' a b => hnone t' a (by omega))
                rw [Nat.add_zero] at this
                exact this
              have sk2 : ts_of (ts_fit bx ln sp r n) ln K p f k = [] := by
                have := ts_of_skip (F := ts_fit bx ln sp r n) (ln := ln) (K := K) (p := p) k f 0 (fun t' a b => hnone t' a (by omega))
                rw [Nat.add_zero] at this
                exact this
              rw [sk1, sk2] at hk
              rw [sk1]
              exact ⟨vd, br_f nb0 (ty_pop (by omega) (hk sm nb sl tr bg hKR hHd (fun _ _ => rfl)))⟩
        have hh := node T 0 (by omega) N c acc sm nb sl tr bg hA hKR hHd hbg
        rw [← hM p hpn, ts_K_abs hK hpn pre acc hA.1, ← hC.2 p hpn] at hh
        exact hh hk
  have fin := main n 0 (by omega) 1 0 [] [] a_sums a_numbers a_splits a_tried (upd a_begins 0 0) (Nat.le_refl 0) (fun t ht => absurd ht (List.not_mem_nil)) ⟨Nat.zero_le 6, List.Pairwise.nil, fun e he => absurd he (List.not_mem_nil)⟩ (fun i e he => by rw [List.getElem?_nil] at he; cases he) (ts_Hd_nil _) pk_us (fun sm' nb' sl' tr' bg' q1 q2 q3 => by
    rw [ts_K_self hK (Nat.zero_le n)] at q1 ⊢
    rw [Nat.zero_add]
    exact br_t (by decide) (h sm' nb' sl' tr' bg' q1))
  exact nm_e ⟨_, fin⟩
end
