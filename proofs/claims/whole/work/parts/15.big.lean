theorem tx_rank0 {post : Int32 → Prop} {x : Int32} (h : x < 0 ∨ nI 6 ≤ x) (hp : post 0) : wpX_isRank post x := by
  by_cases z : x < 0
  · exact br_t z hp
  · exact br_f z (br_t (h.resolve_left z) hp)
theorem tx_rank1 {post : Int32 → Prop} {j : Nat} (h : j < 6) (hp : post 1) : wpX_isRank post (nI j) :=
  br_f (ts_nn (by omega)) (br_f (nI_ge (b := 6) h (by omega)) hp)
theorem ts_2 {x : Int32} (h : nI 3 ≤ x) : ¬ x ≤ 2 := by
  intro z
  have a := Int32.le_iff_toInt_le.mp h
  have b := Int32.le_iff_toInt_le.mp z
  rw [show (nI 3).toInt = 3 by decide] at a
  rw [show (2 : Int32).toInt = 2 by decide] at b
  omega
theorem ts_2' {x : Int32} (h : nI 3 ≤ x) : 2 < x := by
  have a := Int32.le_iff_toInt_le.mp h
  rw [show (nI 3).toInt = 3 by decide] at a
  refine Int32.lt_iff_toInt_lt.mpr ?_
  rw [show (2 : Int32).toInt = 2 by decide]
  omega
theorem tx_way0 {post : Int32 → Prop} {x : Int32} (h : x < 0 ∨ nI 3 ≤ x) (hp : post 0) : wpX_isWay post x := by
  by_cases z : x < 0
  · exact br_t z hp
  · exact br_f z (br_t (ts_2' (h.resolve_left z)) hp)
theorem tx_way1 {post : Int32 → Prop} {j : Nat} (h : j < 3) (hp : post 1) : wpX_isWay post (nI j) :=
  br_f (ts_nn (by omega)) (br_f (nI_nlt (b := j) (a := 2) (by omega) (by decide)) hp)
/-- Y's guards, with the refusal -/
theorem ty_way0 {A B C : Prop} {x : Int32} (h : x < 0 ∨ nI 3 ≤ x) (ha : A) (hc : C) : (x < 0 → A) ∧ (¬ x < 0 → ((x ≤ 2 → B) ∧ (¬ x ≤ 2 → C))) := by
  by_cases z : x < 0
  · exact br_t z ha
  · exact br_f z (br_f (ts_2 (h.resolve_left z)) hc)
theorem ty_way1 {A B C : Prop} {j : Nat} (h : j < 3) (hb : B) : (nI j < 0 → A) ∧ (¬ nI j < 0 → ((nI j ≤ 2 → B) ∧ (¬ nI j ≤ 2 → C))) :=
  br_f (ts_nn (by omega)) (br_t (nI_le (b := 2) (by omega) (by decide)) hb)
theorem ty_rank0 {A B C : Prop} {x : Int32} (h : x < 0 ∨ nI 6 ≤ x) (ha : A) (hc : C) : (x < 0 → A) ∧ (¬ x < 0 → ((x ≤ 5 → B) ∧ (¬ x ≤ 5 → C))) := by
  by_cases z : x < 0
  · exact br_t z ha
  · exact br_f z (br_f (ts_5 (h.resolve_left z)) hc)
theorem ty_rank1 {A B C : Prop} {j : Nat} (h : j < 6) (hb : B) : (nI j < 0 → A) ∧ (¬ nI j < 0 → ((nI j ≤ 5 → B) ∧ (¬ nI j ≤ 5 → C))) :=
  br_f (ts_nn (by omega)) (br_t (nI_le (b := 5) (by omega) (by decide)) hb)
theorem ts_kdiv {pr : Nat → Nat} (hpr : ∀ t, pr t ≤ 99) {e : List Nat} (h : e.length ≤ 12) : nI (ts_ky pr e) / 16 = nI (ts_sp pr e) := by
  have b := ts_ky_b hpr h
  have := pk_div (a := ts_ky pr e) (d := 16) (by omega) (by decide) (by decide)
  rw [show ts_ky pr e / 16 = ts_sp pr e by unfold ts_ky; omega] at this
  exact this
theorem i_vc_frequency {k : Nat} {u : SX} {v : SY} (I : i_Rel k u v) (hk : k + 3 ≤ 1536) (v1 : Int32) (v2 : Int32) : wpX_frequency (fun r u' => wpY_frequency (fun r' v' => r' = r ∧ i_Rel (k + 3) u' v') v v1 v2) u v1 v2 := by
  unfold wpX_frequency wpY_frequency
  obtain ⟨w, T, tl, rs, WL, WS, LF, RG, PR, SP, LN, LT, TX, RE, WC, rlX, msX, rowX, mdX, pf, wf, sa, sk, st, sr, rlY, mkY, kpY, rowY, pt, sm, nb, sl, tr, bg, rfl, rfl, hI⟩ := I
  obtain ⟨hw, htl, hrs, hE, hag, hWL, hWS, hLF, hRG, hPR, hSP, hLT, hTX, hRE, hsum⟩ := id hI
  obtain ⟨h6, hT, hl1, hl8, hlet⟩ := id hE
  rcases ts_or (x := v1) T (by omega) with hb | ⟨x, hx, rfl⟩
  · refine tx_tok0 hb ?_
    refine br_t rfl ?_
    refine ty_tok1 hb ?_
    exact br_f ts_10 ⟨rfl, ts_mk hI⟩
  rcases ts_or (x := v2) T (by omega) with hb | ⟨y, hy, rfl⟩
  · refine tx_tok1 hT hx ?_
    refine br_f ts_10 ?_
    refine tx_tok0 hb ?_
    refine br_t rfl ?_
    refine ty_tok0 hT hx ?_
    refine br_t rfl ?_
    refine ty_tok1 hb ?_
    exact br_f ts_10 ⟨rfl, ts_mk hI⟩
  · have e : nI x * 20 + nI y = nI (x * 20 + y) := ts_ma 20 x y
    refine tx_tok1 hT hx ?_
    refine br_f ts_10 ?_
    refine tx_tok1 hT hy ?_
    refine br_f ts_10 ?_
    refine tx_countPairs hw h6 hT hWL hWS hLF hRG (fun rl ms row md pf hpf => ?_)
    refine ⟨by rw [e]; exact ts_v (by omega), ?_⟩
    refine ty_tok0 hT hx ?_
    refine br_t rfl ?_
    refine ty_tok0 hT hy ?_
    refine br_t rfl ?_
    refine ty_freq (by omega) (by omega) hw h6 hT hWL hWS hLF hRG (fun rl' ms' row' md' => ⟨?_, ts_mk hI⟩)
    rw [e, nI_clamp (by omega)]
    exact (hpf x y (by omega) (by omega)).symm
theorem i_vc_ways {k : Nat} {u : SX} {v : SY} (I : i_Rel k u v) (hk : k + 3 ≤ 1536) : wpX_ways (fun r u' => wpY_ways (fun r' v' => r' = r ∧ i_Rel (k + 3) u' v') v) u := by
  unfold wpY_ways
  obtain ⟨w, T, tl, rs, WL, WS, LF, RG, PR, SP, LN, LT, TX, RE, WC, rlX, msX, rowX, mdX, pf, wf, sa, sk, st, sr, rlY, mkY, kpY, rowY, pt, sm, nb, sl, tr, bg, rfl, rfl, hI⟩ := I
  obtain ⟨hw, htl, hrs, hE, hag, hWL, hWS, hLF, hRG, hPR, hSP, hLT, hTX, hRE, hsum⟩ := id hI
  have hFB : ts_FB (ts_fit (-1) LN (fun t i => SP (t * 8 + i)) TX tl) LN T tl := ts_En_FB hE
  obtain ⟨C, hC⟩ := ts_exC hFB
  obtain ⟨K, hK⟩ := ts_exK PR hFB
  refine tx_ways hE htl hSP hTX hC (fun i hi => rfl) (fun rw' wf => ?_)
  refine ty_takeText htl ?_
  exact ty_look hE htl hLT hag hTX (fun i hi => ts_cp_lt hi) hPR hK hC (fun sm nb sl tr bg _ => ⟨rfl, ts_mk hI⟩)
theorem i_vc_ranked {k : Nat} {u : SX} {v : SY} (I : i_Rel k u v) (hk : k + 3 ≤ 1536) (v1 : Int32) : wpX_ranked (fun r u' => wpY_ranked (fun r' v' => r' = r ∧ i_Rel (k + 3) u' v') v v1) u v1 := by
  unfold wpX_ranked wpY_ranked
  obtain ⟨w, T, tl, rs, WL, WS, LF, RG, PR, SP, LN, LT, TX, RE, WC, rlX, msX, rowX, mdX, pf, wf, sa, sk, st, sr, rlY, mkY, kpY, rowY, pt, sm, nb, sl, tr, bg, rfl, rfl, hI⟩ := I
  obtain ⟨hw, htl, hrs, hE, hag, hWL, hWS, hLF, hRG, hPR, hSP, hLT, hTX, hRE, hsum⟩ := id hI
  rcases ts_or (x := v1) 6 (by decide) with hb | ⟨j, hj, rfl⟩
  · refine tx_rank0 hb ?_
    refine br_t rfl ?_
    exact ty_rank0 hb ⟨rfl, ts_mk hI⟩ ⟨rfl, ts_mk hI⟩
  have hFB : ts_FB (ts_fit (-1) LN (fun t i => SP (t * 8 + i)) TX tl) LN T tl := ts_En_FB hE
  obtain ⟨C, hC⟩ := ts_exC hFB
  obtain ⟨K, hK⟩ := ts_exK PR hFB
  have kg := ts_K_good hFB hK tl 0 (by omega)
  have cj : (nI j).toNatClampNeg = j := nI_clamp (by omega)
  refine tx_rank1 hj ?_
  refine br_f ts_10 ?_
  refine tx_takeText htl ?_
  refine tx_rankSplits hE htl hSP hTX (fun i hi => ts_cp_lt hi) hPR hK (fun sa sk st sr hS => ?_)
  obtain ⟨s1, s2⟩ := hS 0 (Nat.le_refl 0) (Nat.zero_le _)
  by_cases c : (K 0).length ≤ j
  · refine br_t (by rw [s1]; exact nI_le c (by omega)) ?_
    refine ty_rank1 hj ?_
    refine ty_takeText htl ?_
    refine ty_look hE htl hLT hag hTX (fun i hi => ts_cp_lt hi) hPR hK hC (fun sm nb sl tr bg _ => ?_)
    exact br_t (nI_le c (by omega)) ⟨rfl, ts_mk hI⟩
  · obtain ⟨e, he⟩ : ∃ e, (K 0)[j]? = some e := ⟨(K 0)[j]'(by omega), List.getElem?_eq_getElem (by omega)⟩
    have el := (kg.2.2 e (List.mem_of_getElem? he)).1
    obtain ⟨g1, _⟩ := s2 j e he
    rw [Nat.zero_mul, Nat.zero_add] at g1
    refine br_f (by rw [s1]; exact nI_ge (by omega) (by omega)) ⟨ts_v (by omega), by decide, ?_⟩
    refine ty_rank1 hj ?_
    refine ty_takeText htl ?_
    refine ty_look hE htl hLT hag hTX (fun i hi => ts_cp_lt hi) hPR hK hC (fun sm nb sl tr bg hKR => ?_)
    refine br_f (nI_ge (by omega) (by omega)) ⟨ts_v (by omega), ?_, ts_mk hI⟩
    rw [cj, g1, (hKR j e he).1, ts_kdiv hPR (by omega)]
theorem i_vc_rankedAt {k : Nat} {u : SX} {v : SY} (I : i_Rel k u v) (hk : k + 3 ≤ 1536) (v1 : Int32) (v2 : Int32) : wpX_rankedAt (fun r u' => wpY_rankedAt (fun r' v' => r' = r ∧ i_Rel (k + 3) u' v') v v1 v2) u v1 v2 := by
  unfold wpX_rankedAt wpY_rankedAt
  obtain ⟨w, T, tl, rs, WL, WS, LF, RG, PR, SP, LN, LT, TX, RE, WC, rlX, msX, rowX, mdX, pf, wf, sa, sk, st, sr, rlY, mkY, kpY, rowY, pt, sm, nb, sl, tr, bg, rfl, rfl, hI⟩ := I
  obtain ⟨hw, htl, hrs, hE, hag, hWL, hWS, hLF, hRG, hPR, hSP, hLT, hTX, hRE, hsum⟩ := id hI
  rcases ts_or (x := v1) 6 (by decide) with hb | ⟨j, hj, rfl⟩
  · refine tx_rank0 hb ?_
    refine br_t rfl ?_
    exact ty_rank0 hb ⟨rfl, ts_mk hI⟩ ⟨rfl, ts_mk hI⟩
  have hFB : ts_FB (ts_fit (-1) LN (fun t i => SP (t * 8 + i)) TX tl) LN T tl := ts_En_FB hE
  obtain ⟨C, hC⟩ := ts_exC hFB
  obtain ⟨K, hK⟩ := ts_exK PR hFB
  have kg := ts_K_good hFB hK tl 0 (by omega)
  have cj : (nI j).toNatClampNeg = j := nI_clamp (by omega)
  refine tx_rank1 hj ?_
  refine br_f ts_10 ?_
  refine tx_takeText htl ?_
  refine tx_rankSplits hE htl hSP hTX (fun i hi => ts_cp_lt hi) hPR hK (fun sa sk st sr hS => ?_)
  obtain ⟨s1, s2⟩ := hS 0 (Nat.le_refl 0) (Nat.zero_le _)
  by_cases c : (K 0).length ≤ j
  · refine br_f (by rw [s1]; exact nI_nlt c (by omega)) ?_
    refine ty_rank1 hj ?_
    refine ty_takeText htl ?_
    refine ty_look hE htl hLT hag hTX (fun i hi => ts_cp_lt hi) hPR hK hC (fun sm nb sl tr bg _ => ?_)
    exact br_t (nI_le c (by omega)) ⟨rfl, ts_mk hI⟩
  · obtain ⟨e, he⟩ : ∃ e, (K 0)[j]? = some e := ⟨(K 0)[j]'(by omega), List.getElem?_eq_getElem (by omega)⟩
    have el := (kg.2.2 e (List.mem_of_getElem? he)).1
    obtain ⟨g1, g2⟩ := s2 j e he
    rw [Nat.zero_mul, Nat.zero_add] at g1 g2
    refine br_t (by rw [s1]; exact nI_lt (by omega) (by omega)) ?_
    refine tx_readSplit (by omega) (by omega) hPR g1 g2 (fun md hmd => ?_)
    by_cases c0 : v2 < 0
    · refine br_t c0 ?_
      refine ty_rank1 hj ?_
      refine ty_takeText htl ?_
      refine ty_look hE htl hLT hag hTX (fun i hi => ts_cp_lt hi) hPR hK hC (fun sm nb sl tr bg hKR => ?_)
      exact br_f (nI_ge (by omega) (by omega)) (br_t c0 ⟨rfl, ts_mk hI⟩)
    · refine br_f c0 ?_
      rcases ts_or (x := v2) e.length (by omega) with hb | ⟨i, hi, rfl⟩
      · refine br_t (hb.resolve_left c0) ?_
        refine ty_rank1 hj ?_
        refine ty_takeText htl ?_
        refine ty_look hE htl hLT hag hTX (fun i hi => ts_cp_lt hi) hPR hK hC (fun sm nb sl tr bg hKR => ?_)
        refine br_f (nI_ge (by omega) (by omega)) (br_f c0 ⟨ts_v (by omega), br_f ?_ ⟨rfl, ts_mk hI⟩⟩)
        rw [cj, (hKR j e he).2.1]
        exact ts_lt (hb.resolve_left c0)
      · obtain ⟨t, ht⟩ := ts_get hi
        have e1 : 12 * nI j + nI i = nI (12 * j + i) := ts_mb 12 j i
        refine br_f (nI_ge hi (by omega)) ⟨ts_v (by omega), ?_⟩
        refine ty_rank1 hj ?_
        refine ty_takeText htl ?_
        refine ty_look hE htl hLT hag hTX (fun i hi => ts_cp_lt hi) hPR hK hC (fun sm nb sl tr bg hKR => ?_)
        refine br_f (nI_ge (by omega) (by omega)) (br_f c0 ⟨ts_v (by omega), br_t ?_ ⟨by rw [e1]; exact ts_v (by omega), ?_, ts_mk hI⟩⟩)
        · rw [cj, (hKR j e he).2.1]
          exact nI_lt hi (by omega)
        · rw [e1, nI_clamp (by omega), nI_clamp (by omega), hmd i t ht]
          exact (hKR j e he).2.2 i t ht
