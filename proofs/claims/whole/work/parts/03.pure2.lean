section
variable {k : List Nat → Nat}
theorem ts_ft_len (L : List (List Nat)) : ∀ acc : List (List Nat), acc.length ≤ 6 → (L.foldl (ts_top k) acc).length ≤ 6 := by
  induction L with
  | nil => exact fun acc h => h
  | cons x L ih => exact fun acc _ => ih _ (ts_top_len acc x)
theorem ts_ft_srt (L : List (List Nat)) : ∀ acc : List (List Nat), ts_Srt k acc → ts_Srt k (L.foldl (ts_top k) acc) := by
  induction L with
  | nil => exact fun acc h => h
  | cons x L ih => exact fun acc h => ih _ (ts_top_srt x h)
theorem ts_ft_mem {y : List Nat} (L : List (List Nat)) : ∀ acc : List (List Nat), y ∈ L.foldl (ts_top k) acc → y ∈ acc ∨ y ∈ L := by
  induction L with
  | nil => exact fun acc h => Or.inl h
  | cons x L ih =>
    intro acc h
    rcases ih _ h with e | e
    · rcases ts_top_mem e with e | e
      · exact Or.inr (by rw [e]; exact List.mem_cons_self)
      · exact Or.inl e
    · exact Or.inr (List.mem_cons_of_mem _ e)
theorem ts_top_ne (l : List (List Nat)) (x : List Nat) : ts_top k l x ≠ [] := by
  intro h
  have := congrArg List.length h
  unfold ts_top at this
  rw [List.length_take, ts_ins_len, List.length_nil] at this
  omega
theorem ts_ft_ne (L : List (List Nat)) : ∀ acc : List (List Nat), (acc ≠ [] ∨ L ≠ []) → L.foldl (ts_top k) acc ≠ [] := by
  induction L with
  | nil =>
    intro acc h
    rcases h with h | h
    · exact h
    · exact absurd rfl h
  | cons x L ih => exact fun acc _ => ih _ (Or.inl (ts_top_ne acc x))
end
def ts_sp (pr : Nat → Nat) : List Nat → Nat
  | [] => 0
  | t :: l => pr t + ts_sp pr l
def ts_ky (pr : Nat → Nat) (l : List Nat) : Nat := 16 * ts_sp pr l + l.length
theorem ts_sp_app (pr : Nat → Nat) (a b : List Nat) : ts_sp pr (a ++ b) = ts_sp pr a + ts_sp pr b := by
  induction a with
  | nil => rw [List.nil_append]; exact (Nat.zero_add _).symm
  | cons t a ih =>
    rw [List.cons_append]
    show pr t + ts_sp pr (a ++ b) = pr t + ts_sp pr a + ts_sp pr b
    omega
theorem ts_ky_app (pr : Nat → Nat) (a b : List Nat) : ts_ky pr (a ++ b) = ts_ky pr b + ts_ky pr a := by
  unfold ts_ky
  rw [ts_sp_app, List.length_append]
  omega
theorem ts_ky_cons (pr : Nat → Nat) (t : Nat) (b : List Nat) : ts_ky pr (t :: b) = ts_ky pr b + pr t * 16 + 1 := by
  unfold ts_ky
  rw [List.length_cons]
  show 16 * (pr t + ts_sp pr b) + _ = _
  omega
theorem ts_sp_le {pr : Nat → Nat} (h : ∀ t, pr t ≤ 99) (l : List Nat) : ts_sp pr l ≤ 99 * l.length := by
  induction l with
  | nil => exact Nat.le_refl 0
  | cons t l ih =>
    rw [List.length_cons]
    show pr t + ts_sp pr l ≤ _
    have := h t
    omega
/-- the offers at place p by tokens f, .., f + k - 1 -/
def ts_of (F : Nat → Nat → Bool) (ln : Nat → Nat) (K : Nat → List (List Nat)) (p : Nat) : Nat → Nat → List (List Nat)
  | _, 0 => []
  | f, k + 1 => (if F f p = true then (K (p + ln f)).map (fun r => f :: r) else []) ++ ts_of F ln K p (f + 1) k
def ts_cf (F : Nat → Nat → Bool) (ln : Nat → Nat) (C : Nat → Nat) (p : Nat) : Nat → Nat → Nat
  | _, 0 => 0
  | f, k + 1 => (if F f p = true then C (p + ln f) else 0) + ts_cf F ln C p (f + 1) k
def ts_TK (F : Nat → Nat → Bool) (ln pr : Nat → Nat) (T n : Nat) (K : Nat → List (List Nat)) : Prop :=
  K n = [[]] ∧ ∀ p, p < n → K p = (ts_of F ln K p 0 T).foldl (ts_top (ts_ky pr)) []
def ts_TC (F : Nat → Nat → Bool) (ln : Nat → Nat) (T n : Nat) (C : Nat → Nat) : Prop :=
  C n = 1 ∧ ∀ p, p < n → C p = ts_cf F ln C p 0 T
def ts_FB (F : Nat → Nat → Bool) (ln : Nat → Nat) (T n : Nat) : Prop := ∀ t p, t < T → F t p = true → 1 ≤ ln t ∧ p + ln t ≤ n
section
variable {F : Nat → Nat → Bool} {ln pr : Nat → Nat} {T n : Nat}
theorem ts_of_loc (hF : ts_FB F ln T n) {K K' : Nat → List (List Nat)} {p : Nat} (h : ∀ q, p < q → q ≤ n → K q = K' q) : ∀ k f, f + k ≤ T → ts_of F ln K p f k = ts_of F ln K' p f k := by
  intro k
  induction k with
  | zero => exact fun _ _ => rfl
  | succ k ih =>
    intro f hf
    show _ ++ _ = _ ++ _
    rw [ih (f + 1) (by omega)]
    congr 1
    by_cases z : F f p = true
    · have ⟨a, b⟩ := hF f p (by omega) z
      rw [if_pos z, if_pos z, h _ (by omega) b]
    · rw [if_neg z, if_neg z]
theorem ts_cf_loc (hF : ts_FB F ln T n) {K K' : Nat → Nat} {p : Nat} (h : ∀ q, p < q → q ≤ n → K q = K' q) : ∀ k f, f + k ≤ T → ts_cf F ln K p f k = ts_cf F ln K' p f k := by
  intro k
  induction k with
  | zero => exact fun _ _ => rfl
  | succ k ih =>
    intro f hf
    show _ + _ = _ + _
    rw [ih (f + 1) (by omega)]
    congr 1
    by_cases z : F f p = true
    · have ⟨a, b⟩ := hF f p (by omega) z
      rw [if_pos z, if_pos z, h _ (by omega) b]
    · rw [if_neg z, if_neg z]
theorem ts_exK (pr : Nat → Nat) (hF : ts_FB F ln T n) : ∃ K, ts_TK F ln pr T n K :=
  ts_tab (fun K p => (ts_of F ln K p 0 T).foldl (ts_top (ts_ky pr)) []) [[]] n (fun K K' p _ h => by
    show List.foldl _ _ _ = List.foldl _ _ _
    rw [ts_of_loc hF h T 0 (by omega)])
theorem ts_exC (hF : ts_FB F ln T n) : ∃ C, ts_TC F ln T n C :=
  ts_tab (fun C p => ts_cf F ln C p 0 T) 1 n (fun K K' p _ h => ts_cf_loc hF h T 0 (by omega))
theorem ts_of_mem {K : Nat → List (List Nat)} {p : Nat} {l : List Nat} : ∀ k f, l ∈ ts_of F ln K p f k → ∃ t r, f ≤ t ∧ t < f + k ∧ F t p = true ∧ r ∈ K (p + ln t) ∧ l = t :: r := by
  intro k
  induction k with
  | zero => exact fun f h => absurd h (List.not_mem_nil)
  | succ k ih =>
    intro f h
    rcases List.mem_append.mp h with e | e
    · by_cases z : F f p = true
      · rw [if_pos z] at e
        obtain ⟨r, h1, h2⟩ := List.mem_map.mp e
        exact ⟨f, r, Nat.le_refl f, by omega, z, h1, h2.symm⟩
      · rw [if_neg z] at e
        exact absurd e (List.not_mem_nil)
    · obtain ⟨t, r, h1, h2, h3⟩ := ih (f + 1) e
      exact ⟨t, r, by omega, by omega, h3⟩
theorem ts_of_ne {K : Nat → List (List Nat)} {p t : Nat} (z : F t p = true) (hK : K (p + ln t) ≠ []) : ∀ k f, f ≤ t → t < f + k → ts_of F ln K p f k ≠ [] := by
  intro k
  induction k with
  | zero => exact fun f h1 h2 => absurd h2 (by omega)
  | succ k ih =>
    intro f h1 h2 h3
    have ⟨e1, e2⟩ := List.append_eq_nil_iff.mp h3
    by_cases e : f = t
    · subst e
      rw [if_pos z] at e1
      exact hK (List.map_eq_nil_iff.mp e1)
    · exact ih (f + 1) (by omega) (by omega) e2
theorem ts_K_good {K : Nat → List (List Nat)} (hF : ts_FB F ln T n) (h : ts_TK F ln pr T n K) : ∀ j p, p + j = n → (K p).length ≤ 6 ∧ ts_Srt (ts_ky pr) (K p) ∧ ∀ l ∈ K p, l.length ≤ j ∧ ∀ t ∈ l, t < T := by
  intro j
  induction j using Nat.strongRecOn with
  | ind j ih =>
    intro p hp
    by_cases e : p = n
    · rw [e, h.1]
      refine ⟨by decide, List.pairwise_singleton _ _, fun l hl => ?_⟩
      have := List.mem_singleton.mp hl
      subst this
      exact ⟨Nat.zero_le j, fun t ht => absurd ht (List.not_mem_nil)⟩
    · rw [h.2 p (by omega)]
      refine ⟨ts_ft_len _ _ (Nat.zero_le 6), ts_ft_srt _ _ List.Pairwise.nil, fun l hl => ?_⟩
      rcases ts_ft_mem _ _ hl with z | z
      · exact absurd z (List.not_mem_nil)
      · obtain ⟨t, r, h1, h2, h3, h4, rfl⟩ := ts_of_mem _ _ z
        have ⟨a, b⟩ := hF t p (by omega) h3
        have ⟨_, _, q⟩ := ih (j - ln t) (by omega) (p + ln t) (by omega)
        have ⟨q1, q2⟩ := q r h4
        refine ⟨by rw [List.length_cons]; omega, fun s hs => ?_⟩
        rcases List.mem_cons.mp hs with e | e
        · omega
        · exact q2 s e
theorem ts_K_ne {K : Nat → List (List Nat)} (hF : ts_FB F ln T n) (h : ts_TK F ln pr T n K) (hx : ∀ p, p < n → ∃ t, t < T ∧ F t p = true) : ∀ j p, p + j = n → K p ≠ [] := by
  intro j
  induction j using Nat.strongRecOn with
  | ind j ih =>
    intro p hp
    by_cases e : p = n
    · rw [e, h.1]
      exact List.cons_ne_nil _ _
    · rw [h.2 p (by omega)]
      obtain ⟨t, h1, h2⟩ := hx p (by omega)
      have ⟨a, b⟩ := hF t p h1 h2
      exact ts_ft_ne _ _ (Or.inr (ts_of_ne h2 (ih (j - ln t) (by omega) _ (by omega)) T 0 (by omega) (by omega)))
/-- what the search offers behind some tokens is what the table offers behind them -/
theorem ts_K_abs {K : Nat → List (List Nat)} (h : ts_TK F ln pr T n K) {p : Nat} (hp : p < n) (pre : List Nat) (acc : List (List Nat)) (ha : acc.length ≤ 6) :
    ((ts_of F ln K p 0 T).map (fun r => pre ++ r)).foldl (ts_top (ts_ky pr)) acc = ((K p).map (fun r => pre ++ r)).foldl (ts_top (ts_ky pr)) acc := by
  rw [ts_absorb_map (c := ts_ky pr pre) (fun y => ts_ky_app pr pre y) _ _ ha, ← h.2 p hp]
theorem ts_of_skip {K : Nat → List (List Nat)} {p : Nat} : ∀ d f k, (∀ t, f ≤ t → t < f + d → ¬ F t p = true) → ts_of F ln K p f (d + k) = ts_of F ln K p (f + d) k := by
  intro d
  induction d with
  | zero => intro f k _; rw [Nat.zero_add, Nat.add_zero]
  | succ d ih =>
    intro f k h
    rw [show d + 1 + k = (d + k) + 1 by omega]
    show _ ++ _ = _
    rw [if_neg (h f (by omega) (by omega)), List.nil_append, ih (f + 1) k (fun t h1 h2 => h t (by omega) (by omega))]
    congr 1
    omega
theorem ts_cf_skip {C : Nat → Nat} {p : Nat} : ∀ d f k, (∀ t, f ≤ t → t < f + d → ¬ F t p = true) → ts_cf F ln C p f (d + k) = ts_cf F ln C p (f + d) k := by
  intro d
  induction d with
  | zero => intro f k _; rw [Nat.zero_add, Nat.add_zero]
  | succ d ih =>
    intro f k h
    rw [show d + 1 + k = (d + k) + 1 by omega]
    show _ + _ = _
    rw [if_neg (h f (by omega) (by omega)), Nat.zero_add, ih (f + 1) k (fun t h1 h2 => h t (by omega) (by omega))]
    congr 1
    omega
/-- longest first -/
def ts_lb (F : Nat → Nat → Bool) (ln r : Nat → Nat) (p : Nat) : Nat → Nat
  | 0 => r p
  | t + 1 => if F t p = true ∧ ln (ts_lb F ln r p t) < ln t then t else ts_lb F ln r p t
def ts_TL (F : Nat → Nat → Bool) (ln r : Nat → Nat) (T n : Nat) (L : Nat → List Nat) : Prop :=
  L n = [] ∧ ∀ p, p < n → L p = ts_lb F ln r p T :: L (p + ln (ts_lb F ln r p T))
theorem ts_lb_ok {r : Nat → Nat} {p : Nat} (h1 : r p < T) (h2 : F (r p) p = true) : ∀ t, t ≤ T → ts_lb F ln r p t < T ∧ F (ts_lb F ln r p t) p = true := by
  intro t
  induction t with
  | zero => exact fun _ => ⟨h1, h2⟩
  | succ t ih =>
    intro ht
    unfold ts_lb
    split
    · next z => exact ⟨by omega, z.1⟩
    · exact ih (by omega)
theorem ts_exL {r : Nat → Nat} (hF : ts_FB F ln T n) (hr : ∀ p, p < n → r p < T ∧ F (r p) p = true) : ∃ L, ts_TL F ln r T n L :=
  ts_tab (fun L p => ts_lb F ln r p T :: L (p + ln (ts_lb F ln r p T))) [] n (fun K K' p hp h => by
    have ⟨a, b⟩ := ts_lb_ok (ln := ln) (hr p hp).1 (hr p hp).2 T (Nat.le_refl T)
    have ⟨c, d⟩ := hF _ p a b
    show _ :: _ = _ :: _
    rw [h _ (by omega) d])
theorem ts_L_good {r : Nat → Nat} {L : Nat → List Nat} (hF : ts_FB F ln T n) (hr : ∀ p, p < n → r p < T ∧ F (r p) p = true) (h : ts_TL F ln r T n L) : ∀ j p, p + j = n → (L p).length ≤ j ∧ ∀ t ∈ L p, t < T := by
  intro j
  induction j using Nat.strongRecOn with
  | ind j ih =>
    intro p hp
    by_cases e : p = n
    · rw [e, h.1]
      exact ⟨Nat.zero_le j, fun t ht => absurd ht (List.not_mem_nil)⟩
    · have hp' : p < n := by omega
      have ⟨a, b⟩ := ts_lb_ok (ln := ln) (hr p hp').1 (hr p hp').2 T (Nat.le_refl T)
      have ⟨c, d⟩ := hF _ p a b
      rw [h.2 p hp']
      have ⟨q1, q2⟩ := ih (j - ln (ts_lb F ln r p T)) (by omega) (p + ln (ts_lb F ln r p T)) (by omega)
      refine ⟨by rw [List.length_cons]; omega, fun s hs => ?_⟩
      rcases List.mem_cons.mp hs with e | e
      · omega
      · exact q2 s e
end
/-- merging one token -/
def ts_mg (a b t : Nat) : List Nat → List Nat
  | x :: y :: l => if x = a ∧ y = b then t :: ts_mg a b t l else x :: ts_mg a b t (y :: l)
  | [x] => [x]
  | [] => []
def ts_sl (ln : Nat → Nat) : List Nat → Nat
  | [] => 0
  | t :: l => ln t + ts_sl ln l
theorem ts_mg_all (a b t : Nat) (ln : Nat → Nat) (m : Nat) (hl : ln t = ln a + ln b) (ht : t < m) : ∀ (j : Nat) (l : List Nat), l.length ≤ j → (ts_mg a b t l).length ≤ l.length ∧ ts_sl ln (ts_mg a b t l) = ts_sl ln l ∧ ((∀ e ∈ l, e < m) → ∀ e ∈ ts_mg a b t l, e < m) := by
  intro j
  induction j with
  | zero =>
    intro l h
    have : l = [] := List.eq_nil_of_length_eq_zero (by omega)
    subst this
    simp only [ts_mg]
    exact ⟨Nat.le_refl _, True.intro, fun h => h⟩
  | succ j ih =>
    intro l h
    match l with
    | [] =>
      simp only [ts_mg]
      exact ⟨Nat.le_refl _, True.intro, fun h => h⟩
    | [x] =>
      simp only [ts_mg]
      exact ⟨Nat.le_refl _, True.intro, fun h => h⟩
    | x :: y :: l =>
      simp only [List.length_cons] at h
      by_cases z : x = a ∧ y = b
      · have ⟨i1, i2, i3⟩ := ih l (by omega)
        simp only [ts_mg]
        rw [if_pos z]
        simp only [List.length_cons]
        refine ⟨by omega, ?_, fun hm e he => ?_⟩
        · show ln t + ts_sl ln _ = ln x + (ln y + ts_sl ln l)
          rw [i2, hl, z.1, z.2]
          omega
        · rcases List.mem_cons.mp he with q | q
          · omega
          · exact i3 (fun e he => hm e (List.mem_cons_of_mem _ (List.mem_cons_of_mem _ he))) e q
      · have ⟨i1, i2, i3⟩ := ih (y :: l) (by rw [List.length_cons]; omega)
        simp only [ts_mg]
        rw [if_neg z]
        simp only [List.length_cons] at i1 ⊢
        refine ⟨by omega, ?_, fun hm e he => ?_⟩
        · show ln x + ts_sl ln _ = ln x + ts_sl ln (y :: l)
          rw [i2]
        · rcases List.mem_cons.mp he with q | q
          · rw [q]; exact hm x List.mem_cons_self
          · exact i3 (fun e he => hm e (List.mem_cons_of_mem _ he)) e q
def ts_mi (lf rg : Nat → Nat) (l0 : List Nat) : Nat → List Nat
  | 0 => l0
  | k + 1 => ts_mg (lf (6 + k)) (rg (6 + k)) (6 + k) (ts_mi lf rg l0 k)
theorem ts_mi_all {lf rg ln : Nat → Nat} {l0 : List Nat} {T : Nat} (hl : ∀ t, 6 ≤ t → t < T → ln t = ln (lf t) + ln (rg t)) (h0 : ∀ e ∈ l0, e < 6) : ∀ k, 6 + k ≤ T → (ts_mi lf rg l0 k).length ≤ l0.length ∧ ts_sl ln (ts_mi lf rg l0 k) = ts_sl ln l0 ∧ ∀ e ∈ ts_mi lf rg l0 k, e < 6 + k := by
  intro k
  induction k with
  | zero => exact fun _ => ⟨Nat.le_refl _, rfl, h0⟩
  | succ k ih =>
    intro hk
    have ⟨a, b, c⟩ := ih (by omega)
    have ⟨d, e, f⟩ := ts_mg_all (lf (6 + k)) (rg (6 + k)) (6 + k) ln (6 + (k + 1)) (hl _ (by omega) (by omega)) (by omega) _ (ts_mi lf rg l0 k) (Nat.le_refl _)
    refine ⟨Nat.le_trans d a, e.trans b, f (fun e he => ?_)⟩
    have := c e he
    omega
theorem ts_sl_pair {ln : Nat → Nat} (l : List Nat) : ∀ i x y, l[i]? = some x → l[i + 1]? = some y → ln x + ln y ≤ ts_sl ln l := by
  induction l with
  | nil => intro i x y h; exact absurd h (by rw [List.getElem?_nil]; exact fun z => nomatch z)
  | cons a l ih =>
    intro i x y h1 h2
    cases i with
    | succ i =>
      rw [List.getElem?_cons_succ] at h1 h2
      have := ih i x y h1 h2
      show _ ≤ ln a + ts_sl ln l
      omega
    | zero =>
      rw [List.getElem?_cons_zero] at h1
      rw [List.getElem?_cons_succ] at h2
      cases h1
      cases l with
      | nil => exact absurd h2 (by rw [List.getElem?_nil]; exact fun z => nomatch z)
      | cons b l =>
        rw [List.getElem?_cons_zero] at h2
        cases h2
        show ln _ + ln _ ≤ ln _ + (ln _ + ts_sl ln l)
        omega
def ts_rw (r : Nat → Nat) (n : Nat) : List Nat := (List.range n).map r
theorem ts_rw_get (r : Nat → Nat) (n i : Nat) : (ts_rw r n)[i]? = if i < n then some (r i) else none := by
  unfold ts_rw
  rw [List.getElem?_map]
  by_cases h : i < n
  · rw [if_pos h, List.getElem?_range h]
    rfl
  · rw [if_neg h, List.getElem?_eq_none (by rw [List.length_range]; omega)]
    rfl
theorem ts_rw_len (r : Nat → Nat) (n : Nat) : (ts_rw r n).length = n := by
  unfold ts_rw
  rw [List.length_map, List.length_range]
theorem ts_rw_mem {r : Nat → Nat} {n e : Nat} (h : e ∈ ts_rw r n) : ∃ i, i < n ∧ r i = e := by
  obtain ⟨i, h1, h2⟩ := List.mem_map.mp h
  exact ⟨i, List.mem_range.mp h1, h2⟩
theorem ts_sl_one {ln : Nat → Nat} (l : List Nat) (h : ∀ e ∈ l, ln e = 1) : ts_sl ln l = l.length := by
  induction l with
  | nil => rfl
  | cons a l ih =>
    rw [List.length_cons]
    show ln a + ts_sl ln l = _
    rw [h a List.mem_cons_self, ih (fun e he => h e (List.mem_cons_of_mem _ he))]
    omega
/-- how often x stands before y among the first i places, c each time -/
def ts_am (c : Int32) (L : List Nat) (x y : Nat) : Nat → Int32
  | 0 => 0
  | i + 1 => ts_am c L x y i + (if L[i]? = some x ∧ L[i + 1]? = some y then c else 0)
theorem ts_am_0 {c : Int32} {L : List Nat} {x y : Nat} (h : ∀ i, ¬ (L[i]? = some x ∧ L[i + 1]? = some y)) : ∀ i, ts_am c L x y i = 0 := by
  intro i
  induction i with
  | zero => rfl
  | succ i ih =>
    show ts_am c L x y i + _ = 0
    rw [ih, if_neg (h i)]
    rfl
def ts_fq (WC : Nat → Int32) (ML : Nat → List Nat) (x y : Nat) : Nat → Int32
  | 0 => 0
  | w + 1 => ts_fq WC ML x y w + ts_am (WC w) (ML w) x y ((ML w).length - 1)
theorem ts_fq_0 {WC : Nat → Int32} {ML : Nat → List Nat} {x y : Nat} : ∀ w, (∀ v, v < w → ∀ i, ¬ ((ML v)[i]? = some x ∧ (ML v)[i + 1]? = some y)) → ts_fq WC ML x y w = 0 := by
  intro w
  induction w with
  | zero => exact fun _ => rfl
  | succ w ih =>
    intro h
    show ts_fq WC ML x y w + _ = 0
    rw [ih (fun v hv => h v (by omega)), ts_am_0 (h w (by omega))]
    rfl
/-- token t may stand at place p of the row r of length n, bx being barred -/
def ts_fit (bx : Int32) (ln : Nat → Nat) (sp : Nat → Nat → Nat) (r : Nat → Nat) (n t p : Nat) : Bool :=
  decide (¬ nI t = bx ∧ p + ln t ≤ n ∧ ∀ i, i < ln t → r (p + i) = sp t i)
theorem ts_fit_t {bx : Int32} {ln : Nat → Nat} {sp : Nat → Nat → Nat} {r : Nat → Nat} {n t p : Nat} : ts_fit bx ln sp r n t p = true ↔ (¬ nI t = bx ∧ p + ln t ≤ n ∧ ∀ i, i < ln t → r (p + i) = sp t i) := decide_eq_true_iff
/-- the tokens: T of them, lengths ln, spellings sp -/
def ts_En (T : Nat) (ln : Nat → Nat) (sp : Nat → Nat → Nat) : Prop :=
  6 ≤ T ∧ T ≤ 20 ∧ (∀ t, t < T → 1 ≤ ln t) ∧ (∀ t, ln t ≤ 8) ∧ (∀ t, t < 6 → ln t = 1 ∧ sp t 0 = t)
theorem ts_En_FB {bx : Int32} {T n : Nat} {ln : Nat → Nat} {sp : Nat → Nat → Nat} {r : Nat → Nat} (h : ts_En T ln sp) : ts_FB (ts_fit bx ln sp r n) ln T n :=
  fun t p ht hf => ⟨h.2.2.1 t ht, (ts_fit_t.mp hf).2.1⟩
theorem ts_En_let {bx : Int32} {T n : Nat} {ln : Nat → Nat} {sp : Nat → Nat → Nat} {r : Nat → Nat} (h : ts_En T ln sp) (hb : ∀ t, t < 6 → ¬ nI t = bx) (hr : ∀ i, r i < 6) : ∀ p, p < n → r p < T ∧ ts_fit bx ln sp r n (r p) p = true := by
  intro p hp
  obtain ⟨h1, h2, h3, h4, h5⟩ := h
  have a := hr p
  have ⟨b, c⟩ := h5 (r p) a
  refine ⟨by omega, ts_fit_t.mpr ⟨hb _ a, by omega, fun i hi => ?_⟩⟩
  have : i = 0 := by omega
  subst this
  rw [c, Nat.add_zero]
theorem ts_lb_6 {bx : Int32} {T n : Nat} {ln : Nat → Nat} {sp : Nat → Nat → Nat} {r : Nat → Nat} (h : ts_En T ln sp) {p : Nat} (hr : r p < 6) : ∀ t, t ≤ 6 → ts_lb (ts_fit bx ln sp r n) ln r p t = r p := by
  intro t
  induction t with
  | zero => exact fun _ => rfl
  | succ t ih =>
    intro ht
    have a := (h.2.2.2.2 t (by omega)).1
    have b := (h.2.2.2.2 (r p) hr).1
    unfold ts_lb
    rw [ih (by omega), if_neg]
    intro z
    omega
