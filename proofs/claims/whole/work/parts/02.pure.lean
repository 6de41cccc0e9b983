section
variable {α : Type} {k : α → Nat}
/-- stable insertion by key, and the first six -/
def ts_ins (k : α → Nat) : List α → α → List α
  | [], x => [x]
  | a :: l, x => if k x < k a then x :: a :: l else a :: ts_ins k l x
def ts_top (k : α → Nat) (l : List α) (x : α) : List α := (ts_ins k l x).take 6
theorem ts_ins_len (l : List α) (x : α) : (ts_ins k l x).length = l.length + 1 := by
  induction l with
  | nil => rfl
  | cons a l ih =>
    unfold ts_ins
    split
    · rfl
    · simp only [List.length_cons, ih]
theorem ts_ins_mem {l : List α} {x y : α} (h : y ∈ ts_ins k l x) : y = x ∨ y ∈ l := by
  induction l with
  | nil =>
    unfold ts_ins at h
    exact Or.inl (List.mem_singleton.mp h)
  | cons a l ih =>
    unfold ts_ins at h
    split at h
    · rcases List.mem_cons.mp h with e | e
      · exact Or.inl e
      · exact Or.inr e
    · rcases List.mem_cons.mp h with e | e
      · exact Or.inr (List.mem_cons.mpr (Or.inl e))
      · rcases ih e with e | e
        · exact Or.inl e
        · exact Or.inr (List.mem_cons.mpr (Or.inr e))
theorem ts_take_ins (l : List α) (x : α) : ∀ n, (ts_ins k (l.take n) x).take n = (ts_ins k l x).take n := by
  induction l with
  | nil => intro n; rw [List.take_nil]
  | cons a l ih =>
    intro n
    cases n with
    | zero => rw [List.take_zero, List.take_zero]
    | succ n =>
      rw [List.take_succ_cons]
      unfold ts_ins
      split
      · rw [List.take_succ_cons, List.take_succ_cons]
        congr 1
        cases n with
        | zero => rw [List.take_zero, List.take_zero]
        | succ n =>
          rw [List.take_succ_cons, List.take_succ_cons, List.take_take]
          congr 2
          omega
      · rw [List.take_succ_cons, List.take_succ_cons, ih n]
theorem ts_ins_comm (l : List α) {x y : α} (h : k x ≠ k y) : ts_ins k (ts_ins k l x) y = ts_ins k (ts_ins k l y) x := by
  induction l with
  | nil =>
    simp only [ts_ins]
    by_cases a : k x < k y
    · rw [if_pos a, if_neg (by omega)]
    · rw [if_neg a, if_pos (by omega)]
  | cons a l ih =>
    simp only [ts_ins]
    by_cases hx : k x < k a
    · by_cases hy : k y < k a
      · rw [if_pos hx, if_pos hy]
        simp only [ts_ins]
        by_cases z : k x < k y
        · rw [if_pos z, if_neg (by omega), if_pos hy]
        · rw [if_neg z, if_pos (by omega), if_pos hx]
      · rw [if_pos hx, if_neg hy]
        simp only [ts_ins]
        rw [if_pos hx, if_neg (by omega), if_neg hy]
    · by_cases hy : k y < k a
      · rw [if_neg hx, if_pos hy]
        simp only [ts_ins]
        rw [if_pos hy, if_neg (by omega), if_neg hx]
      · rw [if_neg hx, if_neg hy]
        simp only [ts_ins]
        rw [if_neg hx, if_neg hy, ih]
theorem ts_fold_take (L : List α) : ∀ l : List α, L.foldl (ts_top k) (l.take 6) = (L.foldl (ts_ins k) l).take 6 := by
  induction L with
  | nil => intro l; rfl
  | cons x L ih =>
    intro l
    rw [List.foldl_cons, List.foldl_cons, ← ih]
    congr 1
    exact ts_take_ins l x 6
def ts_Srt (k : α → Nat) (l : List α) : Prop := l.Pairwise (fun a b => k a ≤ k b)
theorem ts_ins_srt {l : List α} (x : α) (h : ts_Srt k l) : ts_Srt k (ts_ins k l x) := by
  induction l with
  | nil => exact List.pairwise_singleton _ _
  | cons a l ih =>
    have ⟨h1, h2⟩ := List.pairwise_cons.mp h
    unfold ts_ins
    split
    · next z =>
      refine List.pairwise_cons.mpr ⟨fun b hb => ?_, h⟩
      rcases List.mem_cons.mp hb with e | e
      · subst e; omega
      · have := h1 b e; omega
    · next z =>
      refine List.pairwise_cons.mpr ⟨fun b hb => ?_, ih h2⟩
      rcases ts_ins_mem hb with e | e
      · subst e; omega
      · exact h1 b e
theorem ts_top_srt {l : List α} (x : α) (h : ts_Srt k l) : ts_Srt k (ts_top k l x) := List.Pairwise.sublist (List.take_sublist 6 _) (ts_ins_srt x h)
theorem ts_top_len (l : List α) (x : α) : (ts_top k l x).length ≤ 6 := by
  unfold ts_top
  rw [List.length_take]
  omega
theorem ts_top_mem {l : List α} {x y : α} (h : y ∈ ts_top k l x) : y = x ∨ y ∈ l := ts_ins_mem (List.mem_of_mem_take h)
theorem ts_pass {x : α} (M : List α) : ∀ acc : List α, (∀ b ∈ M, k x < k b) → M.foldl (ts_ins k) (ts_ins k acc x) = ts_ins k (M.foldl (ts_ins k) acc) x := by
  induction M with
  | nil => intro acc _; rfl
  | cons b M ih =>
    intro acc h
    have hb := h b (List.mem_cons_self)
    rw [List.foldl_cons, List.foldl_cons, ts_ins_comm acc (by omega), ih _ (fun c hc => h c (List.mem_cons_of_mem _ hc))]
theorem ts_ins_fold {x : α} (M : List α) : ∀ acc : List α, ts_Srt k M → (ts_ins k M x).foldl (ts_ins k) acc = ts_ins k (M.foldl (ts_ins k) acc) x := by
  induction M with
  | nil => intro acc _; rfl
  | cons a M ih =>
    intro acc h
    have ⟨h1, h2⟩ := List.pairwise_cons.mp h
    by_cases z : k x < k a
    · have e : ts_ins k (a :: M) x = x :: a :: M := by simp only [ts_ins]; rw [if_pos z]
      rw [e, List.foldl_cons]
      refine ts_pass (a :: M) acc (fun b hb => ?_)
      rcases List.mem_cons.mp hb with e | e
      · subst e; exact z
      · have := h1 b e; omega
    · have e : ts_ins k (a :: M) x = a :: ts_ins k M x := by simp only [ts_ins]; rw [if_neg z]
      rw [e, List.foldl_cons, List.foldl_cons]
      exact ih _ h2
theorem ts_sort_fold (L : List α) : ∀ M acc : List α, ts_Srt k M → (L.foldl (ts_ins k) M).foldl (ts_ins k) acc = L.foldl (ts_ins k) (M.foldl (ts_ins k) acc) := by
  induction L with
  | nil => intro M acc _; rfl
  | cons x L ih =>
    intro M acc h
    rw [List.foldl_cons, List.foldl_cons, ih _ _ (ts_ins_srt x h), ts_ins_fold M acc h]
theorem ts_fold_srt (L : List α) : ∀ M : List α, ts_Srt k M → ts_Srt k (L.foldl (ts_ins k) M) := by
  induction L with
  | nil => intro M h; exact h
  | cons x L ih => intro M h; exact ih _ (ts_ins_srt x h)
def ts_Q (k : α → Nat) (b : Nat) : Nat → List α → Prop
  | 0, _ => True
  | _ + 1, [] => False
  | j + 1, a :: l => k a ≤ b ∧ ts_Q k b j l
theorem ts_Q_ins {b : Nat} {y : α} (hy : k y ≤ b) (l : List α) : ∀ j, ts_Q k b j l → ts_Q k b (j + 1) (ts_ins k l y) := by
  induction l with
  | nil =>
    intro j h
    cases j with
    | zero => exact ⟨hy, True.intro⟩
    | succ j => exact absurd h (fun z => z)
  | cons a l ih =>
    intro j h
    simp only [ts_ins]
    by_cases z : k y < k a
    · rw [if_pos z]
      exact ⟨hy, h⟩
    · rw [if_neg z]
      cases j with
      | zero => exact ⟨by omega, True.intro⟩
      | succ j => exact ⟨h.1, ih j h.2⟩
theorem ts_Q_fold {b : Nat} (M : List α) : ∀ (j : Nat) (l : List α), (∀ y ∈ M, k y ≤ b) → ts_Q k b j l → ts_Q k b (j + M.length) (M.foldl (ts_ins k) l) := by
  induction M with
  | nil => intro j l _ h; exact h
  | cons a M ih =>
    intro j l hM h
    have := ih (j + 1) (ts_ins k l a) (fun y hy => hM y (List.mem_cons_of_mem _ hy)) (ts_Q_ins (hM a List.mem_cons_self) l j h)
    rw [List.foldl_cons, List.length_cons]
    rw [show j + (M.length + 1) = j + 1 + M.length by omega]
    exact this
theorem ts_Q_keep {b : Nat} {y : α} (hy : b ≤ k y) (l : List α) : ∀ j, ts_Q k b j l → ts_Q k b j (ts_ins k l y) ∧ (ts_ins k l y).take j = l.take j := by
  induction l with
  | nil =>
    intro j h
    cases j with
    | zero => exact ⟨True.intro, by rw [List.take_zero, List.take_zero]⟩
    | succ j => exact absurd h (fun z => z)
  | cons a l ih =>
    intro j h
    cases j with
    | zero => exact ⟨True.intro, by rw [List.take_zero, List.take_zero]⟩
    | succ j =>
      have h1 : k a ≤ b := h.1
      simp only [ts_ins]
      rw [if_neg (by omega), List.take_succ_cons, List.take_succ_cons]
      exact ⟨⟨h1, (ih j h.2).1⟩, by rw [(ih j h.2).2]⟩
theorem ts_Q_drop {b : Nat} (M : List α) : ∀ (j : Nat) (l : List α), (∀ y ∈ M, b ≤ k y) → ts_Q k b j l → (M.foldl (ts_ins k) l).take j = l.take j := by
  induction M with
  | nil => intro j l _ _; rfl
  | cons a M ih =>
    intro j l hM h
    have ⟨q1, q2⟩ := ts_Q_keep (hM a List.mem_cons_self) l j h
    rw [List.foldl_cons, ih j _ (fun y hy => hM y (List.mem_cons_of_mem _ hy)) q1, q2]
theorem ts_cut6 (M acc : List α) (h : ts_Srt k M) : (M.foldl (ts_ins k) acc).take 6 = ((M.take 6).foldl (ts_ins k) acc).take 6 := by
  by_cases hl : M.length ≤ 6
  · rw [List.take_of_length_le hl]
  · have e : M = M.take 6 ++ M.drop 6 := (List.take_append_drop 6 M).symm
    cases hd : M.drop 6 with
    | nil =>
      have := congrArg List.length hd
      rw [List.length_drop, List.length_nil] at this
      omega
    | cons m R =>
      have h' := h
      unfold ts_Srt at h'
      rw [e, hd, List.pairwise_append] at h'
      obtain ⟨_, p2, p3⟩ := h'
      have p4 := (List.pairwise_cons.mp p2).1
      have q := ts_Q_fold (k := k) (b := k m) (M.take 6) 0 acc (fun y hy => p3 y hy m List.mem_cons_self) True.intro
      rw [List.length_take, show 0 + min 6 M.length = 6 by omega] at q
      have r := ts_Q_drop (k := k) (b := k m) (m :: R) 6 _ (fun y hy => by
        rcases List.mem_cons.mp hy with z | z
        · subst z; exact Nat.le_refl _
        · exact p4 y z) q
      rw [← r, ← List.foldl_append, ← hd, ← e]
/-- what is offered may be cut to its first six first -/
theorem ts_absorb (L acc : List α) (h : acc.length ≤ 6) : L.foldl (ts_top k) acc = (L.foldl (ts_top k) []).foldl (ts_top k) acc := by
  have e : acc = acc.take 6 := (List.take_of_length_le h).symm
  have e0 : L.foldl (ts_top k) [] = (L.foldl (ts_ins k) []).take 6 := ts_fold_take L []
  have s0 : ts_Srt k (L.foldl (ts_ins k) []) := ts_fold_srt L [] List.Pairwise.nil
  rw [e, ts_fold_take, e0, ts_fold_take, ← ts_cut6 _ _ s0, ts_sort_fold L [] acc List.Pairwise.nil]
  rfl
theorem ts_ins_map {f : α → α} {c : Nat} (hf : ∀ y, k (f y) = k y + c) (l : List α) (x : α) : (ts_ins k l x).map f = ts_ins k (l.map f) (f x) := by
  induction l with
  | nil => rfl
  | cons a l ih =>
    simp only [ts_ins, List.map_cons, hf]
    by_cases z : k x < k a
    · rw [if_pos z, if_pos (by omega)]
      rfl
    · rw [if_neg z, if_neg (by omega), List.map_cons, ih]
theorem ts_fold_map {f : α → α} {c : Nat} (hf : ∀ y, k (f y) = k y + c) (L : List α) : ∀ M : List α, (L.foldl (ts_top k) M).map f = (L.map f).foldl (ts_top k) (M.map f) := by
  induction L with
  | nil => intro M; rfl
  | cons x L ih =>
    intro M
    rw [List.foldl_cons, List.map_cons, List.foldl_cons, ih]
    congr 1
    unfold ts_top
    rw [List.map_take, ts_ins_map hf]
theorem ts_absorb_map {f : α → α} {c : Nat} (hf : ∀ y, k (f y) = k y + c) (L acc : List α) (h : acc.length ≤ 6) : (L.map f).foldl (ts_top k) acc = ((L.foldl (ts_top k) []).map f).foldl (ts_top k) acc := by
  rw [ts_absorb (L.map f) acc h, ts_fold_map hf L []]
  rfl
theorem ts_pos (K : List α) (x : α) : ∀ r, ts_Srt k K → r ≤ K.length → (∀ j e, r ≤ j → K[j]? = some e → k x < k e) → (∀ e, 0 < r → K[r - 1]? = some e → k e ≤ k x) → ts_ins k K x = K.take r ++ x :: K.drop r := by
  induction K with
  | nil =>
    intro r _ hr _ _
    have : r = 0 := by rw [List.length_nil] at hr; omega
    subst this
    rfl
  | cons a K ih =>
    intro r hs hr h1 h2
    have ⟨p1, p2⟩ := List.pairwise_cons.mp hs
    cases r with
    | zero =>
      simp only [ts_ins]
      rw [if_pos (h1 0 a (Nat.le_refl 0) rfl)]
      rfl
    | succ r =>
      have hr' : r ≤ K.length := by rw [List.length_cons] at hr; omega
      have ha : k a ≤ k x := by
        cases r with
        | zero => exact h2 a (by omega) rfl
        | succ r =>
          have hlt : r < K.length := by omega
          have e1 : K[r]? = some K[r] := List.getElem?_eq_getElem hlt
          have := h2 K[r] (by omega) (by rw [Nat.add_sub_cancel, List.getElem?_cons_succ]; exact e1)
          have := p1 K[r] (List.getElem_mem hlt)
          omega
      simp only [ts_ins]
      rw [if_neg (by omega), List.take_succ_cons, List.drop_succ_cons, List.cons_append]
      congr 1
      refine ih r p2 hr' (fun j e hj he => h1 (j + 1) e (by omega) (by rw [List.getElem?_cons_succ]; exact he)) (fun e h0 he => h2 e (by omega) ?_)
      rw [Nat.add_sub_cancel]
      obtain ⟨q, rfl⟩ : ∃ q, r = q + 1 := ⟨r - 1, by omega⟩
      rw [List.getElem?_cons_succ]
      rw [Nat.add_sub_cancel] at he
      exact he
theorem ts_pos_get (K : List α) (x : α) (r j : Nat) (hr : r ≤ K.length) : (K.take r ++ x :: K.drop r)[j]? = if j < r then K[j]? else if j = r then some x else K[j - 1]? := by
  have hl : (K.take r).length = r := by rw [List.length_take]; omega
  by_cases h : j < r
  · rw [if_pos h, List.getElem?_append_left (by omega), List.getElem?_take, if_pos h]
  · rw [if_neg h, List.getElem?_append_right (by omega), hl]
    by_cases h2 : j = r
    · rw [if_pos h2, h2, Nat.sub_self]
      rfl
    · rw [if_neg h2]
      obtain ⟨q, hq⟩ : ∃ q, j - r = q + 1 := ⟨j - r - 1, by omega⟩
      rw [hq, List.getElem?_cons_succ, List.getElem?_drop]
      congr 1
      omega
/-- a table from the back -/
theorem ts_tab {β : Type} (st : (Nat → β) → Nat → β) (b : β) (n : Nat) (loc : ∀ (K K' : Nat → β) (p : Nat), p < n → (∀ q, p < q → q ≤ n → K q = K' q) → st K p = st K' p) : ∃ K : Nat → β, K n = b ∧ ∀ p, p < n → K p = st K p := by
  have H : ∀ j, j ≤ n → ∃ K : Nat → β, K n = b ∧ ∀ p, n - j ≤ p → p < n → K p = st K p := by
    intro j
    induction j with
    | zero => exact fun _ => ⟨fun _ => b, rfl, fun p h1 h2 => absurd h2 (by omega)⟩
    | succ j ih =>
      intro hj
      obtain ⟨K, h0, h1⟩ := ih (by omega)
      refine ⟨fun q => if q = n - (j + 1) then st K q else K q, ?_, fun p hp hn => ?_⟩
      · show (if n = n - (j + 1) then _ else _) = b
        rw [if_neg (by omega)]
        exact h0
      · have e : st (fun q => if q = n - (j + 1) then st K q else K q) p = st K p := by
          refine loc _ _ p hn (fun q hq hqn => ?_)
          show (if q = n - (j + 1) then _ else _) = _
          rw [if_neg (by omega)]
        rw [e]
        show (if p = n - (j + 1) then _ else _) = _
        by_cases z : p = n - (j + 1)
        · rw [if_pos z]
        · rw [if_neg z]
          exact h1 p (by omega) hn
  obtain ⟨K, h0, h1⟩ := H n (Nat.le_refl n)
  exact ⟨K, h0, fun p hp => h1 p (by omega) hp⟩
end
