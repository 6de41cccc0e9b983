section
theorem pk_us {f : Nat → Int32} {k : Nat} {x : Int32} : upd f k x k = x := if_pos rfl
theorem pk_un {f : Nat → Int32} {k j : Nat} {x : Int32} (h : j ≠ k) : upd f k x j = f j := if_neg h
theorem pk_sub {a b : Nat} (h : b ≤ a) : nI a - nI b = nI (a - b) := by
  obtain ⟨c, rfl⟩ : ∃ c, a = c + b := ⟨a - b, by omega⟩
  rw [← nI_add, Int32.add_sub_cancel, Nat.add_sub_cancel]
theorem pk_m1 (n : Nat) : nI (n + 1) + (-1) = nI n := by
  rw [← nI_1, Int32.add_assoc, show (1 : Int32) + (-1) = 0 from rfl, Int32.add_zero]
theorem pk_mul (a b : Nat) : nI a * nI b = nI (a * b) := (Int32.ofNat_mul a b).symm
theorem pk_div {a d : Nat} (ha : a < 2 ^ 31) (h0 : 0 < d) (hd : d < 2 ^ 31) : nI a / nI d = nI (a / d) := by
  apply Int32.toInt_inj.mp
  rw [lg_idiv_nonneg (by rw [nI_toInt ha]; omega) (by rw [nI_toInt hd]; omega), nI_toInt ha, nI_toInt hd, nI_toInt (Nat.lt_of_le_of_lt (Nat.div_le_self a d) ha)]
  first | rfl | exact (Int.natCast_ediv _ _).symm
theorem pk_rem {a d : Nat} (ha : a < 2 ^ 31) (h0 : 0 < d) (hd : d < 2 ^ 31) : nI a - nI a / nI d * nI d = nI (a % d) := by
  rw [pk_div ha h0 hd, pk_mul, pk_sub (Nat.div_mul_le_self a d)]
  exact congrArg nI (by have := Nat.div_add_mod' a d; omega)
theorem pk_ix (x : Int32) {n : Nat} (hn : n < 2 ^ 31) : x < 0 ∨ nI n ≤ x ∨ ∃ j : Nat, j < n ∧ x = nI j := by
  by_cases h : x < 0
  · exact Or.inl h
  · obtain ⟨j, hj, rfl⟩ := nI_of h
    by_cases h2 : j < n
    · exact Or.inr (Or.inr ⟨j, h2, rfl⟩)
    · exact Or.inr (Or.inl (nI_le (by omega) hj))
theorem pk_le {x y : Int32} {A B : Prop} (a b : Nat) (f : a ≤ b → A) (g : b < a → B) (hx : x = nI a := by rfl) (hy : y = nI b := by rfl) (ha : a < 2 ^ 31 := by omega) (hb : b < 2 ^ 31 := by omega) : (x ≤ y → A) ∧ (¬ x ≤ y → B) := by
  subst hx hy
  rw [nI_leI ha hb]
  exact ⟨f, fun z => g (by omega)⟩
theorem pk_lt {x y : Int32} {A B : Prop} (a b : Nat) (f : a < b → A) (g : b ≤ a → B) (hx : x = nI a := by rfl) (hy : y = nI b := by rfl) (ha : a < 2 ^ 31 := by omega) (hb : b < 2 ^ 31 := by omega) : (x < y → A) ∧ (¬ x < y → B) := by
  subst hx hy
  rw [nI_ltI ha hb]
  exact ⟨f, fun z => g (by omega)⟩
theorem pk_eq {x y : Int32} {A B : Prop} (a b : Nat) (f : a = b → A) (g : a ≠ b → B) (hx : x = nI a := by rfl) (hy : y = nI b := by rfl) (ha : a < 2 ^ 31 := by omega) (hb : b < 2 ^ 31 := by omega) : (x = y → A) ∧ (¬ x = y → B) := by
  subst hx hy
  rw [nI_eq ha hb]
  exact ⟨f, g⟩
theorem pk_in {x : Int32} (n N : Nat) (h : n < N) (hx : x = nI n := by rfl) (hN : N < 2 ^ 31 := by omega) : vp_in x N := by
  subst hx
  exact vp_in_nI h hN
theorem pk_cl {x : Int32} (n : Nat) (hx : x = nI n := by rfl) (h : n < 2 ^ 31 := by omega) : x.toNatClampNeg = n := by
  subst hx
  exact nI_clamp h
/-- a Nat function as an array -/
def ts_F (g : Nat → Nat) : Nat → Int32 := fun i => nI (g i)
def ts_un (g : Nat → Nat) (k v : Nat) : Nat → Nat := fun j => if j = k then v else g j
theorem ts_un_s {g : Nat → Nat} {k v : Nat} : ts_un g k v k = v := if_pos rfl
theorem ts_un_n {g : Nat → Nat} {k v j : Nat} (h : j ≠ k) : ts_un g k v j = g j := if_neg h
theorem ts_F_up (g : Nat → Nat) (k v : Nat) : upd (ts_F g) k (nI v) = ts_F (ts_un g k v) := by
  funext j
  unfold upd ts_F ts_un
  by_cases h : j = k
  · rw [if_pos h, if_pos h]
  · rw [if_neg h, if_neg h]
theorem ts_un_all {P : Nat → Prop} {g : Nat → Nat} {k v : Nat} (h : ∀ i, P (g i)) (hv : P v) : ∀ i, P (ts_un g k v i) := by
  intro i
  unfold ts_un
  split
  · exact hv
  · exact h i
def ts_cp (a b : Nat → Int32) (n : Nat) : Nat → Int32 := fun j => if j < n then b j else a j
theorem ts_cp_0 (a b : Nat → Int32) : ts_cp a b 0 = a := by
  funext j
  exact if_neg (Nat.not_lt_zero j)
theorem ts_cp_s (a b : Nat → Int32) (n : Nat) : upd (ts_cp a b n) n (b n) = ts_cp a b (n + 1) := by
  funext j
  unfold upd ts_cp
  by_cases h : j = n
  · subst h
    rw [if_pos rfl, if_pos (Nat.lt_succ_self j)]
  · rw [if_neg h]
    by_cases h2 : j < n
    · rw [if_pos h2, if_pos (by omega)]
    · rw [if_neg h2, if_neg (by omega)]
theorem ts_cp_lt {a b : Nat → Int32} {n j : Nat} (h : j < n) : ts_cp a b n j = b j := if_pos h
theorem ts_cp_ge {a b : Nat → Int32} {n j : Nat} (h : n ≤ j) : ts_cp a b n j = a j := if_neg (by omega)
theorem ts_ncl {n : Nat} (h : n < 2 ^ 31) : (nI n).toNatClampNeg = n := nI_clamp h
/-- an array holds a list from its start -/
def ts_Hd (a : Nat → Int32) (l : List Nat) : Prop := ∀ i e, l[i]? = some e → a i = nI e
theorem ts_ix {x : Int32} {P : Prop} (N : Nat) (hN : N < 2 ^ 31) (f : x < 0 → P) (g : nI N ≤ x → ¬ x < 0 → P) (h : ∀ j, j < N → x = nI j → P) : P := by
  rcases pk_ix x hN with a | a | ⟨j, hj, e⟩
  · exact f a
  · by_cases z : x < 0
    · exact f z
    · exact g a z
  · exact h j hj e
theorem ts_upup (f : Nat → Int32) (k : Nat) (x y : Int32) : upd (upd f k x) k y = upd f k y := by
  funext j
  unfold upd
  by_cases h : j = k
  · rw [if_pos h, if_pos h]
  · rw [if_neg h, if_neg h, if_neg h]
theorem ts_unun (f : Nat → Nat) (k x y : Nat) : ts_un (ts_un f k x) k y = ts_un f k y := by
  funext j
  unfold ts_un
  by_cases h : j = k
  · rw [if_pos h, if_pos h]
  · rw [if_neg h, if_neg h, if_neg h]
theorem ts_neg1 : ((-1 : Int32) < 0) := by decide
theorem ts_m1 {d : Nat} (h : 0 < d) : nI d + (-1) = nI (d - 1) := by
  obtain ⟨q, rfl⟩ : ∃ q, d = q + 1 := ⟨d - 1, by omega⟩
  exact pk_m1 q
theorem ts_nn {n : Nat} (h : n < 2 ^ 31) : ¬ nI n < 0 := by
  have := nI_ltI (a := n) (b := 0) h (by decide)
  intro z
  exact absurd (this.mp z) (Nat.not_lt_zero n)
theorem ts_sub1 {d : Nat} (h : 0 < d) : nI d - 1 = nI (d - 1) := pk_sub (a := d) (b := 1) h
theorem ts_v {n N : Nat} (h : n < N) (hN : N < 2 ^ 31 := by decide) : vp_in (nI n) N := vp_in_nI h hN
theorem ts_ma (c w i : Nat) : nI w * nI c + nI i = nI (w * c + i) := by rw [pk_mul, nI_add]
theorem ts_mb (c w i : Nat) : nI c * nI w + nI i = nI (c * w + i) := by rw [pk_mul, nI_add]
theorem ts_Hd_snoc {a : Nat → Int32} {l : List Nat} {e : Nat} (h : ts_Hd a l) : ts_Hd (upd a l.length (nI e)) (l ++ [e]) := by
  intro i x hx
  by_cases hi : i < l.length
  · rw [List.getElem?_append_left hi] at hx
    rw [pk_un (by omega)]
    exact h i x hx
  · rw [List.getElem?_append_right (by omega)] at hx
    by_cases z : i = l.length
    · subst z
      rw [Nat.sub_self] at hx
      cases hx
      exact pk_us
    · obtain ⟨q, hq⟩ : ∃ q, i - l.length = q + 1 := ⟨i - l.length - 1, by omega⟩
      rw [hq, List.getElem?_cons_succ, List.getElem?_nil] at hx
      cases hx
theorem ts_Hd_nil (a : Nat → Int32) : ts_Hd a [] := fun i e h => by rw [List.getElem?_nil] at h; cases h
theorem ts_drop {l : List Nat} {i e : Nat} (h : l[i]? = some e) : l.drop i = e :: l.drop (i + 1) := by
  obtain ⟨h1, h2⟩ := List.getElem?_eq_some_iff.mp h
  rw [List.drop_eq_getElem_cons h1, h2]
theorem ts_get {l : List Nat} {i : Nat} (h : i < l.length) : ∃ e, l[i]? = some e := ⟨l[i], List.getElem?_eq_getElem h⟩
end
section
section
variable {α : Type} {k : α → Nat}
/-- stable insertion by key, and the first six -/
def ts_ins (k : α → Nat) : List α → α → List α
  | [], x => [x]
  | a :: l, x => if k x < k a then x :: a :: l else a :: ts_ins k l x
def ts_top (k : α → Nat) (l : List α) (x : α) : List α := (ts_ins k l x).take 6
theorem ts_ins_len (l : List α) (x : α) : (ts_ins k l x).length = l.length + 1 := by
  induction l with
  | nil => rfl
  | cons a l ih =>
    unfold ts_ins
    split
    · rfl
    · simp only [List.length_cons, ih]
theorem ts_ins_mem {l : List α} {x y : α} (h : y ∈ ts_ins k l x) : y = x ∨ y ∈ l := by
  induction l with
  | nil =>
    unfold ts_ins at h
    exact Or.inl (List.mem_singleton.mp h)
  | cons a l ih =>
    unfold ts_ins at h
    split at h
    · rcases List.mem_cons.mp h with e | e
      · exact Or.inl e
      · exact Or.inr e
    · rcases List.mem_cons.mp h with e | e
      · exact Or.inr (List.mem_cons.mpr (Or.inl e))
      · rcases ih e with e | e
        · exact Or.inl e
        · exact Or.inr (List.mem_cons.mpr (Or.inr e))
theorem ts_take_ins (l : List α) (x : α) : ∀ n, (ts_ins k (l.take n) x).take n = (ts_ins k l x).take n := by
  induction l with
  | nil => intro n; rw [List.take_nil]
  | cons a l ih =>
    intro n
    cases n with
    | zero => rw [List.take_zero, List.take_zero]
    | succ n =>
      rw [List.take_succ_cons]
      unfold ts_ins
      split
      · rw [List.take_succ_cons, List.take_succ_cons]
        congr 1
        cases n with
        | zero => rw [List.take_zero, List.take_zero]
        | succ n =>
          rw [List.take_succ_cons, List.take_succ_cons, List.take_take]
          congr 2
          omega
      · rw [List.take_succ_cons, List.take_succ_cons, ih n]
theorem ts_ins_comm (l : List α) {x y : α} (h : k x ≠ k y) : ts_ins k (ts_ins k l x) y = ts_ins k (ts_ins k l y) x := by
  induction l with
  | nil =>
    simp only [ts_ins]
    by_cases a : k x < k y
    · rw [if_pos a, if_neg (by omega)]
    · rw [if_neg a, if_pos (by omega)]
  | cons a l ih =>
    simp only [ts_ins]
    by_cases hx : k x < k a
    · by_cases hy : k y < k a
      · rw [if_pos hx, if_pos hy]
        simp only [ts_ins]
        by_cases z : k x < k y
        · rw [if_pos z, if_neg (by omega), if_pos hy]
        · rw [if_neg z, if_pos (by omega), if_pos hx]
      · rw [if_pos hx, if_neg hy]
        simp only [ts_ins]
        rw [if_pos hx, if_neg (by omega), if_neg hy]
    · by_cases hy : k y < k a
      · rw [if_neg hx, if_pos hy]
        simp only [ts_ins]
        rw [if_pos hy, if_neg (by omega), if_neg hx]
      · rw [if_neg hx, if_neg hy]
        simp only [ts_ins]
        rw [if_neg hx, if_neg hy, ih]
theorem ts_fold_take (L : List α) : ∀ l : List α, L.foldl (ts_top k) (l.take 6) = (L.foldl (ts_ins k) l).take 6 := by
  induction L with
  | nil => intro l; rfl
  | cons x L ih =>
    intro l
    rw [List.foldl_cons, List.foldl_cons, ← ih]
    congr 1
    exact ts_take_ins l x 6
def ts_Srt (k : α → Nat) (l : List α) : Prop := l.Pairwise (fun a b => k a ≤ k b)
theorem ts_ins_srt {l : List α} (x : α) (h : ts_Srt k l) : ts_Srt k (ts_ins k l x) := by
  induction l with
  | nil => exact List.pairwise_singleton _ _
  | cons a l ih =>
    have ⟨h1, h2⟩ := List.pairwise_cons.mp h
    unfold ts_ins
    split
    · next z =>
      refine List.pairwise_cons.mpr ⟨fun b hb => ?_, h⟩
      rcases List.mem_cons.mp hb with e | e
      · subst e; omega
      · have := h1 b e; omega
    · next z =>
      refine List.pairwise_cons.mpr ⟨fun b hb => ?_, ih h2⟩
      rcases ts_ins_mem hb with e | e
      · subst e; omega
      · exact h1 b e
theorem ts_top_srt {l : List α} (x : α) (h : ts_Srt k l) : ts_Srt k (ts_top k l x) := List.Pairwise.sublist (List.take_sublist 6 _) (ts_ins_srt x h)
theorem ts_top_len (l : List α) (x : α) : (ts_top k l x).length ≤ 6 := by
  unfold ts_top
  rw [List.length_take]
  omega
theorem ts_top_mem {l : List α} {x y : α} (h : y ∈ ts_top k l x) : y = x ∨ y ∈ l := ts_ins_mem (List.mem_of_mem_take h)
theorem ts_pass {x : α} (M : List α) : ∀ acc : List α, (∀ b ∈ M, k x < k b) → M.foldl (ts_ins k) (ts_ins k acc x) = ts_ins k (M.foldl (ts_ins k) acc) x := by
  induction M with
  | nil => intro acc _; rfl
  | cons b M ih =>
    intro acc h
    have hb := h b (List.mem_cons_self)
    rw [List.foldl_cons, List.foldl_cons, ts_ins_comm acc (by omega), ih _ (fun c hc => h c (List.mem_cons_of_mem _ hc))]
theorem ts_ins_fold {x : α} (M : List α) : ∀ acc : List α, ts_Srt k M → (ts_ins k M x).foldl (ts_ins k) acc = ts_ins k (M.foldl (ts_ins k) acc) x := by
  induction M with
  | nil => intro acc _; rfl
  | cons a M ih =>
    intro acc h
    have ⟨h1, h2⟩ := List.pairwise_cons.mp h
    by_cases z : k x < k a
    · have e : ts_ins k (a :: M) x = x :: a :: M := by simp only [ts_ins]; rw [if_pos z]
      rw [e, List.foldl_cons]
      refine ts_pass (a :: M) acc (fun b hb => ?_)
      rcases List.mem_cons.mp hb with e | e
      · subst e; exact z
      · have := h1 b e; omega
    · have e : ts_ins k (a :: M) x = a :: ts_ins k M x := by simp only [ts_ins]; rw [if_neg z]
      rw [e, List.foldl_cons, List.foldl_cons]
      exact ih _ h2
theorem ts_sort_fold (L : List α) : ∀ M acc : List α, ts_Srt k M → (L.foldl (ts_ins k) M).foldl (ts_ins k) acc = L.foldl (ts_ins k) (M.foldl (ts_ins k) acc) := by
  induction L with
  | nil => intro M acc _; rfl
  | cons x L ih =>
    intro M acc h
    rw [List.foldl_cons, List.foldl_cons, ih _ _ (ts_ins_srt x h), ts_ins_fold M acc h]
theorem ts_fold_srt (L : List α) : ∀ M : List α, ts_Srt k M → ts_Srt k (L.foldl (ts_ins k) M) := by
  induction L with
  | nil => intro M h; exact h
  | cons x L ih => intro M h; exact ih _ (ts_ins_srt x h)
def ts_Q (k : α → Nat) (b : Nat) : Nat → List α → Prop
  | 0, _ => True
  | _ + 1, [] => False
  | j + 1, a :: l => k a ≤ b ∧ ts_Q k b j l
theorem ts_Q_ins {b : Nat} {y : α} (hy : k y ≤ b) (l : List α) : ∀ j, ts_Q k b j l → ts_Q k b (j + 1) (ts_ins k l y) := by
  induction l with
  | nil =>
    intro j h
    cases j with
    | zero => exact ⟨hy, True.intro⟩
    | succ j => exact absurd h (fun z => z)
  | cons a l ih =>
    intro j h
    simp only [ts_ins]
    by_cases z : k y < k a
    · rw [if_pos z]
      exact ⟨hy, h⟩
    · rw [if_neg z]
      cases j with
      | zero => exact ⟨by omega, True.intro⟩
      | succ j => exact ⟨h.1, ih j h.2⟩
theorem ts_Q_fold {b : Nat} (M : List α) : ∀ (j : Nat) (l : List α), (∀ y ∈ M, k y ≤ b) → ts_Q k b j l → ts_Q k b (j + M.length) (M.foldl (ts_ins k) l) := by
  induction M with
  | nil => intro j l _ h; exact h
  | cons a M ih =>
    intro j l hM h
    have := ih (j + 1) (ts_ins k l a) (fun y hy => hM y (List.mem_cons_of_mem _ hy)) (ts_Q_ins (hM a List.mem_cons_self) l j h)
    rw [List.foldl_cons, List.length_cons]
    rw [show j + (M.length + 1) = j + 1 + M.length by omega]
    exact this
theorem ts_Q_keep {b : Nat} {y : α} (hy : b ≤ k y) (l : List α) : ∀ j, ts_Q k b j l → ts_Q k b j (ts_ins k l y) ∧ (ts_ins k l y).take j = l.take j := by
  induction l with
  | nil =>
    intro j h
    cases j with
    | zero => exact ⟨True.intro, by rw [List.take_zero, List.take_zero]⟩
    | succ j => exact absurd h (fun z => z)
  | cons a l ih =>
    intro j h
    cases j with
    | zero => exact ⟨True.intro, by rw [List.take_zero, List.take_zero]⟩
    | succ j =>
      have h1 : k a ≤ b := h.1
      simp only [ts_ins]
      rw [if_neg (by omega), List.take_succ_cons, List.take_succ_cons]
      exact ⟨⟨h1, (ih j h.2).1⟩, by rw [(ih j h.2).2]⟩
theorem ts_Q_drop {b : Nat} (M : List α) : ∀ (j : Nat) (l : List α), (∀ y ∈ M, b ≤ k y) → ts_Q k b j l → (M.foldl (ts_ins k) l).take j = l.take j := by
  induction M with
  | nil => intro j l _ _; rfl
  | cons a M ih =>
    intro j l hM h
    have ⟨q1, q2⟩ := ts_Q_keep (hM a List.mem_cons_self) l j h
    rw [List.foldl_cons, ih j _ (fun y hy => hM y (List.mem_cons_of_mem _ hy)) q1, q2]
theorem ts_cut6 (M acc : List α) (h : ts_Srt k M) : (M.foldl (ts_ins k) acc).take 6 = ((M.take 6).foldl (ts_ins k) acc).take 6 := by
  by_cases hl : M.length ≤ 6
  · rw [List.take_of_length_le hl]
  · have e : M = M.take 6 ++ M.drop 6 := (List.take_append_drop 6 M).symm
    cases hd : M.drop 6 with
    | nil =>
      have := congrArg List.length hd
      rw [List.length_drop, List.length_nil] at this
      omega
    | cons m R =>
      have h' := h
      unfold ts_Srt at h'
      rw [e, hd, List.pairwise_append] at h'
      obtain ⟨_, p2, p3⟩ := h'
      have p4 := (List.pairwise_cons.mp p2).1
      have q := ts_Q_fold (k := k) (b := k m) (M.take 6) 0 acc (fun y hy => p3 y hy m List.mem_cons_self) True.intro
      rw [List.length_take, show 0 + min 6 M.length = 6 by omega] at q
      have r := ts_Q_drop (k := k) (b := k m) (m :: R) 6 _ (fun y hy => by
        rcases List.mem_cons.mp hy with z | z
        · subst z; exact Nat.le_refl _
        · exact p4 y z) q
      rw [← r, ← List.foldl_append, ← hd, ← e]
/-- what is offered may be cut to its first six first -/
theorem ts_absorb (L acc : List α) (h : acc.length ≤ 6) : L.foldl (ts_top k) acc = (L.foldl (ts_top k) []).foldl (ts_top k) acc := by
  have e : acc = acc.take 6 := (List.take_of_length_le h).symm
  have e0 : L.foldl (ts_top k) [] = (L.foldl (ts_ins k) []).take 6 := ts_fold_take L []
  have s0 : ts_Srt k (L.foldl (ts_ins k) []) := ts_fold_srt L [] List.Pairwise.nil
  rw [e, ts_fold_take, e0, ts_fold_take, ← ts_cut6 _ _ s0, ts_sort_fold L [] acc List.Pairwise.nil]
  rfl
theorem ts_ins_map {f : α → α} {c : Nat} (hf : ∀ y, k (f y) = k y + c) (l : List α) (x : α) : (ts_ins k l x).map f = ts_ins k (l.map f) (f x) := by
  induction l with
  | nil => rfl
  | cons a l ih =>
    simp only [ts_ins, List.map_cons, hf]
    by_cases z : k x < k a
    · rw [if_pos z, if_pos (by omega)]
      rfl
    · rw [if_neg z, if_neg (by omega), List.map_cons, ih]
theorem ts_fold_map {f : α → α} {c : Nat} (hf : ∀ y, k (f y) = k y + c) (L : List α) : ∀ M : List α, (L.foldl (ts_top k) M).map f = (L.map f).foldl (ts_top k) (M.map f) := by
  induction L with
  | nil => intro M; rfl
  | cons x L ih =>
    intro M
    rw [List.foldl_cons, List.map_cons, List.foldl_cons, ih]
    congr 1
    unfold ts_top
    rw [List.map_take, ts_ins_map hf]
theorem ts_absorb_map {f : α → α} {c : Nat} (hf : ∀ y, k (f y) = k y + c) (L acc : List α) (h : acc.length ≤ 6) : (L.map f).foldl (ts_top k) acc = ((L.foldl (ts_top k) []).map f).foldl (ts_top k) acc := by
  rw [ts_absorb (L.map f) acc h, ts_fold_map hf L []]
  rfl
theorem ts_pos (K : List α) (x : α) : ∀ r, ts_Srt k K → r ≤ K.length → (∀ j e, r ≤ j → K[j]? = some e → k x < k e) → (∀ e, 0 < r → K[r - 1]? = some e → k e ≤ k x) → ts_ins k K x = K.take r ++ x :: K.drop r := by
  induction K with
  | nil =>
    intro r _ hr _ _
    have : r = 0 := by rw [List.length_nil] at hr; omega
    subst this
    rfl
  | cons a K ih =>
    intro r hs hr h1 h2
    have ⟨p1, p2⟩ := List.pairwise_cons.mp hs
    cases r with
    | zero =>
      simp only [ts_ins]
      rw [if_pos (h1 0 a (Nat.le_refl 0) rfl)]
      rfl
    | succ r =>
      have hr' : r ≤ K.length := by rw [List.length_cons] at hr; omega
      have ha : k a ≤ k x := by
        cases r with
        | zero => exact h2 a (by omega) rfl
        | succ r =>
          have hlt : r < K.length := by omega
          have e1 : K[r]? = some K[r] := List.getElem?_eq_getElem hlt
          have := h2 K[r] (by omega) (by rw [Nat.add_sub_cancel, List.getElem?_cons_succ]; exact e1)
          have := p1 K[r] (List.getElem_mem hlt)
          omega
      simp only [ts_ins]
      rw [if_neg (by omega), List.take_succ_cons, List.drop_succ_cons, List.cons_append]
      congr 1
      refine ih r p2 hr' (fun j e hj he => h1 (j + 1) e (by omega) (by rw [List.getElem?_cons_succ]; exact he)) (fun e h0 he => h2 e (by omega) ?_)
      rw [Nat.add_sub_cancel]
      obtain ⟨q, rfl⟩ : ∃ q, r = q + 1 := ⟨r - 1, by omega⟩
      rw [List.getElem?_cons_succ]
      rw [Nat.add_sub_cancel] at he
      exact he
theorem ts_pos_get (K : List α) (x : α) (r j : Nat) (hr : r ≤ K.length) : (K.take r ++ x :: K.drop r)[j]? = if j < r then K[j]? else if j = r then some x else K[j - 1]? := by
  have hl : (K.take r).length = r := by rw [List.length_take]; omega
  by_cases h : j < r
  · rw [if_pos h, List.getElem?_append_left (by omega), List.getElem?_take, if_pos h]
  · rw [if_neg h, List.getElem?_append_right (by omega), hl]
    by_cases h2 : j = r
    · rw [if_pos h2, h2, Nat.sub_self]
      rfl
    · rw [if_neg h2]
      obtain ⟨q, hq⟩ : ∃ q, j - r = q + 1 := ⟨j - r - 1, by omega⟩
      rw [hq, List.getElem?_cons_succ, List.getElem?_drop]
      congr 1
      omega
/-- a table from the back -/
theorem ts_tab {β : Type} (st : (Nat → β) → Nat → β) (b : β) (n : Nat) (loc : ∀ (K K' : Nat → β) (p : Nat), p < n → (∀ q, p < q → q ≤ n → K q = K' q) → st K p = st K' p) : ∃ K : Nat → β, K n = b ∧ ∀ p, p < n → K p = st K p := by
  have H : ∀ j, j ≤ n → ∃ K : Nat → β, K n = b ∧ ∀ p, n - j ≤ p → p < n → K p = st K p := by
    intro j
    induction j with
    | zero => exact fun _ => ⟨fun _ => b, rfl, fun p h1 h2 => absurd h2 (by omega)⟩
    | succ j ih =>
      intro hj
      obtain ⟨K, h0, h1⟩ := ih (by omega)
      refine ⟨fun q => if q = n - (j + 1) then st K q else K q, ?_, fun p hp hn => ?_⟩
      · show (if n = n - (j + 1) then _ else _) = b
        rw [if_neg (by omega)]
        exact h0
      · have e : st (fun q => if q = n - (j + 1) then st K q else K q) p = st K p := by
          refine loc _ _ p hn (fun q hq hqn => ?_)
          show (if q = n - (j + 1) then _ else _) = _
          rw [if_neg (by omega)]
        rw [e]
        show (if p = n - (j + 1) then _ else _) = _
        by_cases z : p = n - (j + 1)
        · rw [if_pos z]
        · rw [if_neg z]
          exact h1 p (by omega) hn
  obtain ⟨K, h0, h1⟩ := H n (Nat.le_refl n)
  exact ⟨K, h0, fun p hp => h1 p (by omega) hp⟩
end
end
section
section
variable {k : List Nat → Nat}
theorem ts_ft_len (L : List (List Nat)) : ∀ acc : List (List Nat), acc.length ≤ 6 → (L.foldl (ts_top k) acc).length ≤ 6 := by
  induction L with
  | nil => exact fun acc h => h
  | cons x L ih => exact fun acc _ => ih _ (ts_top_len acc x)
theorem ts_ft_srt (L : List (List Nat)) : ∀ acc : List (List Nat), ts_Srt k acc → ts_Srt k (L.foldl (ts_top k) acc) := by
  induction L with
  | nil => exact fun acc h => h
  | cons x L ih => exact fun acc h => ih _ (ts_top_srt x h)
theorem ts_ft_mem {y : List Nat} (L : List (List Nat)) : ∀ acc : List (List Nat), y ∈ L.foldl (ts_top k) acc → y ∈ acc ∨ y ∈ L := by
  induction L with
  | nil => exact fun acc h => Or.inl h
  | cons x L ih =>
    intro acc h
    rcases ih _ h with e | e
    · rcases ts_top_mem e with e | e
      · exact Or.inr (by rw [e]; exact List.mem_cons_self)
      · exact Or.inl e
    · exact Or.inr (List.mem_cons_of_mem _ e)
theorem ts_top_ne (l : List (List Nat)) (x : List Nat) : ts_top k l x ≠ [] := by
  intro h
  have := congrArg List.length h
  unfold ts_top at this
  rw [List.length_take, ts_ins_len, List.length_nil] at this
  omega
theorem ts_ft_ne (L : List (List Nat)) : ∀ acc : List (List Nat), (acc ≠ [] ∨ L ≠ []) → L.foldl (ts_top k) acc ≠ [] := by
  induction L with
  | nil =>
    intro acc h
    rcases h with h | h
    · exact h
    · exact absurd rfl h
  | cons x L ih => exact fun acc _ => ih _ (Or.inl (ts_top_ne acc x))
end
def ts_sp (pr : Nat → Nat) : List Nat → Nat
  | [] => 0
  | t :: l => pr t + ts_sp pr l
def ts_ky (pr : Nat → Nat) (l : List Nat) : Nat := 16 * ts_sp pr l + l.length
theorem ts_sp_app (pr : Nat → Nat) (a b : List Nat) : ts_sp pr (a ++ b) = ts_sp pr a + ts_sp pr b := by
  induction a with
  | nil => rw [List.nil_append]; exact (Nat.zero_add _).symm
  | cons t a ih =>
    rw [List.cons_append]
    show pr t + ts_sp pr (a ++ b) = pr t + ts_sp pr a + ts_sp pr b
    omega
theorem ts_ky_app (pr : Nat → Nat) (a b : List Nat) : ts_ky pr (a ++ b) = ts_ky pr b + ts_ky pr a := by
  unfold ts_ky
  rw [ts_sp_app, List.length_append]
  omega
theorem ts_ky_cons (pr : Nat → Nat) (t : Nat) (b : List Nat) : ts_ky pr (t :: b) = ts_ky pr b + pr t * 16 + 1 := by
  unfold ts_ky
  rw [List.length_cons]
  show 16 * (pr t + ts_sp pr b) + _ = _
  omega
theorem ts_sp_le {pr : Nat → Nat} (h : ∀ t, pr t ≤ 99) (l : List Nat) : ts_sp pr l ≤ 99 * l.length := by
  induction l with
  | nil => exact Nat.le_refl 0
  | cons t l ih =>
    rw [List.length_cons]
    show pr t + ts_sp pr l ≤ _
    have := h t
    omega
/-- the offers at place p by tokens f, .., f + k - 1 -/
def ts_of (F : Nat → Nat → Bool) (ln : Nat → Nat) (K : Nat → List (List Nat)) (p : Nat) : Nat → Nat → List (List Nat)
  | _, 0 => []
  | f, k + 1 => (if F f p = true then (K (p + ln f)).map (fun r => f :: r) else []) ++ ts_of F ln K p (f + 1) k
def ts_cf (F : Nat → Nat → Bool) (ln : Nat → Nat) (C : Nat → Nat) (p : Nat) : Nat → Nat → Nat
  | _, 0 => 0
  | f, k + 1 => (if F f p = true then C (p + ln f) else 0) + ts_cf F ln C p (f + 1) k
def ts_TK (F : Nat → Nat → Bool) (ln pr : Nat → Nat) (T n : Nat) (K : Nat → List (List Nat)) : Prop :=
  K n = [[]] ∧ ∀ p, p < n → K p = (ts_of F ln K p 0 T).foldl (ts_top (ts_ky pr)) []
def ts_TC (F : Nat → Nat → Bool) (ln : Nat → Nat) (T n : Nat) (C : Nat → Nat) : Prop :=
  C n = 1 ∧ ∀ p, p < n → C p = ts_cf F ln C p 0 T
def ts_FB (F : Nat → Nat → Bool) (ln : Nat → Nat) (T n : Nat) : Prop := ∀ t p, t < T → F t p = true → 1 ≤ ln t ∧ p + ln t ≤ n
section
variable {F : Nat → Nat → Bool} {ln pr : Nat → Nat} {T n : Nat}
theorem ts_of_loc (hF : ts_FB F ln T n) {K K' : Nat → List (List Nat)} {p : Nat} (h : ∀ q, p < q → q ≤ n → K q = K' q) : ∀ k f, f + k ≤ T → ts_of F ln K p f k = ts_of F ln K' p f k := by
  intro k
  induction k with
  | zero => exact fun _ _ => rfl
  | succ k ih =>
    intro f hf
    show _ ++ _ = _ ++ _
    rw [ih (f + 1) (by omega)]
    congr 1
    by_cases z : F f p = true
    · have ⟨a, b⟩ := hF f p (by omega) z
      rw [if_pos z, if_pos z, h _ (by omega) b]
    · rw [if_neg z, if_neg z]
theorem ts_cf_loc (hF : ts_FB F ln T n) {K K' : Nat → Nat} {p : Nat} (h : ∀ q, p < q → q ≤ n → K q = K' q) : ∀ k f, f + k ≤ T → ts_cf F ln K p f k = ts_cf F ln K' p f k := by
  intro k
  induction k with
  | zero => exact fun _ _ => rfl
  | succ k ih =>
    intro f hf
    show _ + _ = _ + _
    rw [ih (f + 1) (by omega)]
    congr 1
    by_cases z : F f p = true
    · have ⟨a, b⟩ := hF f p (by omega) z
      rw [if_pos z, if_pos z, h _ (by omega) b]
    · rw [if_neg z, if_neg z]
theorem ts_exK (pr : Nat → Nat) (hF : ts_FB F ln T n) : ∃ K, ts_TK F ln pr T n K :=
  ts_tab (fun K p => (ts_of F ln K p 0 T).foldl (ts_top (ts_ky pr)) []) [[]] n (fun K K' p _ h => by
    show List.foldl _ _ _ = List.foldl _ _ _
    rw [ts_of_loc hF h T 0 (by omega)])
theorem ts_exC (hF : ts_FB F ln T n) : ∃ C, ts_TC F ln T n C :=
  ts_tab (fun C p => ts_cf F ln C p 0 T) 1 n (fun K K' p _ h => ts_cf_loc hF h T 0 (by omega))
theorem ts_of_mem {K : Nat → List (List Nat)} {p : Nat} {l : List Nat} : ∀ k f, l ∈ ts_of F ln K p f k → ∃ t r, f ≤ t ∧ t < f + k ∧ F t p = true ∧ r ∈ K (p + ln t) ∧ l = t :: r := by
  intro k
  induction k with
  | zero => exact fun f h => absurd h (List.not_mem_nil)
  | succ k ih =>
    intro f h
    rcases List.mem_append.mp h with e | e
    · by_cases z : F f p = true
      · rw [if_pos z] at e
        obtain ⟨r, h1, h2⟩ := List.mem_map.mp e
        exact ⟨f, r, Nat.le_refl f, by omega, z, h1, h2.symm⟩
      · rw [if_neg z] at e
        exact absurd e (List.not_mem_nil)
    · obtain ⟨t, r, h1, h2, h3⟩ := ih (f + 1) e
      exact ⟨t, r, by omega, by omega, h3⟩
theorem ts_of_ne {K : Nat → List (List Nat)} {p t : Nat} (z : F t p = true) (hK : K (p + ln t) ≠ []) : ∀ k f, f ≤ t → t < f + k → ts_of F ln K p f k ≠ [] := by
  intro k
  induction k with
  | zero => exact fun f h1 h2 => absurd h2 (by omega)
  | succ k ih =>
    intro f h1 h2 h3
    have ⟨e1, e2⟩ := List.append_eq_nil_iff.mp h3
    by_cases e : f = t
    · subst e
      rw [if_pos z] at e1
      exact hK (List.map_eq_nil_iff.mp e1)
    · exact ih (f + 1) (by omega) (by omega) e2
theorem ts_K_good {K : Nat → List (List Nat)} (hF : ts_FB F ln T n) (h : ts_TK F ln pr T n K) : ∀ j p, p + j = n → (K p).length ≤ 6 ∧ ts_Srt (ts_ky pr) (K p) ∧ ∀ l ∈ K p, l.length ≤ j ∧ ∀ t ∈ l, t < T := by
  intro j
  induction j using Nat.strongRecOn with
  | ind j ih =>
    intro p hp
    by_cases e : p = n
    · rw [e, h.1]
      refine ⟨by decide, List.pairwise_singleton _ _, fun l hl => ?_⟩
      have := List.mem_singleton.mp hl
      subst this
      exact ⟨Nat.zero_le j, fun t ht => absurd ht (List.not_mem_nil)⟩
    · rw [h.2 p (by omega)]
      refine ⟨ts_ft_len _ _ (Nat.zero_le 6), ts_ft_srt _ _ List.Pairwise.nil, fun l hl => ?_⟩
      rcases ts_ft_mem _ _ hl with z | z
      · exact absurd z (List.not_mem_nil)
      · obtain ⟨t, r, h1, h2, h3, h4, rfl⟩ := ts_of_mem _ _ z
        have ⟨a, b⟩ := hF t p (by omega) h3
        have ⟨_, _, q⟩ := ih (j - ln t) (by omega) (p + ln t) (by omega)
        have ⟨q1, q2⟩ := q r h4
        refine ⟨by rw [List.length_cons]; omega, fun s hs => ?_⟩
        rcases List.mem_cons.mp hs with e | e
        · omega
        · exact q2 s e
theorem ts_K_ne {K : Nat → List (List Nat)} (hF : ts_FB F ln T n) (h : ts_TK F ln pr T n K) (hx : ∀ p, p < n → ∃ t, t < T ∧ F t p = true) : ∀ j p, p + j = n → K p ≠ [] := by
  intro j
  induction j using Nat.strongRecOn with
  | ind j ih =>
    intro p hp
    by_cases e : p = n
    · rw [e, h.1]
      exact List.cons_ne_nil _ _
    · rw [h.2 p (by omega)]
      obtain ⟨t, h1, h2⟩ := hx p (by omega)
      have ⟨a, b⟩ := hF t p h1 h2
      exact ts_ft_ne _ _ (Or.inr (ts_of_ne h2 (ih (j - ln t) (by omega) _ (by omega)) T 0 (by omega) (by omega)))
/-- what the search offers behind some tokens is what the table offers behind them -/
theorem ts_K_abs {K : Nat → List (List Nat)} (h : ts_TK F ln pr T n K) {p : Nat} (hp : p < n) (pre : List Nat) (acc : List (List Nat)) (ha : acc.length ≤ 6) :
    ((ts_of F ln K p 0 T).map (fun r => pre ++ r)).foldl (ts_top (ts_ky pr)) acc = ((K p).map (fun r => pre ++ r)).foldl (ts_top (ts_ky pr)) acc := by
  rw [ts_absorb_map (c := ts_ky pr pre) (fun y => ts_ky_app pr pre y) _ _ ha, ← h.2 p hp]
theorem ts_of_skip {K : Nat → List (List Nat)} {p : Nat} : ∀ d f k, (∀ t, f ≤ t → t < f + d → ¬ F t p = true) → ts_of F ln K p f (d + k) = ts_of F ln K p (f + d) k := by
  intro d
  induction d with
  | zero => intro f k _; rw [Nat.zero_add, Nat.add_zero]
  | succ d ih =>
    intro f k h
    rw [show d + 1 + k = (d + k) + 1 by omega]
    show _ ++ _ = _
    rw [if_neg (h f (by omega) (by omega)), List.nil_append, ih (f + 1) k (fun t h1 h2 => h t (by omega) (by omega))]
    congr 1
    omega
theorem ts_cf_skip {C : Nat → Nat} {p : Nat} : ∀ d f k, (∀ t, f ≤ t → t < f + d → ¬ F t p = true) → ts_cf F ln C p f (d + k) = ts_cf F ln C p (f + d) k := by
  intro d
  induction d with
  | zero => intro f k _; rw [Nat.zero_add, Nat.add_zero]
  | succ d ih =>
    intro f k h
    rw [show d + 1 + k = (d + k) + 1 by omega]
    show _ + _ = _
    rw [if_neg (h f (by omega) (by omega)), Nat.zero_add, ih (f + 1) k (fun t h1 h2 => h t (by omega) (by omega))]
    congr 1
    omega
/-- longest first -/
def ts_lb (F : Nat → Nat → Bool) (ln r : Nat → Nat) (p : Nat) : Nat → Nat
  | 0 => r p
  | t + 1 => if F t p = true ∧ ln (ts_lb F ln r p t) < ln t then t else ts_lb F ln r p t
def ts_TL (F : Nat → Nat → Bool) (ln r : Nat → Nat) (T n : Nat) (L : Nat → List Nat) : Prop :=
  L n = [] ∧ ∀ p, p < n → L p = ts_lb F ln r p T :: L (p + ln (ts_lb F ln r p T))
theorem ts_lb_ok {r : Nat → Nat} {p : Nat} (h1 : r p < T) (h2 : F (r p) p = true) : ∀ t, t ≤ T → ts_lb F ln r p t < T ∧ F (ts_lb F ln r p t) p = true := by
  intro t
  induction t with
  | zero => exact fun _ => ⟨h1, h2⟩
  | succ t ih =>
    intro ht
    unfold ts_lb
    split
    · next z => exact ⟨by omega, z.1⟩
    · exact ih (by omega)
theorem ts_exL {r : Nat → Nat} (hF : ts_FB F ln T n) (hr : ∀ p, p < n → r p < T ∧ F (r p) p = true) : ∃ L, ts_TL F ln r T n L :=
  ts_tab (fun L p => ts_lb F ln r p T :: L (p + ln (ts_lb F ln r p T))) [] n (fun K K' p hp h => by
    have ⟨a, b⟩ := ts_lb_ok (ln := ln) (hr p hp).1 (hr p hp).2 T (Nat.le_refl T)
    have ⟨c, d⟩ := hF _ p a b
    show _ :: _ = _ :: _
    rw [h _ (by omega) d])
theorem ts_L_good {r : Nat → Nat} {L : Nat → List Nat} (hF : ts_FB F ln T n) (hr : ∀ p, p < n → r p < T ∧ F (r p) p = true) (h : ts_TL F ln r T n L) : ∀ j p, p + j = n → (L p).length ≤ j ∧ ∀ t ∈ L p, t < T := by
  intro j
  induction j using Nat.strongRecOn with
  | ind j ih =>
    intro p hp
    by_cases e : p = n
    · rw [e, h.1]
      exact ⟨Nat.zero_le j, fun t ht => absurd ht (List.not_mem_nil)⟩
    · have hp' : p < n := by omega
      have ⟨a, b⟩ := ts_lb_ok (ln := ln) (hr p hp').1 (hr p hp').2 T (Nat.le_refl T)
      have ⟨c, d⟩ := hF _ p a b
      rw [h.2 p hp']
      have ⟨q1, q2⟩ := ih (j - ln (ts_lb F ln r p T)) (by omega) (p + ln (ts_lb F ln r p T)) (by omega)
      refine ⟨by rw [List.length_cons]; omega, fun s hs => ?_⟩
      rcases List.mem_cons.mp hs with e | e
      · omega
      · exact q2 s e
end
/-- merging one token -/
def ts_mg (a b t : Nat) : List Nat → List Nat
  | x :: y :: l => if x = a ∧ y = b then t :: ts_mg a b t l else x :: ts_mg a b t (y :: l)
  | [x] => [x]
  | [] => []
def ts_sl (ln : Nat → Nat) : List Nat → Nat
  | [] => 0
  | t :: l => ln t + ts_sl ln l
theorem ts_mg_all (a b t : Nat) (ln : Nat → Nat) (m : Nat) (hl : ln t = ln a + ln b) (ht : t < m) : ∀ (j : Nat) (l : List Nat), l.length ≤ j → (ts_mg a b t l).length ≤ l.length ∧ ts_sl ln (ts_mg a b t l) = ts_sl ln l ∧ ((∀ e ∈ l, e < m) → ∀ e ∈ ts_mg a b t l, e < m) := by
  intro j
  induction j with
  | zero =>
    intro l h
    have : l = [] := List.eq_nil_of_length_eq_zero (by omega)
    subst this
    simp only [ts_mg]
    exact ⟨Nat.le_refl _, True.intro, fun h => h⟩
  | succ j ih =>
    intro l h
    match l with
    | [] =>
      simp only [ts_mg]
      exact ⟨Nat.le_refl _, True.intro, fun h => h⟩
    | [x] =>
      simp only [ts_mg]
      exact ⟨Nat.le_refl _, True.intro, fun h => h⟩
    | x :: y :: l =>
      simp only [List.length_cons] at h
      by_cases z : x = a ∧ y = b
      · have ⟨i1, i2, i3⟩ := ih l (by omega)
        simp only [ts_mg]
        rw [if_pos z]
        simp only [List.length_cons]
        refine ⟨by omega, ?_, fun hm e he => ?_⟩
        · show ln t + ts_sl ln _ = ln x + (ln y + ts_sl ln l)
          rw [i2, hl, z.1, z.2]
          omega
        · rcases List.mem_cons.mp he with q | q
          · omega
          · exact i3 (fun e he => hm e (List.mem_cons_of_mem _ (List.mem_cons_of_mem _ he))) e q
      · have ⟨i1, i2, i3⟩ := ih (y :: l) (by rw [List.length_cons]; omega)
        simp only [ts_mg]
        rw [if_neg z]
        simp only [List.length_cons] at i1 ⊢
        refine ⟨by omega, ?_, fun hm e he => ?_⟩
        · show ln x + ts_sl ln _ = ln x + ts_sl ln (y :: l)
          rw [i2]
        · rcases List.mem_cons.mp he with q | q
          · rw [q]; exact hm x List.mem_cons_self
          · exact i3 (fun e he => hm e (List.mem_cons_of_mem _ he)) e q
def ts_mi (lf rg : Nat → Nat) (l0 : List Nat) : Nat → List Nat
  | 0 => l0
  | k + 1 => ts_mg (lf (6 + k)) (rg (6 + k)) (6 + k) (ts_mi lf rg l0 k)
theorem ts_mi_all {lf rg ln : Nat → Nat} {l0 : List Nat} {T : Nat} (hl : ∀ t, 6 ≤ t → t < T → ln t = ln (lf t) + ln (rg t)) (h0 : ∀ e ∈ l0, e < 6) : ∀ k, 6 + k ≤ T → (ts_mi lf rg l0 k).length ≤ l0.length ∧ ts_sl ln (ts_mi lf rg l0 k) = ts_sl ln l0 ∧ ∀ e ∈ ts_mi lf rg l0 k, e < 6 + k := by
  intro k
  induction k with
  | zero => exact fun _ => ⟨Nat.le_refl _, rfl, h0⟩
  | succ k ih =>
    intro hk
    have ⟨a, b, c⟩ := ih (by omega)
    have ⟨d, e, f⟩ := ts_mg_all (lf (6 + k)) (rg (6 + k)) (6 + k) ln (6 + (k + 1)) (hl _ (by omega) (by omega)) (by omega) _ (ts_mi lf rg l0 k) (Nat.le_refl _)
    refine ⟨Nat.le_trans d a, e.trans b, f (fun e he => ?_)⟩
    have := c e he
    omega
theorem ts_sl_pair {ln : Nat → Nat} (l : List Nat) : ∀ i x y, l[i]? = some x → l[i + 1]? = some y → ln x + ln y ≤ ts_sl ln l := by
  induction l with
  | nil => intro i x y h; exact absurd h (by rw [List.getElem?_nil]; exact fun z => nomatch z)
  | cons a l ih =>
    intro i x y h1 h2
    cases i with
    | succ i =>
      rw [List.getElem?_cons_succ] at h1 h2
      have := ih i x y h1 h2
      show _ ≤ ln a + ts_sl ln l
      omega
    | zero =>
      rw [List.getElem?_cons_zero] at h1
      rw [List.getElem?_cons_succ] at h2
      cases h1
      cases l with
      | nil => exact absurd h2 (by rw [List.getElem?_nil]; exact fun z => nomatch z)
      | cons b l =>
        rw [List.getElem?_cons_zero] at h2
        cases h2
        show ln _ + ln _ ≤ ln _ + (ln _ + ts_sl ln l)
        omega
def ts_rw (r : Nat → Nat) (n : Nat) : List Nat := (List.range n).map r
theorem ts_rw_get (r : Nat → Nat) (n i : Nat) : (ts_rw r n)[i]? = if i < n then some (r i) else none := by
  unfold ts_rw
  rw [List.getElem?_map]
  by_cases h : i < n
  · rw [if_pos h, List.getElem?_range h]
    rfl
  · rw [if_neg h, List.getElem?_eq_none (by rw [List.length_range]; omega)]
    rfl
theorem ts_rw_len (r : Nat → Nat) (n : Nat) : (ts_rw r n).length = n := by
  unfold ts_rw
  rw [List.length_map, List.length_range]
theorem ts_rw_mem {r : Nat → Nat} {n e : Nat} (h : e ∈ ts_rw r n) : ∃ i, i < n ∧ r i = e := by
  obtain ⟨i, h1, h2⟩ := List.mem_map.mp h
  exact ⟨i, List.mem_range.mp h1, h2⟩
theorem ts_sl_one {ln : Nat → Nat} (l : List Nat) (h : ∀ e ∈ l, ln e = 1) : ts_sl ln l = l.length := by
  induction l with
  | nil => rfl
  | cons a l ih =>
    rw [List.length_cons]
    show ln a + ts_sl ln l = _
    rw [h a List.mem_cons_self, ih (fun e he => h e (List.mem_cons_of_mem _ he))]
    omega
/-- how often x stands before y among the first i places, c each time -/
def ts_am (c : Int32) (L : List Nat) (x y : Nat) : Nat → Int32
  | 0 => 0
  | i + 1 => ts_am c L x y i + (if L[i]? = some x ∧ L[i + 1]? = some y then c else 0)
theorem ts_am_0 {c : Int32} {L : List Nat} {x y : Nat} (h : ∀ i, ¬ (L[i]? = some x ∧ L[i + 1]? = some y)) : ∀ i, ts_am c L x y i = 0 := by
  intro i
  induction i with
  | zero => rfl
  | succ i ih =>
    show ts_am c L x y i + _ = 0
    rw [ih, if_neg (h i)]
    rfl
def ts_fq (WC : Nat → Int32) (ML : Nat → List Nat) (x y : Nat) : Nat → Int32
  | 0 => 0
  | w + 1 => ts_fq WC ML x y w + ts_am (WC w) (ML w) x y ((ML w).length - 1)
theorem ts_fq_0 {WC : Nat → Int32} {ML : Nat → List Nat} {x y : Nat} : ∀ w, (∀ v, v < w → ∀ i, ¬ ((ML v)[i]? = some x ∧ (ML v)[i + 1]? = some y)) → ts_fq WC ML x y w = 0 := by
  intro w
  induction w with
  | zero => exact fun _ => rfl
  | succ w ih =>
    intro h
    show ts_fq WC ML x y w + _ = 0
    rw [ih (fun v hv => h v (by omega)), ts_am_0 (h w (by omega))]
    rfl
/-- token t may stand at place p of the row r of length n, bx being barred -/
def ts_fit (bx : Int32) (ln : Nat → Nat) (sp : Nat → Nat → Nat) (r : Nat → Nat) (n t p : Nat) : Bool :=
  decide (¬ nI t = bx ∧ p + ln t ≤ n ∧ ∀ i, i < ln t → r (p + i) = sp t i)
theorem ts_fit_t {bx : Int32} {ln : Nat → Nat} {sp : Nat → Nat → Nat} {r : Nat → Nat} {n t p : Nat} : ts_fit bx ln sp r n t p = true ↔ (¬ nI t = bx ∧ p + ln t ≤ n ∧ ∀ i, i < ln t → r (p + i) = sp t i) := decide_eq_true_iff
/-- the tokens: T of them, lengths ln, spellings sp -/
def ts_En (T : Nat) (ln : Nat → Nat) (sp : Nat → Nat → Nat) : Prop :=
  6 ≤ T ∧ T ≤ 20 ∧ (∀ t, t < T → 1 ≤ ln t) ∧ (∀ t, ln t ≤ 8) ∧ (∀ t, t < 6 → ln t = 1 ∧ sp t 0 = t)
theorem ts_En_FB {bx : Int32} {T n : Nat} {ln : Nat → Nat} {sp : Nat → Nat → Nat} {r : Nat → Nat} (h : ts_En T ln sp) : ts_FB (ts_fit bx ln sp r n) ln T n :=
  fun t p ht hf => ⟨h.2.2.1 t ht, (ts_fit_t.mp hf).2.1⟩
theorem ts_En_let {bx : Int32} {T n : Nat} {ln : Nat → Nat} {sp : Nat → Nat → Nat} {r : Nat → Nat} (h : ts_En T ln sp) (hb : ∀ t, t < 6 → ¬ nI t = bx) (hr : ∀ i, r i < 6) : ∀ p, p < n → r p < T ∧ ts_fit bx ln sp r n (r p) p = true := by
  intro p hp
  obtain ⟨h1, h2, h3, h4, h5⟩ := h
  have a := hr p
  have ⟨b, c⟩ := h5 (r p) a
  refine ⟨by omega, ts_fit_t.mpr ⟨hb _ a, by omega, fun i hi => ?_⟩⟩
  have : i = 0 := by omega
  subst this
  rw [c, Nat.add_zero]
theorem ts_lb_6 {bx : Int32} {T n : Nat} {ln : Nat → Nat} {sp : Nat → Nat → Nat} {r : Nat → Nat} (h : ts_En T ln sp) {p : Nat} (hr : r p < 6) : ∀ t, t ≤ 6 → ts_lb (ts_fit bx ln sp r n) ln r p t = r p := by
  intro t
  induction t with
  | zero => exact fun _ => rfl
  | succ t ih =>
    intro ht
    have a := (h.2.2.2.2 t (by omega)).1
    have b := (h.2.2.2.2 (r p) hr).1
    unfold ts_lb
    rw [ih (by omega), if_neg]
    intro z
    omega
end
section
section
variable {f_words f_tokenCount f_textLength f_resultSize f_rowLength f_madeSize : Int32} {a_wordLetters a_wordLength a_wordCount a_leftOf a_rightOf a_priceOf a_spelling a_spellingLength a_text a_result a_row a_made a_pairFrequency a_waysFrom a_slotsAt a_slotKey a_slotToken a_slotRest : Nat → Int32}
theorem tx_takeText {post : SX → Prop} {tl : Nat} (htl : tl ≤ 12) (h : post (f_words, f_tokenCount, nI tl, f_resultSize, nI tl, f_madeSize, a_wordLetters, a_wordLength, a_wordCount, a_leftOf, a_rightOf, a_priceOf, a_spelling, a_spellingLength, a_text, a_result, ts_cp a_row a_text tl, a_made, a_pairFrequency, a_waysFrom, a_slotsAt, a_slotKey, a_slotToken, a_slotRest)) : wpX_takeText post (f_words, f_tokenCount, nI tl, f_resultSize, f_rowLength, f_madeSize, a_wordLetters, a_wordLength, a_wordCount, a_leftOf, a_rightOf, a_priceOf, a_spelling, a_spellingLength, a_text, a_result, a_row, a_made, a_pairFrequency, a_waysFrom, a_slotsAt, a_slotKey, a_slotToken, a_slotRest) := by
  have H : ∀ d i, i + d = tl → wX_takeText_2 post f_words f_tokenCount (nI tl) f_resultSize f_rowLength f_madeSize (d + 1) (nI i) a_wordLetters a_wordLength a_wordCount a_leftOf a_rightOf a_priceOf a_spelling a_spellingLength a_text a_result (ts_cp a_row a_text i) a_made a_pairFrequency a_waysFrom a_slotsAt a_slotKey a_slotToken a_slotRest := by
    intro d
    induction d with
    | zero =>
      intro i hi
      have e : i = tl := by omega
      subst e
      exact br_t (nI_le (Nat.le_refl i) (by omega)) h
    | succ d ih =>
      intro i hi
      refine br_f (nI_ge (by omega) (by omega)) ⟨ts_v (by omega), ts_v (by omega), nm_r (e' := ts_cp a_row a_text (i + 1)) ?_ (nm_r (nI_1 i) (ih (i + 1) (by omega)))⟩
      rw [nI_clamp (by omega)]
      exact ts_cp_s _ _ _
  have := H tl 0 (by omega)
  rw [ts_cp_0] at this
  exact ⟨_, this⟩
theorem tx_takeWord {post : SX → Prop} {w m : Nat} (hw : w < 12) (hm : m ≤ 8) (e : a_wordLength w = nI m) (h : post (f_words, f_tokenCount, f_textLength, f_resultSize, nI m, f_madeSize, a_wordLetters, a_wordLength, a_wordCount, a_leftOf, a_rightOf, a_priceOf, a_spelling, a_spellingLength, a_text, a_result, ts_cp a_row (fun i => a_wordLetters (w * 8 + i)) m, a_made, a_pairFrequency, a_waysFrom, a_slotsAt, a_slotKey, a_slotToken, a_slotRest)) : wpX_takeWord post (f_words, f_tokenCount, f_textLength, f_resultSize, f_rowLength, f_madeSize, a_wordLetters, a_wordLength, a_wordCount, a_leftOf, a_rightOf, a_priceOf, a_spelling, a_spellingLength, a_text, a_result, a_row, a_made, a_pairFrequency, a_waysFrom, a_slotsAt, a_slotKey, a_slotToken, a_slotRest) (nI w) := by
  have hc : (nI w).toNatClampNeg = w := nI_clamp (by omega)
  have H : ∀ d i, i + d = m → wX_takeWord_2 post (nI w) f_words f_tokenCount f_textLength f_resultSize f_rowLength f_madeSize (d + 1) (nI i) a_wordLetters a_wordLength a_wordCount a_leftOf a_rightOf a_priceOf a_spelling a_spellingLength a_text a_result (ts_cp a_row (fun i => a_wordLetters (w * 8 + i)) i) a_made a_pairFrequency a_waysFrom a_slotsAt a_slotKey a_slotToken a_slotRest := by
    intro d
    induction d with
    | zero =>
      intro i hi
      have e2 : i = m := by omega
      subst e2
      refine ⟨ts_v hw, br_t ?_ ⟨ts_v hw, nm_r (e' := nI i) ?_ h⟩⟩
      · rw [hc, e]; exact nI_le (Nat.le_refl i) (by omega)
      · rw [hc, e]
    | succ d ih =>
      intro i hi
      have e3 : nI w * 8 + nI i = nI (w * 8 + i) := ts_ma 8 w i
      refine ⟨ts_v hw, br_f ?_ ⟨?_, ts_v (by omega), nm_r (e' := ts_cp a_row (fun i => a_wordLetters (w * 8 + i)) (i + 1)) ?_ (nm_r (nI_1 i) (ih (i + 1) (by omega)))⟩⟩
      · rw [hc, e]; exact nI_ge (by omega) (by omega)
      · rw [e3]; exact ts_v (by omega)
      · rw [e3, nI_clamp (by omega), nI_clamp (by omega)]
        exact ts_cp_s _ (fun i => a_wordLetters (w * 8 + i)) _
  have := H m 0 (by omega)
  rw [ts_cp_0] at this
  exact ⟨_, this⟩
def tx_TJ : Type := Int32 → Int32 → Int32 → (Nat → Int32) → (Nat → Int32) → (Nat → Int32) → (Nat → Int32) → (Nat → Int32) → (Nat → Int32) → (Nat → Int32) → (Nat → Int32) → (Nat → Int32) → (Nat → Int32) → (Nat → Int32) → (Nat → Int32) → (Nat → Int32) → (Nat → Int32) → (Nat → Int32) → (Nat → Int32) → (Nat → Int32) → (Nat → Int32) → Prop
theorem tx_mp0 {post : SX → Prop} {J : tx_TJ} {x1 x2 : Int32} {q i : Nat} {z : Int32} (hq : q < 12) (hi : i < 12) (ez : a_made i = z) (h : J (nI (q + 1)) (nI (i + 1)) (nI (i + 1)) a_wordLetters a_wordLength a_wordCount a_leftOf a_rightOf a_priceOf a_spelling a_spellingLength a_text a_result a_row (upd a_made q z) a_pairFrequency a_waysFrom a_slotsAt a_slotKey a_slotToken a_slotRest) : wX_mergePairs_72 post J x1 x2 (nI q) (nI i) f_words f_tokenCount f_textLength f_resultSize f_rowLength f_madeSize a_wordLetters a_wordLength a_wordCount a_leftOf a_rightOf a_priceOf a_spelling a_spellingLength a_text a_result a_row a_made a_pairFrequency a_waysFrom a_slotsAt a_slotKey a_slotToken a_slotRest := by
  subst ez
  have e1 : upd a_made (nI q).toNatClampNeg (a_made (nI i).toNatClampNeg) = upd a_made q (a_made i) := by
    rw [nI_clamp (by omega), nI_clamp (by omega)]
  exact br_t rfl ⟨ts_v hi, ts_v hq, nm_r e1 (nm_r (nI_1 q) (br_t rfl (nm_r (nI_1 i) (nm_r (nI_1 i) h))))⟩
theorem tx_mp1 {post : SX → Prop} {J : tx_TJ} {x1 x2 : Int32} {q i : Nat} (hq : q < 12) (hi : i < 12) (h : J (nI (q + 1)) (nI (i + 2)) (nI (i + 1)) a_wordLetters a_wordLength a_wordCount a_leftOf a_rightOf a_priceOf a_spelling a_spellingLength a_text a_result a_row (upd a_made q x1) a_pairFrequency a_waysFrom a_slotsAt a_slotKey a_slotToken a_slotRest) : wX_mergePairs_73 post J x1 x2 (nI q) (nI i) 1 f_words f_tokenCount f_textLength f_resultSize f_rowLength f_madeSize a_wordLetters a_wordLength a_wordCount a_leftOf a_rightOf a_priceOf a_spelling a_spellingLength a_text a_result a_row a_made a_pairFrequency a_waysFrom a_slotsAt a_slotKey a_slotToken a_slotRest := by
  have e1 : upd a_made (nI q).toNatClampNeg x1 = upd a_made q x1 := by
    rw [nI_clamp (by omega)]
  have n10 : ¬ (1 : Int32) = 0 := by decide
  exact br_f n10 ⟨ts_v hq, nm_r e1 (nm_r (nI_1 q) (br_f n10 (nm_r (nI_add i 2) (nm_r (nI_1 i) h))))⟩
theorem tx_mergePairs {post : SX → Prop} {t : Nat} {lf rg : Nat → Nat} {L : List Nat} (ht : t < 20) (hL : L.length ≤ 12) (hLe : ∀ e ∈ L, e < 20) (hlf : lf t < 20) (hrg : rg t < 20) (h0 : ts_Hd a_made L)
    (h : ∀ a, ts_Hd a (ts_mg (lf t) (rg t) t L) → post (f_words, f_tokenCount, f_textLength, f_resultSize, f_rowLength, nI (ts_mg (lf t) (rg t) t L).length, a_wordLetters, a_wordLength, a_wordCount, ts_F lf, ts_F rg, a_priceOf, a_spelling, a_spellingLength, a_text, a_result, a_row, a, a_pairFrequency, a_waysFrom, a_slotsAt, a_slotKey, a_slotToken, a_slotRest)) :
    wpX_mergePairs post (f_words, f_tokenCount, f_textLength, f_resultSize, f_rowLength, nI L.length, a_wordLetters, a_wordLength, a_wordCount, ts_F lf, ts_F rg, a_priceOf, a_spelling, a_spellingLength, a_text, a_result, a_row, a_made, a_pairFrequency, a_waysFrom, a_slotsAt, a_slotKey, a_slotToken, a_slotRest) (nI t) := by
  have hct : (nI t).toNatClampNeg = t := nI_clamp (by omega)
  have H : ∀ d i, i + d = L.length → ∀ fuel, d < fuel → ∀ (a : Nat → Int32) (out : List Nat), out.length ≤ i → ts_Hd a out → (∀ j e, i ≤ j → L[j]? = some e → a j = nI e) → out ++ ts_mg (lf t) (rg t) t (L.drop i) = ts_mg (lf t) (rg t) t L →
      wX_mergePairs_13 post (nI t) (nI L.length) f_words f_tokenCount f_textLength f_resultSize f_rowLength (nI L.length) fuel (nI out.length) (nI i) (nI i) a_wordLetters a_wordLength a_wordCount (ts_F lf) (ts_F rg) a_priceOf a_spelling a_spellingLength a_text a_result a_row a a_pairFrequency a_waysFrom a_slotsAt a_slotKey a_slotToken a_slotRest := by
    intro d
    induction d using Nat.strongRecOn with
    | ind d ih =>
      intro i hi fuel hf a out ho ha hr hfin
      obtain ⟨fuel, rfl⟩ : ∃ g, fuel = g + 1 := ⟨fuel - 1, by omega⟩
      by_cases z : i = L.length
      · have e1 : ts_mg (lf t) (rg t) t (L.drop i) = [] := by rw [List.drop_eq_nil_of_le (by omega)]; simp only [ts_mg]
        rw [e1, List.append_nil] at hfin
        refine br_t (nI_le (by omega) (by omega)) ?_
        rw [hfin]
        exact h a (by rw [← hfin]; exact ha)
      · refine br_f (nI_ge (by omega) (by omega)) (br_t rfl ?_)
        obtain ⟨x, hx⟩ := ts_get (l := L) (i := i) (by omega)
        have hxl : x < 20 := hLe x (List.mem_of_getElem? hx)
        have hax : a i = nI x := hr i x (Nat.le_refl i) hx
        have hci : (nI i).toNatClampNeg = i := nI_clamp (by omega)
        have e1 : nI i + 1 = nI (i + 1) := nI_1 i
        have hns : ts_mg (lf t) (rg t) t (L.drop i) = x :: ts_mg (lf t) (rg t) t (L.drop (i + 1)) → wX_mergePairs_72 post (wX_mergePairs_13 post (nI t) (nI L.length) f_words f_tokenCount f_textLength f_resultSize f_rowLength (nI L.length) fuel) (nI t) (nI L.length) (nI out.length) (nI i) f_words f_tokenCount f_textLength f_resultSize f_rowLength (nI L.length) a_wordLetters a_wordLength a_wordCount (ts_F lf) (ts_F rg) a_priceOf a_spelling a_spellingLength a_text a_result a_row a a_pairFrequency a_waysFrom a_slotsAt a_slotKey a_slotToken a_slotRest := by
          intro hm
          refine tx_mp0 (by omega) (by omega) hax ?_
          have := ih (d - 1) (by omega) (i + 1) (by omega) fuel (by omega) (upd a out.length (nI x)) (out ++ [x]) (by rw [List.length_append]; simp only [List.length_cons, List.length_nil]; omega) (ts_Hd_snoc ha) (fun j e hj he => by rw [pk_un (by omega)]; exact hr j e (by omega) he) (by rw [List.append_assoc, ← hfin, hm]; rfl)
          rw [List.length_append] at this
          exact this
        by_cases z2 : i + 1 = L.length
        · refine br_t ?_ (hns ?_)
          · rw [e1]; exact nI_le (by omega) (by omega)
          · rw [ts_drop hx, List.drop_eq_nil_of_le (by omega)]; simp only [ts_mg]
        · obtain ⟨y, hy⟩ := ts_get (l := L) (i := i + 1) (by omega)
          have hyl : y < 20 := hLe y (List.mem_of_getElem? hy)
          have hay : a (i + 1) = nI y := hr (i + 1) y (by omega) hy
          have hci1 : (nI i + 1).toNatClampNeg = i + 1 := by rw [e1]; exact nI_clamp (by omega)
          have hv1 : vp_in (nI i + 1) 12 := by rw [e1]; exact ts_v (by omega)
          refine br_f (by rw [e1]; exact nI_ge (by omega) (by omega)) ⟨ts_v (by omega), ts_v ht, ?_⟩
          by_cases c1 : x = lf t
          · refine br_t (by rw [hci, hct, hax, c1]; rfl) ⟨hv1, ts_v ht, ?_⟩
            by_cases c2 : y = rg t
            · refine br_t (by rw [hci1, hct, hay, c2]; rfl) ?_
              refine tx_mp1 (by omega) (by omega) ?_
              obtain ⟨fuel, rfl⟩ : ∃ g, fuel = g + 1 := ⟨fuel - 1, by omega⟩
              refine br_f (nI_ge (by omega) (by omega)) (br_f (fun z => ?_) (nm_r (nI_1 (i + 1)) ?_))
              · have := (nI_eq (by omega) (by omega)).mp z
                omega
              · have := ih (d - 2) (by omega) (i + 2) (by omega) fuel (by omega) (upd a out.length (nI t)) (out ++ [t]) (by rw [List.length_append]; simp only [List.length_cons, List.length_nil]; omega) (ts_Hd_snoc ha) (fun j e hj he => by rw [pk_un (by omega)]; exact hr j e (by omega) he) (by
                  rw [List.append_assoc, ← hfin, ts_drop hx, ts_drop hy]
                  simp only [ts_mg]
                  rw [if_pos ⟨c1, c2⟩]
                  rfl)
                rw [List.length_append] at this
                exact this
            · refine br_f (fun z => ?_) (hns ?_)
              · rw [hci1, hct, hay] at z
                exact c2 ((nI_eq (by omega) (by omega)).mp z)
              · rw [ts_drop hx, ts_drop hy]
                simp only [ts_mg]
                rw [if_neg (fun q => c2 q.2)]
          · refine br_f (fun z => ?_) (hns ?_)
            · rw [hci, hct, hax] at z
              exact c1 ((nI_eq (by omega) (by omega)).mp z)
            · rw [ts_drop hx, ts_drop hy]
              simp only [ts_mg]
              rw [if_neg (fun q => c1 q.1)]
  exact ⟨L.length + 1, H L.length 0 (by omega) _ (by omega) a_made [] (Nat.le_refl 0) (ts_Hd_nil _) (fun j e _ he => h0 j e he) rfl⟩
end
end
section
theorem ts_mi_len (lf rg : Nat → Nat) (l0 : List Nat) : ∀ k, (ts_mi lf rg l0 k).length ≤ l0.length := by
  intro k
  induction k with
  | zero => exact Nat.le_refl _
  | succ k ih => exact Nat.le_trans (ts_mg_all _ _ _ (fun _ => 0) (6 + k + 1) rfl (by omega) _ _ (Nat.le_refl _)).1 ih
theorem ts_mi_lt (lf rg : Nat → Nat) (l0 : List Nat) (h0 : ∀ e ∈ l0, e < 6) : ∀ k, ∀ e ∈ ts_mi lf rg l0 k, e < 6 + k := by
  intro k
  induction k with
  | zero => exact h0
  | succ k ih =>
    refine (ts_mg_all _ _ _ (fun _ => 0) (6 + (k + 1)) rfl (by omega) _ _ (Nat.le_refl _)).2.2 (fun e he => ?_)
    have := ih e he
    omega
section
variable {f_words f_tokenCount f_textLength f_resultSize f_rowLength f_madeSize : Int32} {a_wordLetters a_wordLength a_wordCount a_leftOf a_rightOf a_priceOf a_spelling a_spellingLength a_text a_result a_row a_made a_pairFrequency a_waysFrom a_slotsAt a_slotKey a_slotToken a_slotRest : Nat → Int32}
theorem tx_mergeRow39 {post : SX → Prop} {T : Nat} {lf rg : Nat → Nat} {l0 : List Nat} (hT : T ≤ 20) (hl0 : l0.length ≤ 12) (he0 : ∀ e ∈ l0, e < 6) (hlf : ∀ t, lf t < 20) (hrg : ∀ t, rg t < 20)
    (h : ∀ a, ts_Hd a (ts_mi lf rg l0 (T - 6)) → post (f_words, nI T, f_textLength, f_resultSize, f_rowLength, nI (ts_mi lf rg l0 (T - 6)).length, a_wordLetters, a_wordLength, a_wordCount, ts_F lf, ts_F rg, a_priceOf, a_spelling, a_spellingLength, a_text, a_result, a_row, a, a_pairFrequency, a_waysFrom, a_slotsAt, a_slotKey, a_slotToken, a_slotRest)) :
    ∀ d k, 6 + k + d = T → ∀ a, ts_Hd a (ts_mi lf rg l0 k) → wX_mergeRow_39 post (d + 1) (nI (6 + k)) f_words (nI T) f_textLength f_resultSize f_rowLength (nI (ts_mi lf rg l0 k).length) a_wordLetters a_wordLength a_wordCount (ts_F lf) (ts_F rg) a_priceOf a_spelling a_spellingLength a_text a_result a_row a a_pairFrequency a_waysFrom a_slotsAt a_slotKey a_slotToken a_slotRest := by
  intro d
  induction d with
  | zero =>
    intro k hk a ha
    have e : k = T - 6 := by omega
    subst e
    exact br_t (nI_le (by omega) (by omega)) (h a ha)
  | succ d ih =>
    intro k hk a ha
    refine br_f (nI_ge (by omega) (by omega)) ?_
    refine tx_mergePairs (by omega) (Nat.le_trans (ts_mi_len lf rg l0 k) hl0) (fun e he => ?_) (hlf _) (hrg _) ha ?_
    · have := ts_mi_lt lf rg l0 he0 k e he
      omega
    · intro a' ha'
      exact nm_r (nI_1 (6 + k)) (ih (k + 1) (by omega) a' ha')
theorem tx_mergeRow {post : SX → Prop} {T n : Nat} {lf rg r : Nat → Nat} (hT6 : 6 ≤ T) (hT : T ≤ 20) (hn : n ≤ 12) (hr : ∀ i, r i < 6) (hrow : ∀ i, i < n → a_row i = nI (r i)) (hlf : ∀ t, lf t < 20) (hrg : ∀ t, rg t < 20)
    (h : ∀ a, ts_Hd a (ts_mi lf rg (ts_rw r n) (T - 6)) → post (f_words, nI T, f_textLength, f_resultSize, nI n, nI (ts_mi lf rg (ts_rw r n) (T - 6)).length, a_wordLetters, a_wordLength, a_wordCount, ts_F lf, ts_F rg, a_priceOf, a_spelling, a_spellingLength, a_text, a_result, a_row, a, a_pairFrequency, a_waysFrom, a_slotsAt, a_slotKey, a_slotToken, a_slotRest)) :
    wpX_mergeRow post (f_words, nI T, f_textLength, f_resultSize, nI n, f_madeSize, a_wordLetters, a_wordLength, a_wordCount, ts_F lf, ts_F rg, a_priceOf, a_spelling, a_spellingLength, a_text, a_result, a_row, a_made, a_pairFrequency, a_waysFrom, a_slotsAt, a_slotKey, a_slotToken, a_slotRest) := by
  have H : ∀ d i, i + d = n → wX_mergeRow_2 post f_words (nI T) f_textLength f_resultSize (nI n) f_madeSize (d + 1) (nI i) a_wordLetters a_wordLength a_wordCount (ts_F lf) (ts_F rg) a_priceOf a_spelling a_spellingLength a_text a_result a_row (ts_cp a_made a_row i) a_pairFrequency a_waysFrom a_slotsAt a_slotKey a_slotToken a_slotRest := by
    intro d
    induction d with
    | zero =>
      intro i hi
      have e : i = n := by omega
      subst e
      refine br_t (nI_le (Nat.le_refl i) (by omega)) ?_
      have hd : ts_Hd (ts_cp a_made a_row i) (ts_mi lf rg (ts_rw r i) 0) := by
        intro j e he
        rw [show ts_mi lf rg (ts_rw r i) 0 = ts_rw r i from rfl, ts_rw_get] at he
        by_cases z : j < i
        · rw [if_pos z] at he
          cases he
          rw [ts_cp_lt z]
          exact hrow j z
        · rw [if_neg z] at he
          cases he
      have := tx_mergeRow39 (post := post) (T := T) (lf := lf) (rg := rg) (l0 := ts_rw r i) hT (by rw [ts_rw_len]; exact hn) (fun e he => by obtain ⟨q, _, rfl⟩ := ts_rw_mem he; exact hr q) hlf hrg h (T - 6) 0 (by omega) _ hd
      rw [show (ts_mi lf rg (ts_rw r i) 0).length = i from ts_rw_len r i] at this
      exact ⟨_, this⟩
    | succ d ih =>
      intro i hi
      refine br_f (nI_ge (by omega) (by omega)) ⟨ts_v (by omega), ts_v (by omega), nm_r (e' := ts_cp a_made a_row (i + 1)) ?_ (nm_r (nI_1 i) (ih (i + 1) (by omega)))⟩
      rw [nI_clamp (by omega)]
      exact ts_cp_s _ _ _
  have := H n 0 (by omega)
  rw [ts_cp_0] at this
  exact ⟨_, this⟩
/-- X's pair cells hold the frequencies over the words below w -/
def ts_PF (WC : Nat → Int32) (ML : Nat → List Nat) (pf : Nat → Int32) (w : Nat) : Prop := ∀ x y, x < 20 → y < 20 → pf (x * 20 + y) = ts_fq WC ML x y w
def tx_TJ2 : Type := Int32 → Int32 → Int32 → Int32 → Int32 → Int32 → Int32 → (Nat → Int32) → (Nat → Int32) → (Nat → Int32) → (Nat → Int32) → (Nat → Int32) → (Nat → Int32) → (Nat → Int32) → (Nat → Int32) → (Nat → Int32) → (Nat → Int32) → (Nat → Int32) → (Nat → Int32) → (Nat → Int32) → (Nat → Int32) → (Nat → Int32) → (Nat → Int32) → (Nat → Int32) → (Nat → Int32) → Prop
theorem tx_cp43 {post : SX → Prop} {J : tx_TJ2} {w : Nat} {L : List Nat} (hw : w < 12) (hL : L.length ≤ 12) (hLe : ∀ e ∈ L, e < 20) (h0 : ts_Hd a_made L)
    (h : ∀ pf, (∀ x y, x < 20 → y < 20 → pf (x * 20 + y) = a_pairFrequency (x * 20 + y) + ts_am (a_wordCount w) L x y (L.length - 1)) → J (nI (w + 1)) f_words f_tokenCount f_textLength f_resultSize f_rowLength (nI L.length) a_wordLetters a_wordLength a_wordCount a_leftOf a_rightOf a_priceOf a_spelling a_spellingLength a_text a_result a_row a_made pf a_waysFrom a_slotsAt a_slotKey a_slotToken a_slotRest) :
    ∃ n, wX_countPairs_43 post J (nI w) f_words f_tokenCount f_textLength f_resultSize f_rowLength (nI L.length) n 1 a_wordLetters a_wordLength a_wordCount a_leftOf a_rightOf a_priceOf a_spelling a_spellingLength a_text a_result a_row a_made a_pairFrequency a_waysFrom a_slotsAt a_slotKey a_slotToken a_slotRest := by
  have hcw : (nI w).toNatClampNeg = w := nI_clamp (by omega)
  have H : ∀ d i, i + 1 + d = max L.length 1 → ∀ pf, (∀ x y, x < 20 → y < 20 → pf (x * 20 + y) = a_pairFrequency (x * 20 + y) + ts_am (a_wordCount w) L x y i) → wX_countPairs_43 post J (nI w) f_words f_tokenCount f_textLength f_resultSize f_rowLength (nI L.length) (d + 1) (nI (i + 1)) a_wordLetters a_wordLength a_wordCount a_leftOf a_rightOf a_priceOf a_spelling a_spellingLength a_text a_result a_row a_made pf a_waysFrom a_slotsAt a_slotKey a_slotToken a_slotRest := by
    intro d
    induction d with
    | zero =>
      intro i hi pf hpf
      refine br_t (nI_le (by omega) (by omega)) (nm_r (nI_1 w) (h pf ?_))
      rw [show L.length - 1 = i by omega]
      exact hpf
    | succ d ih =>
      intro i hi pf hpf
      obtain ⟨x, hx⟩ := ts_get (l := L) (i := i) (by omega)
      obtain ⟨y, hy⟩ := ts_get (l := L) (i := i + 1) (by omega)
      have hxl : x < 20 := hLe x (List.mem_of_getElem? hx)
      have hyl : y < 20 := hLe y (List.mem_of_getElem? hy)
      have e0 : nI (i + 1) - 1 = nI i := nI_pred i
      have e1 : (nI (i + 1) - 1).toNatClampNeg = i := by rw [e0]; exact nI_clamp (by omega)
      have e2 : (nI (i + 1)).toNatClampNeg = i + 1 := nI_clamp (by omega)
      have e3 : a_made (nI (i + 1) - 1).toNatClampNeg * 20 + a_made (nI (i + 1)).toNatClampNeg = nI (x * 20 + y) := by
        rw [e1, e2, h0 i x hx, h0 (i + 1) y hy]
        exact ts_ma 20 x y
      have hv : vp_in (a_made (nI (i + 1) - 1).toNatClampNeg * 20 + a_made (nI (i + 1)).toNatClampNeg) 400 := by rw [e3]; exact ts_v (by omega)
      refine br_f (nI_ge (by omega) (by omega)) ⟨by rw [e0]; exact ts_v (by omega), ts_v (by omega), hv, ts_v hw, hv, nm_r (e' := upd pf (x * 20 + y) (pf (x * 20 + y) + a_wordCount w)) ?_ (nm_r (nI_1 (i + 1)) (ih (i + 1) (by omega) _ ?_))⟩
      · rw [e3, hcw, nI_clamp (by omega)]
      · intro x' y' hx' hy'
        show _ = _ + (ts_am (a_wordCount w) L x' y' i + _)
        by_cases c : x' = x ∧ y' = y
        · rw [c.1, c.2, pk_us, if_pos ⟨hx, hy⟩, hpf x y hxl hyl, Int32.add_assoc]
        · rw [pk_un (by omega), if_neg, hpf x' y' hx' hy', Int32.add_zero]
          intro z
          rw [hx, hy] at z
          exact c ⟨(Option.some.inj z.1).symm, (Option.some.inj z.2).symm⟩
  have := H (max L.length 1 - 1) 0 (by omega) a_pairFrequency (fun x y _ _ => by show _ = _ + 0; rw [Int32.add_zero])
  exact ⟨_, this⟩
end
/-- the merged word w -/
def ts_ML (lf rg WL WS : Nat → Nat) (T w : Nat) : List Nat := ts_mi lf rg (ts_rw (fun i => WL (w * 8 + i)) (WS w)) (T - 6)
theorem ts_ML_len (lf rg WL WS : Nat → Nat) (T w : Nat) : (ts_ML lf rg WL WS T w).length ≤ WS w := by
  have := ts_mi_len lf rg (ts_rw (fun i => WL (w * 8 + i)) (WS w)) (T - 6)
  rw [ts_rw_len] at this
  exact this
theorem ts_ML_lt {lf rg WL WS : Nat → Nat} {T : Nat} (w : Nat) (hT : 6 ≤ T) (hWL : ∀ i, WL i < 6) : ∀ e ∈ ts_ML lf rg WL WS T w, e < T := by
  intro e he
  have := ts_mi_lt lf rg (ts_rw (fun i => WL (w * 8 + i)) (WS w)) (fun e he => by obtain ⟨q, _, rfl⟩ := ts_rw_mem he; exact hWL _) (T - 6) e he
  omega
section
variable {f_words f_tokenCount f_textLength f_resultSize f_rowLength f_madeSize : Int32} {a_wordLetters a_wordLength a_wordCount a_leftOf a_rightOf a_priceOf a_spelling a_spellingLength a_text a_result a_row a_made a_pairFrequency a_waysFrom a_slotsAt a_slotKey a_slotToken a_slotRest : Nat → Int32}
theorem tx_countPairs {post : SX → Prop} {W T : Nat} {lf rg WL WS : Nat → Nat} (hW : W ≤ 12) (hT6 : 6 ≤ T) (hT : T ≤ 20) (hWL : ∀ i, WL i < 6) (hWS : ∀ i, WS i ≤ 8) (hlf : ∀ t, lf t < 20) (hrg : ∀ t, rg t < 20)
    (h : ∀ rl ms row md pf, ts_PF a_wordCount (ts_ML lf rg WL WS T) pf W → post (nI W, nI T, f_textLength, f_resultSize, rl, ms, ts_F WL, ts_F WS, a_wordCount, ts_F lf, ts_F rg, a_priceOf, a_spelling, a_spellingLength, a_text, a_result, row, md, pf, a_waysFrom, a_slotsAt, a_slotKey, a_slotToken, a_slotRest)) :
    wpX_countPairs post (nI W, nI T, f_textLength, f_resultSize, f_rowLength, f_madeSize, ts_F WL, ts_F WS, a_wordCount, ts_F lf, ts_F rg, a_priceOf, a_spelling, a_spellingLength, a_text, a_result, a_row, a_made, a_pairFrequency, a_waysFrom, a_slotsAt, a_slotKey, a_slotToken, a_slotRest) := by
  have H2 : ∀ d w, w + d = W → ∀ rl ms row md pf, ts_PF a_wordCount (ts_ML lf rg WL WS T) pf w → wX_countPairs_24 post (d + 1) (nI w) (nI W) (nI T) f_textLength f_resultSize rl ms (ts_F WL) (ts_F WS) a_wordCount (ts_F lf) (ts_F rg) a_priceOf a_spelling a_spellingLength a_text a_result row md pf a_waysFrom a_slotsAt a_slotKey a_slotToken a_slotRest := by
    intro d
    induction d with
    | zero =>
      intro w hw rl ms row md pf hpf
      have e : w = W := by omega
      subst e
      exact br_t (nI_le (Nat.le_refl w) (by omega)) (h _ _ _ _ _ hpf)
    | succ d ih =>
      intro w hw rl ms row md pf hpf
      have hs := hWS w
      refine br_f (nI_ge (by omega) (by omega)) ?_
      refine tx_takeWord (w := w) (m := WS w) (by omega) hs rfl ?_
      refine tx_mergeRow (r := fun i => WL (w * 8 + i)) (n := WS w) hT6 hT (by omega) (fun i => hWL _) (fun i hi => ts_cp_lt hi) hlf hrg (fun a ha => ?_)
      have hl := ts_ML_len lf rg WL WS T w
      refine tx_cp43 (L := ts_ML lf rg WL WS T w) (by omega) (by omega) (fun e he => by have := ts_ML_lt w hT6 hWL e he; omega) ha (fun pf' hpf' => ih (w + 1) (by omega) _ _ _ _ _ ?_)
      intro x y hx hy
      rw [hpf' x y hx hy, hpf x y hx hy]
      rfl
  have H : ∀ d i, i + d = 400 → wX_countPairs_2 post (nI W) (nI T) f_textLength f_resultSize f_rowLength f_madeSize (d + 1) (nI i) (ts_F WL) (ts_F WS) a_wordCount (ts_F lf) (ts_F rg) a_priceOf a_spelling a_spellingLength a_text a_result a_row a_made (ts_cp a_pairFrequency (fun _ => 0) i) a_waysFrom a_slotsAt a_slotKey a_slotToken a_slotRest := by
    intro d
    induction d with
    | zero =>
      intro i hi
      have e : i = 400 := by omega
      subst e
      refine br_t (nI_le (b := 400) (Nat.le_refl _) (by omega)) ⟨_, H2 W 0 (by omega) _ _ _ _ _ (fun x y hx hy => ?_)⟩
      exact ts_cp_lt (by omega)
    | succ d ih =>
      intro i hi
      refine br_f (nI_ge (b := 400) (by omega) (by omega)) ⟨ts_v (by omega), nm_r (e' := ts_cp a_pairFrequency (fun _ => 0) (i + 1)) ?_ (nm_r (nI_1 i) (ih (i + 1) (by omega)))⟩
      rw [nI_clamp (by omega)]
      exact ts_cp_s _ (fun _ => 0) _
  have := H 400 0 (by omega)
  rw [ts_cp_0] at this
  exact ⟨_, this⟩
theorem tx_mostFrequentPair {post : Int32 → Prop} (h : ∀ m, m < 400 → (∀ j, j < 400 → (a_pairFrequency j).toInt ≤ (a_pairFrequency m).toInt) → (∀ j, j < m → (a_pairFrequency j).toInt < (a_pairFrequency m).toInt) → post (nI m)) : wpX_mostFrequentPair post (f_words, f_tokenCount, f_textLength, f_resultSize, f_rowLength, f_madeSize, a_wordLetters, a_wordLength, a_wordCount, a_leftOf, a_rightOf, a_priceOf, a_spelling, a_spellingLength, a_text, a_result, a_row, a_made, a_pairFrequency, a_waysFrom, a_slotsAt, a_slotKey, a_slotToken, a_slotRest) := by
  have H : ∀ d i, i + d = 400 → ∀ m, m < i → (∀ j, j < i → (a_pairFrequency j).toInt ≤ (a_pairFrequency m).toInt) → (∀ j, j < m → (a_pairFrequency j).toInt < (a_pairFrequency m).toInt) → wX_mostFrequentPair_4 post f_words f_tokenCount f_textLength f_resultSize f_rowLength f_madeSize a_wordLetters a_wordLength a_wordCount a_leftOf a_rightOf a_priceOf a_spelling a_spellingLength a_text a_result a_row a_made a_pairFrequency a_waysFrom a_slotsAt a_slotKey a_slotToken a_slotRest (d + 1) (nI m) (nI i) := by
    intro d
    induction d with
    | zero =>
      intro i hi m hm h1 h2
      have e : i = 400 := by omega
      subst e
      exact br_t (nI_le (b := 400) (Nat.le_refl _) (by omega)) (h m hm h1 h2)
    | succ d ih =>
      intro i hi m hm h1 h2
      refine br_f (nI_ge (b := 400) (by omega) (by omega)) ⟨ts_v (by omega), ts_v (by omega), ?_⟩
      have e1 : (nI i).toNatClampNeg = i := nI_clamp (by omega)
      have e2 : (nI m).toNatClampNeg = m := nI_clamp (by omega)
      by_cases c : (a_pairFrequency i).toInt ≤ (a_pairFrequency m).toInt
      · refine br_t (by rw [e1, e2]; exact Int32.le_iff_toInt_le.mpr c) (nm_r (nI_1 i) (ih (i + 1) (by omega) m (by omega) (fun j hj => ?_) h2))
        by_cases z : j = i
        · rw [z]; exact c
        · exact h1 j (by omega)
      · refine br_f (by rw [e1, e2]; exact fun z => c (Int32.le_iff_toInt_le.mp z)) (nm_r (nI_1 i) (ih (i + 1) (by omega) i (by omega) (fun j hj => ?_) (fun j hj => ?_)))
        · by_cases z : j = i
          · rw [z]; exact Int.le_refl _
          · have := h1 j (by omega); omega
        · have := h1 j hj; omega
  exact ⟨_, H 399 1 (by omega) 0 (by omega) (fun j hj => by have e : j = 0 := by omega
                                                            rw [e]; exact Int.le_refl _) (fun j hj => absurd hj (by omega))⟩
end
def ts_ap (sp : Nat → Nat) (dst src m : Nat) : Nat → Nat := fun j => if dst ≤ j ∧ j < dst + m then sp (src + (j - dst)) else sp j
theorem ts_ap_0 (sp : Nat → Nat) (dst src : Nat) : ts_ap sp dst src 0 = sp := by
  funext j
  exact if_neg (by omega)
theorem ts_ap_s (sp : Nat → Nat) (dst src m : Nat) : ts_un (ts_ap sp dst src m) (dst + m) (sp (src + m)) = ts_ap sp dst src (m + 1) := by
  funext j
  unfold ts_un ts_ap
  by_cases h : j = dst + m
  · rw [if_pos h, if_pos (by omega), h, Nat.add_sub_cancel_left]
  · rw [if_neg h]
    by_cases h2 : dst ≤ j ∧ j < dst + m
    · rw [if_pos h2, if_pos (by omega)]
    · rw [if_neg h2, if_neg (by omega)]
theorem ts_ap_lo {sp : Nat → Nat} {dst src m j : Nat} (h : j < dst) : ts_ap sp dst src m j = sp j := if_neg (by omega)
theorem ts_ap_hi {sp : Nat → Nat} {dst src m j : Nat} (h : dst + m ≤ j) : ts_ap sp dst src m j = sp j := if_neg (by omega)
theorem ts_ap_in {sp : Nat → Nat} {dst src m i : Nat} (h : i < m) : ts_ap sp dst src m (dst + i) = sp (src + i) := by
  unfold ts_ap
  rw [if_pos (by omega), Nat.add_sub_cancel_left]
section
variable {f_words f_tokenCount f_textLength f_resultSize f_rowLength f_madeSize : Int32} {a_wordLetters a_wordLength a_wordCount a_leftOf a_rightOf a_priceOf a_spelling a_spellingLength a_text a_result a_row a_made a_pairFrequency a_waysFrom a_slotsAt a_slotKey a_slotToken a_slotRest : Nat → Int32}
theorem tx_append {post : SX → Prop} {t x b : Nat} {sp ln : Nat → Nat} (ht : t < 20) (hx : x < t) (hb : ln t = b) (hm : b + ln x ≤ 8)
    (h : post (f_words, f_tokenCount, f_textLength, f_resultSize, f_rowLength, f_madeSize, a_wordLetters, a_wordLength, a_wordCount, a_leftOf, a_rightOf, a_priceOf, ts_F (ts_ap sp (t * 8 + b) (x * 8) (ln x)), ts_F (ts_un ln t (b + ln x)), a_text, a_result, a_row, a_made, a_pairFrequency, a_waysFrom, a_slotsAt, a_slotKey, a_slotToken, a_slotRest)) :
    wpX_appendSpelling post (f_words, f_tokenCount, f_textLength, f_resultSize, f_rowLength, f_madeSize, a_wordLetters, a_wordLength, a_wordCount, a_leftOf, a_rightOf, a_priceOf, ts_F sp, ts_F ln, a_text, a_result, a_row, a_made, a_pairFrequency, a_waysFrom, a_slotsAt, a_slotKey, a_slotToken, a_slotRest) (nI t) (nI x) := by
  have ct : (nI t).toNatClampNeg = t := nI_clamp (by omega)
  have cx : (nI x).toNatClampNeg = x := nI_clamp (by omega)
  have H : ∀ d i, i + d = ln x → wX_appendSpelling_2 post (nI t) (nI x) f_words f_tokenCount f_textLength f_resultSize f_rowLength f_madeSize (d + 1) (nI i) a_wordLetters a_wordLength a_wordCount a_leftOf a_rightOf a_priceOf (ts_F (ts_ap sp (t * 8 + b) (x * 8) i)) (ts_F ln) a_text a_result a_row a_made a_pairFrequency a_waysFrom a_slotsAt a_slotKey a_slotToken a_slotRest := by
    intro d
    induction d with
    | zero =>
      intro i hi
      have e : i = ln x := by omega
      subst e
      refine ⟨ts_v (by omega), br_t ?_ ⟨ts_v ht, ts_v (by omega), ts_v ht, nm_r (e' := ts_F (ts_un ln t (b + ln x))) ?_ h⟩⟩
      · rw [cx]; exact nI_le (Nat.le_refl _) (by omega)
      · rw [ct, cx]
        show upd _ _ (nI (ln t) + nI (ln x)) = _
        rw [nI_add, hb]
        exact ts_F_up _ _ _
    | succ d ih =>
      intro i hi
      have e1 : nI x * 8 + nI i = nI (x * 8 + i) := ts_ma 8 x i
      have e2 : nI t * 8 + nI (b + i) = nI (t * 8 + (b + i)) := ts_ma 8 t (b + i)
      refine ⟨ts_v (by omega), br_f ?_ ⟨ts_v ht, nm_r (e' := nI (b + i)) ?_ ⟨?_, ?_, nm_r (e' := ts_F (ts_ap sp (t * 8 + b) (x * 8) (i + 1))) ?_ (nm_r (nI_1 i) (ih (i + 1) (by omega)))⟩⟩⟩
      · rw [cx]; exact nI_ge (by omega) (by omega)
      · rw [ct]
        show nI (ln t) + nI i = _
        rw [nI_add, hb]
      · rw [e1]; exact ts_v (by omega)
      · rw [e2]; exact ts_v (by omega)
      · rw [e1, e2, nI_clamp (by omega), nI_clamp (by omega)]
        show upd _ _ (nI (ts_ap sp (t * 8 + b) (x * 8) i (x * 8 + i))) = _
        rw [ts_ap_lo (by omega), ts_F_up, ← Nat.add_assoc, ts_ap_s]
  have := H (ln x) 0 (by omega)
  rw [ts_ap_0] at this
  exact ⟨_, this⟩
end
end
section
theorem ts_nb {t : Nat} (h : t < 2 ^ 31) : ¬ nI t = (-1) := by
  intro z
  have a := ts_nn h
  rw [z] at a
  exact a ts_neg1
section
variable {f_words f_tokenCount f_textLength f_resultSize f_rowLength f_madeSize : Int32} {a_wordLetters a_wordLength a_wordCount a_leftOf a_rightOf a_priceOf a_spelling a_spellingLength a_text a_result a_row a_made a_pairFrequency a_waysFrom a_slotsAt a_slotKey a_slotToken a_slotRest : Nat → Int32}
theorem tx_fits {post : Int32 → Prop} {T n t p : Nat} {bx : Int32} {ln SP r : Nat → Nat} (ht : t < 20) (hn : n ≤ 12) (hp : p ≤ n) (hln : ∀ t, ln t ≤ 8) (hSP : ∀ j, SP j < 6) (hr : ∀ i, r i < 6) (hrow : ∀ i, i < n → a_row i = nI (r i)) (hb : ¬ nI t = bx)
    (h1 : ts_fit bx ln (fun t i => SP (t * 8 + i)) r n t p = true → post 1) (h0 : ¬ ts_fit bx ln (fun t i => SP (t * 8 + i)) r n t p = true → post 0) :
    wpX_fits post (f_words, nI T, f_textLength, f_resultSize, nI n, f_madeSize, a_wordLetters, a_wordLength, a_wordCount, a_leftOf, a_rightOf, a_priceOf, ts_F SP, ts_F ln, a_text, a_result, a_row, a_made, a_pairFrequency, a_waysFrom, a_slotsAt, a_slotKey, a_slotToken, a_slotRest) (nI t) (nI p) := by
  have ct : (nI t).toNatClampNeg = t := nI_clamp (by omega)
  have l8 := hln t
  have el : ts_F ln (nI t).toNatClampNeg = nI (ln t) := by rw [ct]; rfl
  have es : nI p + ts_F ln (nI t).toNatClampNeg = nI (p + ln t) := by rw [el, nI_add]
  refine ⟨ts_v ht, ?_⟩
  by_cases c : p + ln t ≤ n
  · refine br_t (by rw [es]; exact nI_le c (by omega)) ?_
    have H : ∀ d i, i + d = ln t → (∀ j, j < i → r (p + j) = SP (t * 8 + j)) → wX_fits_19 post (nI t) (nI p) f_words (nI T) f_textLength f_resultSize (nI n) f_madeSize a_wordLetters a_wordLength a_wordCount a_leftOf a_rightOf a_priceOf (ts_F SP) (ts_F ln) a_text a_result a_row a_made a_pairFrequency a_waysFrom a_slotsAt a_slotKey a_slotToken a_slotRest (d + 1) (nI i) := by
      intro d
      induction d with
      | zero =>
        intro i hi hj
        refine ⟨ts_v ht, br_t (by rw [el]; exact nI_le (by omega) (by omega)) (h1 (ts_fit_t.mpr ⟨hb, c, fun j hj' => hj j (by omega)⟩))⟩
      | succ d ih =>
        intro i hi hj
        have e1 : nI p + nI i = nI (p + i) := nI_add p i
        have e2 : nI t * 8 + nI i = nI (t * 8 + i) := ts_ma 8 t i
        have e3 : a_row (nI p + nI i).toNatClampNeg = nI (r (p + i)) := by rw [e1, nI_clamp (by omega)]; exact hrow _ (by omega)
        have e4 : ts_F SP (nI t * 8 + nI i).toNatClampNeg = nI (SP (t * 8 + i)) := by rw [e2, nI_clamp (by omega)]; rfl
        have b1 := hr (p + i)
        have b2 := hSP (t * 8 + i)
        refine ⟨ts_v ht, br_f (by rw [el]; exact nI_ge (by omega) (by omega)) ⟨by rw [e1]; exact ts_v (by omega), by rw [e2]; exact ts_v (by omega), ?_⟩⟩
        by_cases q : r (p + i) = SP (t * 8 + i)
        · refine br_t (by rw [e3, e4, q]) (nm_r (nI_1 i) (ih (i + 1) (by omega) (fun j hj' => ?_)))
          by_cases z : j = i
          · rw [z]; exact q
          · exact hj j (by omega)
        · refine br_f (fun z => ?_) (h0 (fun z => ?_))
          · rw [e3, e4] at z
            exact q ((nI_eq (by omega) (by omega)).mp z)
          · exact q ((ts_fit_t.mp z).2.2 i (by omega))
    exact ⟨_, H (ln t) 0 (by omega) (fun j hj => absurd hj (by omega))⟩
  · exact br_f (by rw [es]; exact nI_ge (by omega) (by omega)) (h0 (fun z => c (ts_fit_t.mp z).2.1))
theorem tx_longestAt {post : Int32 → Prop} {T n p : Nat} {ln SP r : Nat → Nat} (hE : ts_En T ln (fun t i => SP (t * 8 + i))) (hn : n ≤ 12) (hp : p < n) (hSP : ∀ j, SP j < 6) (hr : ∀ i, r i < 6) (hrow : ∀ i, i < n → a_row i = nI (r i))
    (h : post (nI (ts_lb (ts_fit (-1) ln (fun t i => SP (t * 8 + i)) r n) ln r p T))) :
    wpX_longestAt post (f_words, nI T, f_textLength, f_resultSize, nI n, f_madeSize, a_wordLetters, a_wordLength, a_wordCount, a_leftOf, a_rightOf, a_priceOf, ts_F SP, ts_F ln, a_text, a_result, a_row, a_made, a_pairFrequency, a_waysFrom, a_slotsAt, a_slotKey, a_slotToken, a_slotRest) (nI p) := by
  obtain ⟨h6, hT, hl1, hl8, hlet⟩ := id hE
  have hlet' := ts_En_let (bx := -1) (n := n) hE (fun t ht => ts_nb (by omega)) hr p hp
  have H : ∀ d t, 6 ≤ t → t + d = T → wX_longestAt_10 post (nI p) f_words (nI T) f_textLength f_resultSize (nI n) f_madeSize a_wordLetters a_wordLength a_wordCount a_leftOf a_rightOf a_priceOf (ts_F SP) (ts_F ln) a_text a_result a_row a_made a_pairFrequency a_waysFrom a_slotsAt a_slotKey a_slotToken a_slotRest (d + 1) (nI (ts_lb (ts_fit (-1) ln (fun t i => SP (t * 8 + i)) r n) ln r p t)) (nI t) := by
    intro d
    induction d with
    | zero =>
      intro t h6t ht
      have e : t = T := by omega
      subst e
      exact br_t (nI_le (Nat.le_refl t) (by omega)) h
    | succ d ih =>
      intro t h6t ht
      have ⟨b1, b2⟩ := ts_lb_ok (ln := ln) hlet'.1 hlet'.2 t (by omega)
      have l1 := hl8 t
      have l2 := hl8 (ts_lb (ts_fit (-1) ln (fun t i => SP (t * 8 + i)) r n) ln r p t)
      have e1 : ts_F ln (nI t).toNatClampNeg = nI (ln t) := by rw [nI_clamp (by omega)]; rfl
      have e2 : ts_F ln (nI (ts_lb (ts_fit (-1) ln (fun t i => SP (t * 8 + i)) r n) ln r p t)).toNatClampNeg = nI (ln (ts_lb (ts_fit (-1) ln (fun t i => SP (t * 8 + i)) r n) ln r p t)) := by rw [nI_clamp (by omega)]; rfl
      have ih' := ih (t + 1) (by omega) (by omega)
      refine br_f (nI_ge (by omega) (by omega)) ⟨ts_v (by omega), ts_v (by omega), ?_⟩
      by_cases c : ln t ≤ ln (ts_lb (ts_fit (-1) ln (fun t i => SP (t * 8 + i)) r n) ln r p t)
      · refine br_t (by rw [e1, e2]; exact nI_le c (by omega)) (nm_r (nI_1 t) ?_)
        unfold ts_lb at ih'
        rw [if_neg (fun z => by omega)] at ih'
        exact ih'
      · refine br_f (by rw [e1, e2]; exact nI_ge (by omega) (by omega)) ?_
        refine tx_fits (by omega) hn (by omega) hl8 hSP hr hrow (ts_nb (by omega)) (fun z => ?_) (fun z => ?_)
        · refine br_f (by decide) (nm_r (nI_1 t) ?_)
          unfold ts_lb at ih'
          rw [if_pos ⟨z, by omega⟩] at ih'
          exact ih'
        · refine br_t rfl (nm_r (nI_1 t) ?_)
          unfold ts_lb at ih'
          rw [if_neg (fun q => z q.1)] at ih'
          exact ih'
  refine ⟨ts_v (by omega), nm_r (e' := nI (r p)) ?_ ?_⟩
  · rw [nI_clamp (by omega)]; exact hrow p hp
  · have := H (T - 6) 6 (Nat.le_refl 6) (by omega)
    rw [ts_lb_6 hE (hr p) 6 (Nat.le_refl 6)] at this
    exact ⟨_, this⟩
theorem tx_splitLongest {post : SX → Prop} {T n : Nat} {ln SP r : Nat → Nat} {L : Nat → List Nat} (hE : ts_En T ln (fun t i => SP (t * 8 + i))) (hn : n ≤ 12) (hSP : ∀ j, SP j < 6) (hr : ∀ i, r i < 6) (hrow : ∀ i, i < n → a_row i = nI (r i)) (hL : ts_TL (ts_fit (-1) ln (fun t i => SP (t * 8 + i)) r n) ln r T n L)
    (h : ∀ a, ts_Hd a (L 0) → post (f_words, nI T, f_textLength, f_resultSize, nI n, nI (L 0).length, a_wordLetters, a_wordLength, a_wordCount, a_leftOf, a_rightOf, a_priceOf, ts_F SP, ts_F ln, a_text, a_result, a_row, a, a_pairFrequency, a_waysFrom, a_slotsAt, a_slotKey, a_slotToken, a_slotRest)) :
    wpX_splitLongestFirst post (f_words, nI T, f_textLength, f_resultSize, nI n, f_madeSize, a_wordLetters, a_wordLength, a_wordCount, a_leftOf, a_rightOf, a_priceOf, ts_F SP, ts_F ln, a_text, a_result, a_row, a_made, a_pairFrequency, a_waysFrom, a_slotsAt, a_slotKey, a_slotToken, a_slotRest) := by
  obtain ⟨h6, hT, hl1, hl8, hlet⟩ := id hE
  have hlet' := ts_En_let (bx := -1) (n := n) hE (fun t ht => ts_nb (by omega)) hr
  have skip : ∀ e q fuel ms a, q + e ≤ n → wX_splitLongestFirst_9 post f_words (nI T) f_textLength f_resultSize (nI n) fuel (nI (q + e)) (nI (q + e)) ms a_wordLetters a_wordLength a_wordCount a_leftOf a_rightOf a_priceOf (ts_F SP) (ts_F ln) a_text a_result a_row a a_pairFrequency a_waysFrom a_slotsAt a_slotKey a_slotToken a_slotRest → wX_splitLongestFirst_9 post f_words (nI T) f_textLength f_resultSize (nI n) (fuel + e) (nI (q + e)) (nI q) ms a_wordLetters a_wordLength a_wordCount a_leftOf a_rightOf a_priceOf (ts_F SP) (ts_F ln) a_text a_result a_row a a_pairFrequency a_waysFrom a_slotsAt a_slotKey a_slotToken a_slotRest := by
    intro e
    induction e with
    | zero => exact fun q fuel ms a _ hh => hh
    | succ e ih =>
      intro q fuel ms a hq hh
      refine br_f (nI_ge (by omega) (by omega)) (br_f (fun z => ?_) (nm_r (nI_1 q) ?_))
      · have := (nI_eq (by omega) (by omega)).mp z
        omega
      · have := ih (q + 1) fuel ms a (by omega)
        rw [show q + 1 + e = q + (e + 1) by omega] at this
        exact this hh
  have H : ∀ d p, p + d = n → ∀ a (out : List Nat), out.length ≤ p → ts_Hd a out → out ++ L p = L 0 → wX_splitLongestFirst_9 post f_words (nI T) f_textLength f_resultSize (nI n) (d + 1) (nI p) (nI p) (nI out.length) a_wordLetters a_wordLength a_wordCount a_leftOf a_rightOf a_priceOf (ts_F SP) (ts_F ln) a_text a_result a_row a a_pairFrequency a_waysFrom a_slotsAt a_slotKey a_slotToken a_slotRest := by
    intro d
    induction d using Nat.strongRecOn with
    | ind d ih =>
      intro p hp a out ho ha hf
      by_cases z : p = n
      · rw [z, hL.1, List.append_nil] at hf
        refine br_t (nI_le (by omega) (by omega)) ?_
        rw [hf]
        exact h a (by rw [← hf]; exact ha)
      · have hp' : p < n := by omega
        refine br_f (nI_ge (by omega) (by omega)) (br_t rfl ?_)
        have ⟨b1, b2⟩ := ts_lb_ok (ln := ln) (hlet' p hp').1 (hlet' p hp').2 T (Nat.le_refl T)
        have ⟨b3, b4⟩ := ts_En_FB hE _ p b1 b2
        refine tx_longestAt hE hn hp' hSP hr hrow ?_
        generalize hb : ts_lb (ts_fit (-1) ln (fun t i => SP (t * 8 + i)) r n) ln r p T = b at *
        have hLp := hL.2 p hp'
        rw [hb] at hLp
        have l8 := hl8 b
        refine ⟨ts_v (by omega), nm_r (e' := upd a out.length (nI b)) ?_ (nm_r (nI_1 out.length) ⟨ts_v (by omega), nm_r (e' := nI (p + ln b)) ?_ (nm_r (nI_1 p) ?_)⟩)⟩
        · rw [nI_clamp (by omega)]
        · rw [nI_clamp (by omega)]
          show nI p + nI (ln b) = _
          rw [nI_add]
        · have k1 := ih (d - ln b) (by omega) (p + ln b) (by omega) (upd a out.length (nI b)) (out ++ [b]) (by rw [List.length_append]; simp only [List.length_cons, List.length_nil]; omega) (ts_Hd_snoc ha) (by rw [List.append_assoc, ← hf, hLp]; rfl)
          rw [List.length_append] at k1
          have k2 := skip (ln b - 1) (p + 1) (d - ln b + 1) (nI (out.length + 1)) (upd a out.length (nI b)) (by omega)
          rw [show p + 1 + (ln b - 1) = p + ln b by omega, show d - ln b + 1 + (ln b - 1) = d by omega] at k2
          exact k2 k1
  exact ⟨_, H n 0 (by omega) a_made [] (Nat.le_refl 0) (ts_Hd_nil _) rfl⟩
theorem tx_ways {post : Int32 → SX → Prop} {T n : Nat} {ln SP r : Nat → Nat} {C : Nat → Nat} (hE : ts_En T ln (fun t i => SP (t * 8 + i))) (hn : n ≤ 12) (hSP : ∀ j, SP j < 6) (hr : ∀ i, r i < 6) (hC : ts_TC (ts_fit (-1) ln (fun t i => SP (t * 8 + i)) r n) ln T n C) (htx : ∀ i, i < n → a_text i = nI (r i))
    (h : ∀ rw' wf, post (nI (C 0)) (f_words, nI T, nI n, f_resultSize, nI n, f_madeSize, a_wordLetters, a_wordLength, a_wordCount, a_leftOf, a_rightOf, a_priceOf, ts_F SP, ts_F ln, a_text, a_result, rw', a_made, a_pairFrequency, wf, a_slotsAt, a_slotKey, a_slotToken, a_slotRest)) :
    wpX_ways post (f_words, nI T, nI n, f_resultSize, f_rowLength, f_madeSize, a_wordLetters, a_wordLength, a_wordCount, a_leftOf, a_rightOf, a_priceOf, ts_F SP, ts_F ln, a_text, a_result, a_row, a_made, a_pairFrequency, a_waysFrom, a_slotsAt, a_slotKey, a_slotToken, a_slotRest) := by
  obtain ⟨h6, hT, hl1, hl8, hlet⟩ := id hE
  refine tx_takeText hn ?_
  have hrow : ∀ i, i < n → ts_cp a_row a_text n i = nI (r i) := fun i hi => by rw [ts_cp_lt hi]; exact htx i hi
  generalize ts_cp a_row a_text n = rw' at hrow
  have cn : (nI n).toNatClampNeg = n := nI_clamp (by omega)
  have H2 : ∀ (J : Int32 → (Nat → Int32) → (Nat → Int32) → (Nat → Int32) → (Nat → Int32) → (Nat → Int32) → (Nat → Int32) → (Nat → Int32) → (Nat → Int32) → (Nat → Int32) → (Nat → Int32) → (Nat → Int32) → (Nat → Int32) → (Nat → Int32) → (Nat → Int32) → (Nat → Int32) → (Nat → Int32) → (Nat → Int32) → (Nat → Int32) → Prop) (p : Nat), p < n →
      (∀ wf, (∀ q, p ≤ q → q ≤ n → wf q = nI (C q)) → J (nI p + (-1)) a_wordLetters a_wordLength a_wordCount a_leftOf a_rightOf a_priceOf (ts_F SP) (ts_F ln) a_text a_result rw' a_made a_pairFrequency wf a_slotsAt a_slotKey a_slotToken a_slotRest) →
      ∀ d t, t + d = T → ∀ wf c, wf p = nI c → c + ts_cf (ts_fit (-1) ln (fun t i => SP (t * 8 + i)) r n) ln C p t d = C p → (∀ q, p < q → q ≤ n → wf q = nI (C q)) →
      wX_ways_34 post J (nI p) f_words (nI T) (nI n) f_resultSize (nI n) f_madeSize (d + 1) (nI t) a_wordLetters a_wordLength a_wordCount a_leftOf a_rightOf a_priceOf (ts_F SP) (ts_F ln) a_text a_result rw' a_made a_pairFrequency wf a_slotsAt a_slotKey a_slotToken a_slotRest := by
    intro J p hp hJ d
    induction d with
    | zero =>
      intro t ht wf c h1 h2 h3
      refine br_t (nI_le (by omega) (by omega)) (nm_e (hJ wf (fun q hq hqn => ?_)))
      by_cases z : q = p
      · rw [z, h1, ← h2]; rfl
      · exact h3 q (by omega) hqn
    | succ d ih =>
      intro t ht wf c h1 h2 h3
      refine br_f (nI_ge (by omega) (by omega)) ?_
      have h2' : c + ((if ts_fit (-1) ln (fun t i => SP (t * 8 + i)) r n t p = true then C (p + ln t) else 0) + ts_cf (ts_fit (-1) ln (fun t i => SP (t * 8 + i)) r n) ln C p (t + 1) d) = C p := h2
      refine tx_fits (by omega) hn (by omega) hl8 hSP hr hrow (ts_nb (by omega)) (fun z => ?_) (fun z => ?_)
      · have ⟨b1, b2⟩ := ts_En_FB hE t p (by omega) z
        have l8 := hl8 t
        have e1 : nI p + ts_F ln (nI t).toNatClampNeg = nI (p + ln t) := by
          rw [nI_clamp (by omega)]
          exact nI_add p (ln t)
        rw [if_pos z] at h2'
        refine br_f (by decide) ⟨ts_v (by omega), ts_v (by omega), by rw [e1]; exact ts_v (by omega), ts_v (by omega), nm_r (e' := upd wf p (nI (c + C (p + ln t)))) ?_ (nm_r (nI_1 t) (ih (t + 1) (by omega) _ (c + C (p + ln t)) pk_us (by omega) (fun q hq hqn => ?_)))⟩
        · rw [e1, nI_clamp (by omega), nI_clamp (by omega), h1, h3 _ (by omega) b2, nI_add]
        · rw [pk_un (by omega)]
          exact h3 q hq hqn
      · rw [if_neg z] at h2'
        exact br_t rfl (nm_r (nI_1 t) (ih (t + 1) (by omega) wf c h1 (by omega) h3))
  have H : ∀ p, p ≤ n → ∀ wf, (∀ q, p ≤ q → q ≤ n → wf q = nI (C q)) → wX_ways_21 post f_words (nI T) (nI n) f_resultSize (nI n) f_madeSize (p + 1) (nI p + (-1)) a_wordLetters a_wordLength a_wordCount a_leftOf a_rightOf a_priceOf (ts_F SP) (ts_F ln) a_text a_result rw' a_made a_pairFrequency wf a_slotsAt a_slotKey a_slotToken a_slotRest := by
    intro p
    induction p with
    | zero =>
      intro _ wf hwf
      refine br_t (by decide) ?_
      rw [hwf 0 (Nat.le_refl 0) (by omega)]
      exact h _ _
    | succ p ih =>
      intro hp wf hwf
      rw [pk_m1]
      refine br_f (ts_nn (by omega)) ⟨ts_v (by omega), nm_r (e' := upd wf p (nI 0)) (by rw [nI_clamp (by omega)]; rfl) ⟨_, H2 _ p (by omega) (fun wf' hw' => ih (by omega) wf' hw') T 0 (by omega) _ 0 pk_us ?_ (fun q hq hqn => ?_)⟩⟩
      · rw [Nat.zero_add]; exact (hC.2 p (by omega)).symm
      · rw [pk_un (by omega)]; exact hwf q (by omega) hqn
  refine ⟨ts_v (by omega), nm_r (e' := upd a_waysFrom n (nI 1)) (by rw [cn]; rfl) (nm_r (e' := nI n + (-1)) ?_ ⟨_, H n (Nat.le_refl n) _ (fun q hq hqn => ?_)⟩)⟩
  · exact Int32.sub_eq_add_neg _ _
  · rw [show q = n by omega, pk_us, hC.1]
end
end
section
/-- the chain of slots from s on spells the list; slots from lo on -/
def ts_Rd (st sr : Nat → Int32) : List Nat → Nat → Nat → Prop
  | [], _, _ => True
  | t :: l, lo, s => lo ≤ s ∧ s < 78 ∧ st s = nI t ∧ ∃ s', sr s = nI s' ∧ ts_Rd st sr l (6 * (s / 6) + 6) s'
theorem ts_Rd_lo {st sr : Nat → Int32} (l : List Nat) {lo lo' s : Nat} (h : lo' ≤ lo) (hr : ts_Rd st sr l lo s) : ts_Rd st sr l lo' s := by
  cases l with
  | nil => exact True.intro
  | cons t l =>
    obtain ⟨a, b⟩ := hr
    exact ⟨by omega, b⟩
theorem ts_Rd_ag {st sr st' sr' : Nat → Int32} (l : List Nat) : ∀ lo s, (∀ j, lo ≤ j → st' j = st j ∧ sr' j = sr j) → ts_Rd st sr l lo s → ts_Rd st' sr' l lo s := by
  induction l with
  | nil => exact fun _ _ _ _ => True.intro
  | cons t l ih =>
    intro lo s h hr
    obtain ⟨a, b, c, s', d, e⟩ := hr
    refine ⟨a, b, by rw [(h s a).1]; exact c, s', by rw [(h s a).2]; exact d, ih _ _ (fun j hj => h j (by omega)) e⟩
theorem ts_Rd_mv {st sr st' sr' : Nat → Int32} {p : Nat} (l : List Nat) {j j' : Nat} (h1 : p * 6 ≤ j) (h2 : j < p * 6 + 6) (h3 : p * 6 ≤ j') (h4 : j' < p * 6 + 6) (hj : j' < 78) (e1 : st' j' = st j) (e2 : sr' j' = sr j) (h : ∀ i, p * 6 + 6 ≤ i → st' i = st i ∧ sr' i = sr i) (hr : ts_Rd st sr l (p * 6) j) : ts_Rd st' sr' l (p * 6) j' := by
  cases l with
  | nil => exact True.intro
  | cons t l =>
    obtain ⟨a, b, c, s', d, e⟩ := hr
    refine ⟨h3, hj, by rw [e1]; exact c, s', by rw [e2]; exact d, ?_⟩
    rw [show 6 * (j' / 6) + 6 = p * 6 + 6 by omega]
    rw [show 6 * (j / 6) + 6 = p * 6 + 6 by omega] at e
    exact ts_Rd_ag l _ _ h e
/-- the slots of place p hold the list of splits -/
def ts_GP (pr : Nat → Nat) (sk st sr : Nat → Int32) (p : Nat) (acc : List (List Nat)) : Prop :=
  ∀ i e, acc[i]? = some e → sk (p * 6 + i) = nI (ts_ky pr e) ∧ ts_Rd st sr e (p * 6) (p * 6 + i)
def ts_AG (pr : Nat → Nat) (acc : List (List Nat)) : Prop := acc.length ≤ 6 ∧ ts_Srt (ts_ky pr) acc ∧ ∀ e ∈ acc, e.length ≤ 12
theorem ts_AG_top {pr : Nat → Nat} {acc : List (List Nat)} {x : List Nat} (h : ts_AG pr acc) (hx : x.length ≤ 12) : ts_AG pr (ts_top (ts_ky pr) acc x) := by
  refine ⟨ts_top_len _ _, ts_top_srt _ h.2.1, fun e he => ?_⟩
  rcases ts_top_mem he with z | z
  · rw [z]; exact hx
  · exact h.2.2 e z
theorem ts_ky_b {pr : Nat → Nat} (hpr : ∀ t, pr t ≤ 99) {e : List Nat} (h : e.length ≤ 12) : ts_ky pr e < 20000 := by
  have := ts_sp_le hpr e
  unfold ts_ky
  omega
def ts_sh (f : Nat → Int32) (lo hi : Nat) : Nat → Int32 := fun j => if lo < j ∧ j ≤ hi then f (j - 1) else f j
theorem ts_sh_0 (f : Nat → Int32) (hi : Nat) : ts_sh f hi hi = f := by
  funext j
  exact if_neg (by omega)
theorem ts_sh_s (f : Nat → Int32) {i hi : Nat} (h : i + 1 ≤ hi) : upd (ts_sh f (i + 1) hi) (i + 1) (ts_sh f (i + 1) hi i) = ts_sh f i hi := by
  funext j
  unfold upd ts_sh
  by_cases z : j = i + 1
  · rw [if_pos z, if_neg (by omega), if_pos (by omega), z, Nat.add_sub_cancel]
  · rw [if_neg z]
    by_cases z2 : i + 1 < j ∧ j ≤ hi
    · rw [if_pos z2, if_pos (by omega)]
    · rw [if_neg z2, if_neg (by omega)]
/-- the slots after a shift and a store -/
theorem ts_GP_ins {pr : Nat → Nat} {sk st sr : Nat → Int32} {p c m s : Nat} {acc : List (List Nat)} {t : Nat} {l : List Nat} (hp : p ≤ 12) (hA : ts_AG pr acc) (hG : ts_GP pr sk st sr p acc) (hc : c ≤ acc.length) (hc6 : c < 6) (hm : m = min 6 (acc.length + 1))
    (e : ts_ins (ts_ky pr) acc (t :: l) = acc.take c ++ (t :: l) :: acc.drop c) (hs : ts_Rd st sr l (p * 6 + 6) s) :
    ts_GP pr (upd (ts_sh sk (p * 6 + c) (p * 6 + m - 1)) (p * 6 + c) (nI (ts_ky pr (t :: l)))) (upd (ts_sh st (p * 6 + c) (p * 6 + m - 1)) (p * 6 + c) (nI t)) (upd (ts_sh sr (p * 6 + c) (p * 6 + m - 1)) (p * 6 + c) (nI s)) p (ts_top (ts_ky pr) acc (t :: l)) := by
  obtain ⟨a1, a2, a3⟩ := hA
  have hag : ∀ i, p * 6 + 6 ≤ i → upd (ts_sh st (p * 6 + c) (p * 6 + m - 1)) (p * 6 + c) (nI t) i = st i ∧ upd (ts_sh sr (p * 6 + c) (p * 6 + m - 1)) (p * 6 + c) (nI s) i = sr i := by
    intro i hi
    rw [pk_un (by omega), pk_un (by omega)]
    unfold ts_sh
    rw [if_neg (by omega), if_neg (by omega)]
    exact ⟨rfl, rfl⟩
  intro i x hx
  unfold ts_top at hx
  rw [e, List.getElem?_take] at hx
  by_cases i6 : i < 6
  · rw [if_pos i6, ts_pos_get acc (t :: l) c i hc] at hx
    by_cases i1 : i < c
    · rw [if_pos i1] at hx
      obtain ⟨g1, g2⟩ := hG i x hx
      have es : ∀ f : Nat → Int32, ∀ z, upd (ts_sh f (p * 6 + c) (p * 6 + m - 1)) (p * 6 + c) z (p * 6 + i) = f (p * 6 + i) := by
        intro f z
        rw [pk_un (by omega)]
        exact if_neg (by omega)
      refine ⟨by rw [es]; exact g1, ts_Rd_mv (st := st) (sr := sr) x (j := p * 6 + i) (by omega) (by omega) (by omega) (by omega) (by omega) (es _ _) (es _ _) hag g2⟩
    · rw [if_neg i1] at hx
      by_cases i2 : i = c
      · rw [if_pos i2] at hx
        cases hx
        subst i2
        refine ⟨pk_us, by omega, by omega, pk_us, s, pk_us, ?_⟩
        rw [show 6 * ((p * 6 + i) / 6) + 6 = p * 6 + 6 by omega]
        exact ts_Rd_ag l _ _ hag hs
      · rw [if_neg i2] at hx
        have hlt : i - 1 < acc.length := by
          obtain ⟨q, _⟩ := List.getElem?_eq_some_iff.mp hx
          exact q
        obtain ⟨g1, g2⟩ := hG (i - 1) x hx
        have es : ∀ f : Nat → Int32, ∀ z, upd (ts_sh f (p * 6 + c) (p * 6 + m - 1)) (p * 6 + c) z (p * 6 + i) = f (p * 6 + (i - 1)) := by
          intro f z
          rw [pk_un (by omega)]
          unfold ts_sh
          rw [if_pos (by omega)]
          congr 1
          omega
        refine ⟨by rw [es]; exact g1, ts_Rd_mv (st := st) (sr := sr) x (j := p * 6 + (i - 1)) (by omega) (by omega) (by omega) (by omega) (by omega) (es _ _) (es _ _) hag g2⟩
  · rw [if_neg i6] at hx
    cases hx
/-- what an offer may change -/
def ts_FR (p : Nat) (sa sk st sr sa' sk' st' sr' : Nat → Int32) : Prop :=
  (∀ q, q ≠ p → sa' q = sa q) ∧ ∀ j, p * 6 + 6 ≤ j → sk' j = sk j ∧ st' j = st j ∧ sr' j = sr j
section
variable {f_words f_tokenCount f_textLength f_resultSize f_rowLength f_madeSize : Int32} {a_wordLetters a_wordLength a_wordCount a_leftOf a_rightOf a_priceOf a_spelling a_spellingLength a_text a_result a_row a_made a_pairFrequency a_waysFrom a_slotsAt a_slotKey a_slotToken a_slotRest : Nat → Int32}
theorem tx_offer104 {post : SX → Prop} {p c m t s kk : Nat} {sk st sr : Nat → Int32} (hp : p ≤ 12) (hcm : c < m) (hm : m ≤ 6)
    (h : post (f_words, f_tokenCount, f_textLength, f_resultSize, f_rowLength, f_madeSize, a_wordLetters, a_wordLength, a_wordCount, a_leftOf, a_rightOf, a_priceOf, a_spelling, a_spellingLength, a_text, a_result, a_row, a_made, a_pairFrequency, a_waysFrom, a_slotsAt, upd (ts_sh sk (p * 6 + c) (p * 6 + m - 1)) (p * 6 + c) (nI kk), upd (ts_sh st (p * 6 + c) (p * 6 + m - 1)) (p * 6 + c) (nI t), upd (ts_sh sr (p * 6 + c) (p * 6 + m - 1)) (p * 6 + c) (nI s))) :
    ∀ d i, c + d = i → i < m → wX_offerSplit_104 post (nI t) (nI s) (nI kk) (nI (p * 6)) (nI c) f_words f_tokenCount f_textLength f_resultSize f_rowLength f_madeSize (d + 1) (nI (p * 6 + i)) a_wordLetters a_wordLength a_wordCount a_leftOf a_rightOf a_priceOf a_spelling a_spellingLength a_text a_result a_row a_made a_pairFrequency a_waysFrom a_slotsAt (ts_sh sk (p * 6 + i) (p * 6 + m - 1)) (ts_sh st (p * 6 + i) (p * 6 + m - 1)) (ts_sh sr (p * 6 + i) (p * 6 + m - 1)) := by
  have e0 : nI (p * 6) + nI c = nI (p * 6 + c) := nI_add _ _
  have hv : vp_in (nI (p * 6) + nI c) 78 := by rw [e0]; exact ts_v (by omega)
  have ec : (nI (p * 6) + nI c).toNatClampNeg = p * 6 + c := by rw [e0]; exact nI_clamp (by omega)
  intro d
  induction d with
  | zero =>
    intro i hi him
    have e : i = c := by omega
    subst e
    exact br_t (by rw [e0]; exact nI_le (Nat.le_refl _) (by omega)) ⟨hv, nm_r (by rw [ec]) ⟨hv, nm_r (by rw [ec]) ⟨hv, nm_r (by rw [ec]) h⟩⟩⟩
  | succ d ih =>
    intro i hi him
    obtain ⟨q, rfl⟩ : ∃ q, i = q + 1 := ⟨i - 1, by omega⟩
    have e1 : nI (p * 6 + (q + 1)) - 1 = nI (p * 6 + q) := nI_pred (p * 6 + q)
    have e2 : (nI (p * 6 + (q + 1)) - 1).toNatClampNeg = p * 6 + q := by rw [e1]; exact nI_clamp (by omega)
    have e3 : (nI (p * 6 + (q + 1))).toNatClampNeg = p * 6 + q + 1 := nI_clamp (by omega)
    have v1 : vp_in (nI (p * 6 + (q + 1)) - 1) 78 := by rw [e1]; exact ts_v (by omega)
    have v2 : vp_in (nI (p * 6 + (q + 1))) 78 := ts_v (by omega)
    have es : ∀ f : Nat → Int32, upd (ts_sh f (p * 6 + (q + 1)) (p * 6 + m - 1)) (nI (p * 6 + (q + 1))).toNatClampNeg (ts_sh f (p * 6 + (q + 1)) (p * 6 + m - 1) (nI (p * 6 + (q + 1)) - 1).toNatClampNeg) = ts_sh f (p * 6 + q) (p * 6 + m - 1) := by
      intro f
      rw [e2, e3]
      exact ts_sh_s f (i := p * 6 + q) (hi := p * 6 + m - 1) (by omega)
    exact br_f (by rw [e0]; exact nI_ge (by omega) (by omega)) ⟨v1, v2, nm_r (es sk) ⟨v1, v2, nm_r (es st) ⟨v1, v2, nm_r (es sr) (nm_r (pk_m1 (p * 6 + q)) (ih q (by omega) (by omega)))⟩⟩⟩
theorem tx_offer62 {post : SX → Prop} {p c t s : Nat} {pr : Nat → Nat} {acc : List (List Nat)} {l : List Nat} (hp : p ≤ 12) (hpr : ∀ t, pr t ≤ 99) (hA : ts_AG pr acc) (hG : ts_GP pr a_slotKey a_slotToken a_slotRest p acc) (hsa : a_slotsAt p = nI acc.length) (hc : c ≤ acc.length)
    (e : ts_ins (ts_ky pr) acc (t :: l) = acc.take c ++ (t :: l) :: acc.drop c) (hs : ts_Rd a_slotToken a_slotRest l (p * 6 + 6) s)
    (h : ∀ sa sk st sr, sa p = nI (ts_top (ts_ky pr) acc (t :: l)).length → ts_FR p a_slotsAt a_slotKey a_slotToken a_slotRest sa sk st sr → ts_GP pr sk st sr p (ts_top (ts_ky pr) acc (t :: l)) → post (f_words, f_tokenCount, f_textLength, f_resultSize, f_rowLength, f_madeSize, a_wordLetters, a_wordLength, a_wordCount, a_leftOf, a_rightOf, a_priceOf, a_spelling, a_spellingLength, a_text, a_result, a_row, a_made, a_pairFrequency, a_waysFrom, sa, sk, st, sr)) :
    wX_offerSplit_62 post (nI p) (nI t) (nI s) (nI (ts_ky pr (t :: l))) (nI (p * 6)) (nI c) f_words f_tokenCount f_textLength f_resultSize f_rowLength f_madeSize a_wordLetters a_wordLength a_wordCount a_leftOf a_rightOf a_priceOf a_spelling a_spellingLength a_text a_result a_row a_made a_pairFrequency a_waysFrom a_slotsAt a_slotKey a_slotToken a_slotRest := by
  have ep : (nI p).toNatClampNeg = p := nI_clamp (by omega)
  have al := hA.1
  have tl : (ts_top (ts_ky pr) acc (t :: l)).length = min 6 (acc.length + 1) := by
    unfold ts_top
    rw [List.length_take, ts_ins_len]
  by_cases c6 : c < 6
  · refine br_t (nI_lt (b := 6) c6 (by decide)) ⟨ts_v (by omega), ?_⟩
    have fin : ∀ sa : Nat → Int32, sa p = nI (min 6 (acc.length + 1)) → (∀ q, q ≠ p → sa q = a_slotsAt q) → wX_offerSplit_91 post (nI p) (nI t) (nI s) (nI (ts_ky pr (t :: l))) (nI (p * 6)) (nI c) f_words f_tokenCount f_textLength f_resultSize f_rowLength f_madeSize a_wordLetters a_wordLength a_wordCount a_leftOf a_rightOf a_priceOf a_spelling a_spellingLength a_text a_result a_row a_made a_pairFrequency a_waysFrom sa a_slotKey a_slotToken a_slotRest := by
      intro sa h1 h2
      have := tx_offer104 (post := post) (p := p) (c := c) (m := min 6 (acc.length + 1)) (t := t) (s := s) (kk := ts_ky pr (t :: l)) (a_slotsAt := sa) (sk := a_slotKey) (st := a_slotToken) (sr := a_slotRest) hp (by omega) (by omega) (h _ _ _ _ (by rw [tl]; exact h1) ⟨h2, fun j hj => ?_⟩ (ts_GP_ins hp hA hG hc c6 rfl e hs)) (min 6 (acc.length + 1) - 1 - c) (min 6 (acc.length + 1) - 1) (by omega) (by omega)
      · rw [show p * 6 + (min 6 (acc.length + 1) - 1) = p * 6 + min 6 (acc.length + 1) - 1 by omega, ts_sh_0, ts_sh_0, ts_sh_0] at this
        refine ⟨ts_v (by omega), nm_r (e' := nI (p * 6 + min 6 (acc.length + 1) - 1)) ?_ ⟨_, this⟩⟩
        rw [ep, h1, nI_add, ts_sub1 (by omega)]
      · rw [pk_un (by omega), pk_un (by omega), pk_un (by omega)]
        unfold ts_sh
        rw [if_neg (by omega), if_neg (by omega), if_neg (by omega)]
        exact ⟨rfl, rfl, rfl⟩
    by_cases f6 : acc.length = 6
    · refine br_t (by rw [ep, hsa, f6]; decide) (fin a_slotsAt ?_ (fun q _ => rfl))
      rw [hsa, f6]
      rfl
    · refine br_f (by rw [ep, hsa]; exact nI_ge (b := 6) (by omega) (by decide)) ⟨ts_v (by omega), ts_v (by omega), nm_r (e' := upd a_slotsAt p (nI (acc.length + 1))) ?_ (fin _ ?_ (fun q hq => pk_un hq))⟩
      · rw [ep, hsa, nI_1]
      · rw [pk_us]
        congr 1
        omega
  · have c6' : c = 6 := by omega
    have l6 : acc.length = 6 := by omega
    have et : ts_top (ts_ky pr) acc (t :: l) = acc := by
      unfold ts_top
      rw [e, c6', ← l6, List.take_length, List.take_left]
    rw [et] at h
    refine br_f (by rw [c6']; decide) (h _ _ _ _ hsa ⟨fun _ _ => rfl, fun _ _ => ⟨rfl, rfl, rfl⟩⟩ hG)
theorem tx_offerSplit {post : SX → Prop} {p t s : Nat} {pr : Nat → Nat} {acc : List (List Nat)} {l : List Nat} (hp : p ≤ 12) (ht : t < 20) (hs78 : s < 78) (hl : l.length ≤ 11) (hpr : ∀ t, pr t ≤ 99) (hA : ts_AG pr acc) (hG : ts_GP pr a_slotKey a_slotToken a_slotRest p acc) (hsa : a_slotsAt p = nI acc.length)
    (hk : a_slotKey s = nI (ts_ky pr l)) (hs : ts_Rd a_slotToken a_slotRest l (p * 6 + 6) s)
    (h : ∀ sa sk st sr, sa p = nI (ts_top (ts_ky pr) acc (t :: l)).length → ts_FR p a_slotsAt a_slotKey a_slotToken a_slotRest sa sk st sr → ts_GP pr sk st sr p (ts_top (ts_ky pr) acc (t :: l)) → post (f_words, f_tokenCount, f_textLength, f_resultSize, f_rowLength, f_madeSize, a_wordLetters, a_wordLength, a_wordCount, a_leftOf, a_rightOf, ts_F pr, a_spelling, a_spellingLength, a_text, a_result, a_row, a_made, a_pairFrequency, a_waysFrom, sa, sk, st, sr)) :
    wpX_offerSplit post (f_words, f_tokenCount, f_textLength, f_resultSize, f_rowLength, f_madeSize, a_wordLetters, a_wordLength, a_wordCount, a_leftOf, a_rightOf, ts_F pr, a_spelling, a_spellingLength, a_text, a_result, a_row, a_made, a_pairFrequency, a_waysFrom, a_slotsAt, a_slotKey, a_slotToken, a_slotRest) (nI p) (nI t) (nI s) := by
  have ep : (nI p).toNatClampNeg = p := nI_clamp (by omega)
  have al := hA.1
  have kb : ts_ky pr (t :: l) < 20000 := ts_ky_b hpr (by rw [List.length_cons]; omega)
  have H : ∀ c, c ≤ acc.length → (∀ j e, c ≤ j → acc[j]? = some e → ts_ky pr (t :: l) < ts_ky pr e) → wX_offerSplit_34 post (nI p) (nI t) (nI s) (nI (ts_ky pr (t :: l))) (nI (p * 6)) f_words f_tokenCount f_textLength f_resultSize f_rowLength f_madeSize a_wordLetters a_wordLength a_wordCount a_leftOf a_rightOf (ts_F pr) a_spelling a_spellingLength a_text a_result a_row a_made a_pairFrequency a_waysFrom a_slotsAt a_slotKey a_slotToken a_slotRest (c + 1) (nI c) := by
    intro c
    induction c with
    | zero =>
      intro h0 hj
      refine br_t (by decide) (tx_offer62 hp hpr hA hG hsa h0 (ts_pos acc (t :: l) 0 hA.2.1 h0 hj (fun e z => absurd z (by omega))) hs h)
    | succ c ih =>
      intro h0 hj
      obtain ⟨x, hx⟩ : ∃ x, acc[c]? = some x := ⟨acc[c]'(by omega), List.getElem?_eq_getElem (by omega)⟩
      have xm : x ∈ acc := List.mem_of_getElem? hx
      have xb : ts_ky pr x < 20000 := ts_ky_b hpr (hA.2.2 x xm)
      have e1 : nI (p * 6) + nI (c + 1) - 1 = nI (p * 6 + c) := by
        rw [nI_add]
        exact nI_pred (p * 6 + c)
      have e2 : a_slotKey (nI (p * 6) + nI (c + 1) - 1).toNatClampNeg = nI (ts_ky pr x) := by
        rw [e1, nI_clamp (by omega)]
        exact (hG c x hx).1
      refine br_f (nI_nle (by omega) (by omega)) ⟨by rw [e1]; exact ts_v (by omega), ?_⟩
      by_cases z : ts_ky pr x ≤ ts_ky pr (t :: l)
      · refine br_t (by rw [e2]; exact nI_le z (by omega)) (tx_offer62 hp hpr hA hG hsa h0 (ts_pos acc (t :: l) (c + 1) hA.2.1 h0 hj (fun e _ he => ?_)) hs h)
        rw [Nat.add_sub_cancel, hx] at he
        cases he
        exact z
      · refine br_f (by rw [e2]; exact nI_ge (by omega) (by omega)) (nm_r (pk_m1 c) (ih (by omega) (fun j e hj' he => ?_)))
        by_cases q : j = c
        · rw [q, hx] at he
          cases he
          omega
        · exact hj j e (by omega) he
  refine ⟨ts_v hs78, ts_v ht, nm_r (e' := nI (ts_ky pr (t :: l))) ?_ (nm_r (pk_mul p 6) ⟨ts_v (by omega), nm_r (e' := nI acc.length) ?_ ⟨_, H acc.length (Nat.le_refl _) (fun j e hj he => ?_)⟩⟩)⟩
  · rw [nI_clamp (by omega), nI_clamp (by omega), hk]
    show nI (ts_ky pr l) + nI (pr t) * nI 16 + 1 = _
    rw [pk_mul, nI_add, nI_1, ts_ky_cons]
  · rw [ep, hsa]
  · obtain ⟨q, _⟩ := List.getElem?_eq_some_iff.mp he
    omega
end
end
section
/-- the slots of places p and on hold the table -/
def ts_SI (pr : Nat → Nat) (K : Nat → List (List Nat)) (n p : Nat) (sa sk st sr : Nat → Int32) : Prop :=
  ∀ q, p ≤ q → q ≤ n → sa q = nI (K q).length ∧ ts_GP pr sk st sr q (K q)
theorem ts_GP_ag {pr : Nat → Nat} {sk st sr sk' st' sr' : Nat → Int32} {q : Nat} {acc : List (List Nat)} (h : ∀ j, q * 6 ≤ j → sk' j = sk j ∧ st' j = st j ∧ sr' j = sr j) (hG : ts_GP pr sk st sr q acc) : ts_GP pr sk' st' sr' q acc := by
  intro i e he
  obtain ⟨a, b⟩ := hG i e he
  exact ⟨by rw [(h _ (by omega)).1]; exact a, ts_Rd_ag e _ _ (fun j hj => (h j hj).2) b⟩
theorem ts_SI_ag {pr : Nat → Nat} {K : Nat → List (List Nat)} {n p : Nat} {sa sk st sr sa' sk' st' sr' : Nat → Int32} (h : ts_FR p sa sk st sr sa' sk' st' sr') (hS : ts_SI pr K n (p + 1) sa sk st sr) : ts_SI pr K n (p + 1) sa' sk' st' sr' := by
  intro q hq hqn
  obtain ⟨a, b⟩ := hS q hq hqn
  exact ⟨by rw [h.1 q (by omega)]; exact a, ts_GP_ag (fun j hj => h.2 j (by omega)) b⟩
section
variable {f_words f_tokenCount f_textLength f_resultSize f_rowLength f_madeSize : Int32} {a_wordLetters a_wordLength a_wordCount a_leftOf a_rightOf a_priceOf a_spelling a_spellingLength a_text a_result a_row a_made a_pairFrequency a_waysFrom a_slotsAt a_slotKey a_slotToken a_slotRest : Nat → Int32}
theorem tx_offerSplits {post : SX → Prop} {T n p t : Nat} {F : Nat → Nat → Bool} {ln pr : Nat → Nat} {K : Nat → List (List Nat)} {acc fin : List (List Nat)} (hn : n ≤ 12) (hp : p < n) (ht : t < 20) (hl1 : 1 ≤ ln t) (hlt : p + ln t ≤ n) (hpr : ∀ t, pr t ≤ 99) (hFB : ts_FB F ln T n) (hK : ts_TK F ln pr T n K)
    (hA : ts_AG pr acc) (hG : ts_GP pr a_slotKey a_slotToken a_slotRest p acc) (hsa : a_slotsAt p = nI acc.length) (hS : ts_SI pr K n (p + 1) a_slotsAt a_slotKey a_slotToken a_slotRest)
    (hfin : ((K (p + ln t)).map (fun r => t :: r)).foldl (ts_top (ts_ky pr)) acc = fin)
    (h : ∀ sa sk st sr, ts_AG pr fin → sa p = nI fin.length → ts_GP pr sk st sr p fin → ts_SI pr K n (p + 1) sa sk st sr → post (f_words, f_tokenCount, f_textLength, f_resultSize, f_rowLength, f_madeSize, a_wordLetters, a_wordLength, a_wordCount, a_leftOf, a_rightOf, ts_F pr, a_spelling, ts_F ln, a_text, a_result, a_row, a_made, a_pairFrequency, a_waysFrom, sa, sk, st, sr)) :
    wpX_offerSplits post (f_words, f_tokenCount, f_textLength, f_resultSize, f_rowLength, f_madeSize, a_wordLetters, a_wordLength, a_wordCount, a_leftOf, a_rightOf, ts_F pr, a_spelling, ts_F ln, a_text, a_result, a_row, a_made, a_pairFrequency, a_waysFrom, a_slotsAt, a_slotKey, a_slotToken, a_slotRest) (nI p) (nI t) := by
  have kg := ts_K_good hFB hK (n - (p + ln t)) (p + ln t) (by omega)
  have H : ∀ d j, j + d = (K (p + ln t)).length → ∀ acc sa sk st sr, ts_AG pr acc → ts_GP pr sk st sr p acc → sa p = nI acc.length → ts_SI pr K n (p + 1) sa sk st sr → (((K (p + ln t)).drop j).map (fun r => t :: r)).foldl (ts_top (ts_ky pr)) acc = fin →
      wX_offerSplits_20 post (nI p) (nI t) (nI (p + ln t)) (nI (K (p + ln t)).length) (d + 1) (nI j) f_words f_tokenCount f_textLength f_resultSize f_rowLength f_madeSize a_wordLetters a_wordLength a_wordCount a_leftOf a_rightOf (ts_F pr) a_spelling (ts_F ln) a_text a_result a_row a_made a_pairFrequency a_waysFrom sa sk st sr := by
    intro d
    induction d with
    | zero =>
      intro j hj acc sa sk st sr a1 a2 a3 a4 a5
      rw [List.drop_eq_nil_of_le (by omega)] at a5
      have a5' : acc = fin := a5
      subst a5'
      exact br_t (nI_le (by omega) (by omega)) (h _ _ _ _ a1 a3 a2 a4)
    | succ d ih =>
      intro j hj acc sa sk st sr a1 a2 a3 a4 a5
      have hjl : j < (K (p + ln t)).length := by omega
      obtain ⟨x, hx⟩ : ∃ x, (K (p + ln t))[j]? = some x := ⟨_, List.getElem?_eq_getElem hjl⟩
      have xg := kg.2.2 x (List.mem_of_getElem? hx)
      obtain ⟨s1, s2⟩ := a4 (p + ln t) (by omega) hlt
      obtain ⟨s3, s4⟩ := s2 j x hx
      have e1 : nI (p + ln t) * 6 + nI j = nI ((p + ln t) * 6 + j) := ts_ma 6 _ _
      have ed : (K (p + ln t)).drop j = x :: (K (p + ln t)).drop (j + 1) := by
        obtain ⟨q1, q2⟩ := List.getElem?_eq_some_iff.mp hx
        rw [List.drop_eq_getElem_cons q1, q2]
      rw [ed, List.map_cons, List.foldl_cons] at a5
      refine br_f (nI_ge (by omega) (by omega)) ?_
      rw [e1]
      refine tx_offerSplit (acc := acc) (l := x) (by omega) ht (by omega) (by omega) hpr a1 a2 a3 s3 (ts_Rd_lo x (by omega) s4) (fun sa' sk' st' sr' b1 b2 b3 => ?_)
      exact nm_r (nI_1 j) (ih (j + 1) (by omega) _ _ _ _ _ (ts_AG_top a1 (by rw [List.length_cons]; omega)) b3 b1 (ts_SI_ag b2 a4) a5)
  obtain ⟨s1, s2⟩ := hS (p + ln t) (by omega) hlt
  refine ⟨ts_v ht, nm_r (e' := nI (p + ln t)) ?_ ⟨ts_v (by omega), nm_r (e' := nI (K (p + ln t)).length) ?_ ⟨_, H (K (p + ln t)).length 0 (by omega) acc _ _ _ _ hA hG hsa hS hfin⟩⟩⟩
  · rw [nI_clamp (by omega)]
    exact nI_add p (ln t)
  · rw [nI_clamp (by omega), s1]
theorem tx_rankSplits {post : SX → Prop} {T n : Nat} {bx : Int32} {ln SP r pr : Nat → Nat} {K : Nat → List (List Nat)} (hE : ts_En T ln (fun t i => SP (t * 8 + i))) (hn : n ≤ 12) (hSP : ∀ j, SP j < 6) (hr : ∀ i, r i < 6) (hrow : ∀ i, i < n → a_row i = nI (r i)) (hpr : ∀ t, pr t ≤ 99)
    (hK : ts_TK (ts_fit bx ln (fun t i => SP (t * 8 + i)) r n) ln pr T n K)
    (h : ∀ sa sk st sr, ts_SI pr K n 0 sa sk st sr → post (f_words, nI T, f_textLength, f_resultSize, nI n, f_madeSize, a_wordLetters, a_wordLength, a_wordCount, a_leftOf, a_rightOf, ts_F pr, ts_F SP, ts_F ln, a_text, a_result, a_row, a_made, a_pairFrequency, a_waysFrom, sa, sk, st, sr)) :
    wpX_rankSplits post (f_words, nI T, f_textLength, f_resultSize, nI n, f_madeSize, a_wordLetters, a_wordLength, a_wordCount, a_leftOf, a_rightOf, ts_F pr, ts_F SP, ts_F ln, a_text, a_result, a_row, a_made, a_pairFrequency, a_waysFrom, a_slotsAt, a_slotKey, a_slotToken, a_slotRest) bx := by
  obtain ⟨h6, hT, hl1, hl8, hlet⟩ := id hE
  have hFB : ts_FB (ts_fit bx ln (fun t i => SP (t * 8 + i)) r n) ln T n := ts_En_FB hE
  have H2 : ∀ (J : tx_TJ2) (p : Nat), p < n →
      (∀ sa sk st sr, ts_SI pr K n p sa sk st sr → J (nI p + (-1)) f_words (nI T) f_textLength f_resultSize (nI n) f_madeSize a_wordLetters a_wordLength a_wordCount a_leftOf a_rightOf (ts_F pr) (ts_F SP) (ts_F ln) a_text a_result a_row a_made a_pairFrequency a_waysFrom sa sk st sr) →
      ∀ d t, t + d = T → ∀ acc sa sk st sr, ts_AG pr acc → ts_GP pr sk st sr p acc → sa p = nI acc.length → ts_SI pr K n (p + 1) sa sk st sr → (ts_of (ts_fit bx ln (fun t i => SP (t * 8 + i)) r n) ln K p t d).foldl (ts_top (ts_ky pr)) acc = K p →
      wX_rankSplits_43 post J bx (nI p) (d + 1) (nI t) f_words (nI T) f_textLength f_resultSize (nI n) f_madeSize a_wordLetters a_wordLength a_wordCount a_leftOf a_rightOf (ts_F pr) (ts_F SP) (ts_F ln) a_text a_result a_row a_made a_pairFrequency a_waysFrom sa sk st sr := by
    intro J p hp hJ d
    induction d with
    | zero =>
      intro t ht acc sa sk st sr a1 a2 a3 a4 a5
      have a5' : acc = K p := a5
      subst a5'
      refine br_t (nI_le (by omega) (by omega)) (nm_e (hJ _ _ _ _ (fun q hq hqn => ?_)))
      by_cases z : q = p
      · rw [z]; exact ⟨a3, a2⟩
      · exact a4 q (by omega) hqn
    | succ d ih =>
      intro t ht acc sa sk st sr a1 a2 a3 a4 a5
      have a5' : ((if ts_fit bx ln (fun t i => SP (t * 8 + i)) r n t p = true then (K (p + ln t)).map (fun r => t :: r) else []) ++ ts_of (ts_fit bx ln (fun t i => SP (t * 8 + i)) r n) ln K p (t + 1) d).foldl (ts_top (ts_ky pr)) acc = K p := a5
      rw [List.foldl_append] at a5'
      refine br_f (nI_ge (by omega) (by omega)) ?_
      by_cases b : nI t = bx
      · rw [if_neg (fun z => (ts_fit_t.mp z).1 b)] at a5'
        exact br_t b (nm_r (nI_1 t) (ih (t + 1) (by omega) acc _ _ _ _ a1 a2 a3 a4 a5'))
      · refine br_f b (tx_fits (by omega) hn (by omega) hl8 hSP hr hrow b (fun z => ?_) (fun z => ?_))
        · rw [if_pos z] at a5'
          have ⟨b1, b2⟩ := hFB t p (by omega) z
          refine br_f (by decide) (tx_offerSplits hn hp (by omega) b1 b2 hpr hFB hK a1 a2 a3 a4 rfl (fun sa' sk' st' sr' c1 c2 c3 c4 => ?_))
          exact nm_r (nI_1 t) (ih (t + 1) (by omega) _ _ _ _ _ c1 c3 c2 c4 a5')
        · rw [if_neg z] at a5'
          exact br_t rfl (nm_r (nI_1 t) (ih (t + 1) (by omega) acc _ _ _ _ a1 a2 a3 a4 a5'))
  have H : ∀ p, p ≤ n → ∀ sa sk st sr, ts_SI pr K n p sa sk st sr → wX_rankSplits_30 post bx (p + 1) (nI p + (-1)) f_words (nI T) f_textLength f_resultSize (nI n) f_madeSize a_wordLetters a_wordLength a_wordCount a_leftOf a_rightOf (ts_F pr) (ts_F SP) (ts_F ln) a_text a_result a_row a_made a_pairFrequency a_waysFrom sa sk st sr := by
    intro p
    induction p with
    | zero => exact fun _ sa sk st sr hS => br_t (by decide) (h _ _ _ _ hS)
    | succ p ih =>
      intro hp sa sk st sr hS
      rw [pk_m1]
      refine br_f (ts_nn (by omega)) ⟨ts_v (by omega), nm_r (e' := upd sa p (nI 0)) (by rw [nI_clamp (by omega)]; rfl) ⟨_, H2 _ p (by omega) (fun sa' sk' st' sr' hS' => ih (by omega) _ _ _ _ hS') T 0 (by omega) [] _ _ _ _ ⟨Nat.zero_le 6, List.Pairwise.nil, fun e he => absurd he (List.not_mem_nil)⟩ (fun i e he => by rw [List.getElem?_nil] at he; cases he) pk_us (ts_SI_ag ⟨fun q hq => pk_un hq, fun _ _ => ⟨rfl, rfl, rfl⟩⟩ hS) (hK.2 p (by omega)).symm⟩⟩
  have e6 : nI n * 6 = nI (n * 6) := pk_mul n 6
  refine ⟨ts_v (by omega), nm_r (e' := upd a_slotsAt n (nI 1)) (by rw [nI_clamp (by omega)]; rfl) ⟨by rw [e6]; exact ts_v (by omega), nm_r (e' := upd a_slotKey (n * 6) (nI 0)) (by rw [e6, nI_clamp (by omega)]; rfl) (nm_r (e' := nI n + (-1)) (Int32.sub_eq_add_neg _ _) ⟨_, H n (Nat.le_refl n) _ _ _ _ (fun q hq hqn => ?_)⟩)⟩⟩
  have eq : q = n := by omega
  subst eq
  rw [pk_us, hK.1]
  refine ⟨rfl, fun i e he => ?_⟩
  cases i with
  | zero =>
    cases he
    exact ⟨pk_us, True.intro⟩
  | succ i =>
    rw [List.getElem?_cons_succ, List.getElem?_nil] at he
    cases he
theorem tx_readSplit {post : SX → Prop} {k : Nat} {pr : Nat → Nat} {e : List Nat} (hk : k < 78) (he : e.length ≤ 12) (hpr : ∀ t, pr t ≤ 99) (h1 : a_slotKey k = nI (ts_ky pr e)) (h2 : ts_Rd a_slotToken a_slotRest e 0 k)
    (h : ∀ a, ts_Hd a e → post (f_words, f_tokenCount, f_textLength, f_resultSize, f_rowLength, nI e.length, a_wordLetters, a_wordLength, a_wordCount, a_leftOf, a_rightOf, a_priceOf, a_spelling, a_spellingLength, a_text, a_result, a_row, a, a_pairFrequency, a_waysFrom, a_slotsAt, a_slotKey, a_slotToken, a_slotRest)) : wpX_readSplit post (f_words, f_tokenCount, f_textLength, f_resultSize, f_rowLength, f_madeSize, a_wordLetters, a_wordLength, a_wordCount, a_leftOf, a_rightOf, a_priceOf, a_spelling, a_spellingLength, a_text, a_result, a_row, a_made, a_pairFrequency, a_waysFrom, a_slotsAt, a_slotKey, a_slotToken, a_slotRest) (nI k) := by
  have ck : (nI k).toNatClampNeg = k := nI_clamp (by omega)
  have kb := ts_ky_b hpr he
  have em : ts_ky pr e % 16 = e.length := by unfold ts_ky; omega
  have H : ∀ d i, i + d = e.length → ∀ a s lo, ts_Hd a (e.take i) → ts_Rd a_slotToken a_slotRest (e.drop i) lo s → wX_readSplit_17 post f_words f_tokenCount f_textLength f_resultSize f_rowLength (nI e.length) (d + 1) (nI s) (nI i) a_wordLetters a_wordLength a_wordCount a_leftOf a_rightOf a_priceOf a_spelling a_spellingLength a_text a_result a_row a a_pairFrequency a_waysFrom a_slotsAt a_slotKey a_slotToken a_slotRest := by
    intro d
    induction d with
    | zero =>
      intro i hi a s lo ha hs
      have z : i = e.length := by omega
      rw [z, List.take_length] at ha
      exact br_t (nI_le (by omega) (by omega)) (h a ha)
    | succ d ih =>
      intro i hi a s lo ha hs
      obtain ⟨t, ht⟩ := ts_get (l := e) (i := i) (by omega)
      rw [ts_drop ht] at hs
      obtain ⟨r1, r2, r3, s', r4, r5⟩ := hs
      have cs : (nI s).toNatClampNeg = s := nI_clamp (by omega)
      refine br_f (nI_ge (by omega) (by omega)) ⟨ts_v r2, ts_v (by omega), nm_r (e' := upd a i (nI t)) ?_ ⟨ts_v r2, nm_r (e' := nI s') ?_ (nm_r (nI_1 i) (ih (i + 1) (by omega) _ s' _ ?_ r5))⟩⟩
      · rw [cs, nI_clamp (by omega), r3]
      · rw [cs, r4]
      · have := ts_Hd_snoc (e := t) ha
        rw [List.length_take, show min i e.length = i by omega] at this
        rw [List.take_succ, ht]
        exact this
  refine ⟨ts_v hk, by decide, nm_r (e' := nI e.length) ?_ ⟨_, H e.length 0 (by omega) a_made k 0 (ts_Hd_nil _) h2⟩⟩
  rw [ck, h1]
  have := pk_rem (a := ts_ky pr e) (d := 16) (by omega) (by decide) (by decide)
  rw [em] at this
  exact this
end
end
section
section
variable {f_words f_tokens f_textSize f_resultSize f_rowSize f_barred f_made f_kept : Int32} {a_counts a_sizes a_spelled a_lefts a_rights a_prices a_lengths a_letters a_text a_result a_row a_parts a_sums a_numbers a_splits a_tried a_begins : Nat → Int32}
theorem ty_takeText {post : SY → Prop} {tl : Nat} (htl : tl ≤ 12) (h : post (f_words, f_tokens, nI tl, f_resultSize, nI tl, f_barred, f_made, f_kept, a_counts, a_sizes, a_spelled, a_lefts, a_rights, a_prices, a_lengths, a_letters, a_text, a_result, ts_cp a_row a_text tl, a_parts, a_sums, a_numbers, a_splits, a_tried, a_begins)) : wpY_takeText post (f_words, f_tokens, nI tl, f_resultSize, f_rowSize, f_barred, f_made, f_kept, a_counts, a_sizes, a_spelled, a_lefts, a_rights, a_prices, a_lengths, a_letters, a_text, a_result, a_row, a_parts, a_sums, a_numbers, a_splits, a_tried, a_begins) := by
  have H : ∀ d i, i + d = tl → wY_takeText_10 post f_words f_tokens (nI tl) f_resultSize (nI tl) f_barred f_made f_kept (d + 1) (nI i) a_counts a_sizes a_spelled a_lefts a_rights a_prices a_lengths a_letters a_text a_result (ts_cp a_row a_text i) a_parts a_sums a_numbers a_splits a_tried a_begins := by
    intro d
    induction d with
    | zero =>
      intro i hi
      have e : i = tl := by omega
      subst e
      exact br_t (nI_le (Nat.le_refl i) (by omega)) h
    | succ d ih =>
      intro i hi
      refine br_f (nI_ge (by omega) (by omega)) ⟨ts_v (by omega), ts_v (by omega), nm_r (e' := ts_cp a_row a_text (i + 1)) ?_ (nm_r (nI_1 i) (ih (i + 1) (by omega)))⟩
      rw [nI_clamp (by omega)]
      exact ts_cp_s _ _ _
  have := H tl 0 (by omega)
  rw [ts_cp_0] at this
  exact ⟨_, this⟩
theorem ty_takeWord {post : SY → Prop} {w m : Nat} (hw : w < 12) (hm : m ≤ 8) (e : a_sizes w = nI m) (h : post (f_words, f_tokens, f_textSize, f_resultSize, nI m, f_barred, f_made, f_kept, a_counts, a_sizes, a_spelled, a_lefts, a_rights, a_prices, a_lengths, a_letters, a_text, a_result, ts_cp a_row (fun i => a_spelled (w * 8 + i)) m, a_parts, a_sums, a_numbers, a_splits, a_tried, a_begins)) : wpY_takeWord post (f_words, f_tokens, f_textSize, f_resultSize, f_rowSize, f_barred, f_made, f_kept, a_counts, a_sizes, a_spelled, a_lefts, a_rights, a_prices, a_lengths, a_letters, a_text, a_result, a_row, a_parts, a_sums, a_numbers, a_splits, a_tried, a_begins) (nI w) := by
  have hc : (nI w).toNatClampNeg = w := nI_clamp (by omega)
  have H : ∀ d i, i + d = m → wY_takeWord_12 post (nI w) f_words f_tokens f_textSize f_resultSize (nI m) f_barred f_made f_kept (d + 1) (nI i) a_counts a_sizes a_spelled a_lefts a_rights a_prices a_lengths a_letters a_text a_result (ts_cp a_row (fun i => a_spelled (w * 8 + i)) i) a_parts a_sums a_numbers a_splits a_tried a_begins := by
    intro d
    induction d with
    | zero =>
      intro i hi
      have e2 : i = m := by omega
      subst e2
      exact br_t (nI_le (Nat.le_refl i) (by omega)) h
    | succ d ih =>
      intro i hi
      have e3 : 8 * nI w + nI i = nI (w * 8 + i) := by
        have := ts_mb 8 w i
        rw [Nat.mul_comm 8 w] at this
        exact this
      refine br_f (nI_ge (by omega) (by omega)) ⟨?_, ts_v (by omega), nm_r (e' := ts_cp a_row (fun i => a_spelled (w * 8 + i)) (i + 1)) ?_ (nm_r (nI_1 i) (ih (i + 1) (by omega)))⟩
      · rw [e3]; exact ts_v (by omega)
      · rw [e3, nI_clamp (by omega), nI_clamp (by omega)]
        exact ts_cp_s _ (fun i => a_spelled (w * 8 + i)) _
  have := H m 0 (by omega)
  rw [ts_cp_0] at this
  exact ⟨ts_v hw, nm_r (by rw [hc, e]) ⟨_, this⟩⟩
def ty_TJ : Type := Int32 → Int32 → (Nat → Int32) → (Nat → Int32) → (Nat → Int32) → (Nat → Int32) → (Nat → Int32) → (Nat → Int32) → (Nat → Int32) → (Nat → Int32) → (Nat → Int32) → (Nat → Int32) → (Nat → Int32) → (Nat → Int32) → (Nat → Int32) → (Nat → Int32) → (Nat → Int32) → (Nat → Int32) → (Nat → Int32) → Prop
theorem ty_mp0 {post : SY → Prop} {J J2 : ty_TJ} {x1 : Int32} {q i : Nat} {z : Int32} (hq : q < 12) (hi : i < 12) (ez : a_parts i = z) (h : J2 (nI (q + 1)) (nI (i + 1)) a_counts a_sizes a_spelled a_lefts a_rights a_prices a_lengths a_letters a_text a_result a_row (upd a_parts q z) a_sums a_numbers a_splits a_tried a_begins) : wY_merge_105 post J J2 x1 (nI q) (nI i) f_words f_tokens f_textSize f_resultSize f_rowSize f_barred f_made f_kept a_counts a_sizes a_spelled a_lefts a_rights a_prices a_lengths a_letters a_text a_result a_row a_parts a_sums a_numbers a_splits a_tried a_begins := by
  subst ez
  have e1 : upd a_parts (nI q).toNatClampNeg (a_parts (nI i).toNatClampNeg) = upd a_parts q (a_parts i) := by
    rw [nI_clamp (by omega), nI_clamp (by omega)]
  exact br_t rfl ⟨ts_v hi, ts_v hq, nm_r e1 (nm_r (nI_1 q) (br_t rfl (nm_r (nI_1 i) h)))⟩
theorem ty_mp1 {post : SY → Prop} {J J2 : ty_TJ} {x1 : Int32} {q i : Nat} (hq : q < 12) (hi : i < 12) (h : J2 (nI (q + 1)) (nI (i + 2)) a_counts a_sizes a_spelled a_lefts a_rights a_prices a_lengths a_letters a_text a_result a_row (upd a_parts q x1) a_sums a_numbers a_splits a_tried a_begins) : wY_merge_106 post J J2 x1 (nI q) (nI i) 1 f_words f_tokens f_textSize f_resultSize f_rowSize f_barred f_made f_kept a_counts a_sizes a_spelled a_lefts a_rights a_prices a_lengths a_letters a_text a_result a_row a_parts a_sums a_numbers a_splits a_tried a_begins := by
  have e1 : upd a_parts (nI q).toNatClampNeg x1 = upd a_parts q x1 := by
    rw [nI_clamp (by omega)]
  have n10 : ¬ (1 : Int32) = 0 := by decide
  exact br_f n10 ⟨ts_v hq, nm_r e1 (nm_r (nI_1 q) (br_f n10 (nm_r (nI_add i 2) h)))⟩
theorem ty_merge51 {post : SY → Prop} {J : ty_TJ} {t : Nat} {lf rg : Nat → Nat} {L : List Nat} (ht : t < 20) (hL : L.length ≤ 12) (hLe : ∀ e ∈ L, e < 20) (hlf : lf t < 20) (hrg : rg t < 20) (h0 : ts_Hd a_parts L)
    (h : ∀ a, ts_Hd a (ts_mg (lf t) (rg t) t L) → J (nI (t + 1)) (nI (ts_mg (lf t) (rg t) t L).length) a_counts a_sizes a_spelled (ts_F lf) (ts_F rg) a_prices a_lengths a_letters a_text a_result a_row a a_sums a_numbers a_splits a_tried a_begins) :
    ∃ n, wY_merge_51 post J (nI t) f_words f_tokens f_textSize f_resultSize f_rowSize f_barred (nI L.length) f_kept n 0 0 a_counts a_sizes a_spelled (ts_F lf) (ts_F rg) a_prices a_lengths a_letters a_text a_result a_row a_parts a_sums a_numbers a_splits a_tried a_begins := by
  have hct : (nI t).toNatClampNeg = t := nI_clamp (by omega)
  have H : ∀ d i, i + d = L.length → ∀ fuel, d < fuel → ∀ (a : Nat → Int32) (out : List Nat), out.length ≤ i → ts_Hd a out → (∀ j e, i ≤ j → L[j]? = some e → a j = nI e) → out ++ ts_mg (lf t) (rg t) t (L.drop i) = ts_mg (lf t) (rg t) t L →
      wY_merge_51 post J (nI t) f_words f_tokens f_textSize f_resultSize f_rowSize f_barred (nI L.length) f_kept fuel (nI out.length) (nI i) a_counts a_sizes a_spelled (ts_F lf) (ts_F rg) a_prices a_lengths a_letters a_text a_result a_row a a_sums a_numbers a_splits a_tried a_begins := by
    intro d
    induction d using Nat.strongRecOn with
    | ind d ih =>
      intro i hi fuel hf a out ho ha hr hfin
      obtain ⟨fuel, rfl⟩ : ∃ g, fuel = g + 1 := ⟨fuel - 1, by omega⟩
      by_cases z : i = L.length
      · have e1 : ts_mg (lf t) (rg t) t (L.drop i) = [] := by rw [List.drop_eq_nil_of_le (by omega)]; simp only [ts_mg]
        rw [e1, List.append_nil] at hfin
        refine br_t (nI_le (by omega) (by omega)) (nm_r (nI_1 t) ?_)
        rw [hfin]
        exact h a (by rw [← hfin]; exact ha)
      · refine br_f (nI_ge (by omega) (by omega)) ?_
        obtain ⟨x, hx⟩ := ts_get (l := L) (i := i) (by omega)
        have hxl : x < 20 := hLe x (List.mem_of_getElem? hx)
        have hax : a i = nI x := hr i x (Nat.le_refl i) hx
        have hci : (nI i).toNatClampNeg = i := nI_clamp (by omega)
        have e1 : nI i + 1 = nI (i + 1) := nI_1 i
        have hns : ts_mg (lf t) (rg t) t (L.drop i) = x :: ts_mg (lf t) (rg t) t (L.drop (i + 1)) → wY_merge_105 post J (wY_merge_51 post J (nI t) f_words f_tokens f_textSize f_resultSize f_rowSize f_barred (nI L.length) f_kept fuel) (nI t) (nI out.length) (nI i) f_words f_tokens f_textSize f_resultSize f_rowSize f_barred (nI L.length) f_kept a_counts a_sizes a_spelled (ts_F lf) (ts_F rg) a_prices a_lengths a_letters a_text a_result a_row a a_sums a_numbers a_splits a_tried a_begins := by
          intro hm
          refine ty_mp0 (by omega) (by omega) hax ?_
          have := ih (d - 1) (by omega) (i + 1) (by omega) fuel (by omega) (upd a out.length (nI x)) (out ++ [x]) (by rw [List.length_append]; simp only [List.length_cons, List.length_nil]; omega) (ts_Hd_snoc ha) (fun j e hj he => by rw [pk_un (by omega)]; exact hr j e (by omega) he) (by rw [List.append_assoc, ← hfin, hm]; rfl)
          rw [List.length_append] at this
          exact this
        by_cases z2 : i + 1 = L.length
        · refine br_t ?_ (hns ?_)
          · rw [e1]; exact nI_le (by omega) (by omega)
          · rw [ts_drop hx, List.drop_eq_nil_of_le (by omega)]; simp only [ts_mg]
        · obtain ⟨y, hy⟩ := ts_get (l := L) (i := i + 1) (by omega)
          have hyl : y < 20 := hLe y (List.mem_of_getElem? hy)
          have hay : a (i + 1) = nI y := hr (i + 1) y (by omega) hy
          have hci1 : (nI i + 1).toNatClampNeg = i + 1 := by rw [e1]; exact nI_clamp (by omega)
          have hv1 : vp_in (nI i + 1) 12 := by rw [e1]; exact ts_v (by omega)
          refine br_f (by rw [e1]; exact nI_ge (by omega) (by omega)) ⟨ts_v (by omega), ts_v ht, ?_⟩
          by_cases c1 : x = lf t
          · refine br_t (by rw [hci, hct, hax, c1]; rfl) ⟨hv1, ts_v ht, ?_⟩
            by_cases c2 : y = rg t
            · refine br_t (by rw [hci1, hct, hay, c2]; rfl) ?_
              refine ty_mp1 (by omega) (by omega) ?_
              have := ih (d - 2) (by omega) (i + 2) (by omega) fuel (by omega) (upd a out.length (nI t)) (out ++ [t]) (by rw [List.length_append]; simp only [List.length_cons, List.length_nil]; omega) (ts_Hd_snoc ha) (fun j e hj he => by rw [pk_un (by omega)]; exact hr j e (by omega) he) (by
                  rw [List.append_assoc, ← hfin, ts_drop hx, ts_drop hy]
                  simp only [ts_mg]
                  rw [if_pos ⟨c1, c2⟩]
                  rfl)
              rw [List.length_append] at this
              exact this
            · refine br_f (fun z => ?_) (hns ?_)
              · rw [hci1, hct, hay] at z
                exact c2 ((nI_eq (by omega) (by omega)).mp z)
              · rw [ts_drop hx, ts_drop hy]
                simp only [ts_mg]
                rw [if_neg (fun q => c2 q.2)]
          · refine br_f (fun z => ?_) (hns ?_)
            · rw [hci, hct, hax] at z
              exact c1 ((nI_eq (by omega) (by omega)).mp z)
            · rw [ts_drop hx, ts_drop hy]
              simp only [ts_mg]
              rw [if_neg (fun q => c1 q.1)]
  exact ⟨L.length + 1, H L.length 0 (by omega) _ (by omega) a_parts [] (Nat.le_refl 0) (ts_Hd_nil _) (fun j e _ he => h0 j e he) rfl⟩
theorem ty_merge39 {post : SY → Prop} {T : Nat} {lf rg : Nat → Nat} {l0 : List Nat} (hT : T ≤ 20) (hl0 : l0.length ≤ 12) (he0 : ∀ e ∈ l0, e < 6) (hlf : ∀ t, lf t < 20) (hrg : ∀ t, rg t < 20)
    (h : ∀ a, ts_Hd a (ts_mi lf rg l0 (T - 6)) → post (f_words, nI T, f_textSize, f_resultSize, f_rowSize, f_barred, nI (ts_mi lf rg l0 (T - 6)).length, f_kept, a_counts, a_sizes, a_spelled, ts_F lf, ts_F rg, a_prices, a_lengths, a_letters, a_text, a_result, a_row, a, a_sums, a_numbers, a_splits, a_tried, a_begins)) :
    ∀ d k, 6 + k + d = T → ∀ a, ts_Hd a (ts_mi lf rg l0 k) → wY_merge_39 post f_words (nI T) f_textSize f_resultSize f_rowSize f_barred f_kept (d + 1) (nI (6 + k)) (nI (ts_mi lf rg l0 k).length) a_counts a_sizes a_spelled (ts_F lf) (ts_F rg) a_prices a_lengths a_letters a_text a_result a_row a a_sums a_numbers a_splits a_tried a_begins := by
  intro d
  induction d with
  | zero =>
    intro k hk a ha
    have e : k = T - 6 := by omega
    subst e
    exact br_t (nI_le (by omega) (by omega)) (h a ha)
  | succ d ih =>
    intro k hk a ha
    refine br_f (nI_ge (by omega) (by omega)) ?_
    refine ty_merge51 (by omega) (Nat.le_trans (ts_mi_len lf rg l0 k) hl0) (fun e he => ?_) (hlf _) (hrg _) ha ?_
    · have := ts_mi_lt lf rg l0 he0 k e he
      omega
    · intro a' ha'
      exact ih (k + 1) (by omega) a' ha'
theorem ty_merge {post : SY → Prop} {T n : Nat} {lf rg r : Nat → Nat} (hT6 : 6 ≤ T) (hT : T ≤ 20) (hn : n ≤ 12) (hr : ∀ i, r i < 6) (hrow : ∀ i, i < n → a_row i = nI (r i)) (hlf : ∀ t, lf t < 20) (hrg : ∀ t, rg t < 20)
    (h : ∀ a, ts_Hd a (ts_mi lf rg (ts_rw r n) (T - 6)) → post (f_words, nI T, f_textSize, f_resultSize, nI n, f_barred, nI (ts_mi lf rg (ts_rw r n) (T - 6)).length, f_kept, a_counts, a_sizes, a_spelled, ts_F lf, ts_F rg, a_prices, a_lengths, a_letters, a_text, a_result, a_row, a, a_sums, a_numbers, a_splits, a_tried, a_begins)) :
    wpY_merge post (f_words, nI T, f_textSize, f_resultSize, nI n, f_barred, f_made, f_kept, a_counts, a_sizes, a_spelled, ts_F lf, ts_F rg, a_prices, a_lengths, a_letters, a_text, a_result, a_row, a_parts, a_sums, a_numbers, a_splits, a_tried, a_begins) := by
  have H : ∀ d i, i + d = n → wY_merge_10 post f_words (nI T) f_textSize f_resultSize (nI n) f_barred (nI n) f_kept (d + 1) (nI i) a_counts a_sizes a_spelled (ts_F lf) (ts_F rg) a_prices a_lengths a_letters a_text a_result a_row (ts_cp a_parts a_row i) a_sums a_numbers a_splits a_tried a_begins := by
    intro d
    induction d with
    | zero =>
      intro i hi
      have e : i = n := by omega
      subst e
      refine br_t (nI_le (Nat.le_refl i) (by omega)) ?_
      have hd : ts_Hd (ts_cp a_parts a_row i) (ts_mi lf rg (ts_rw r i) 0) := by
        intro j e he
        rw [show ts_mi lf rg (ts_rw r i) 0 = ts_rw r i from rfl, ts_rw_get] at he
        by_cases z : j < i
        · rw [if_pos z] at he
          cases he
          rw [ts_cp_lt z]
          exact hrow j z
        · rw [if_neg z] at he
          cases he
      have := ty_merge39 (post := post) (T := T) (lf := lf) (rg := rg) (l0 := ts_rw r i) hT (by rw [ts_rw_len]; exact hn) (fun e he => by obtain ⟨q, _, rfl⟩ := ts_rw_mem he; exact hr q) hlf hrg h (T - 6) 0 (by omega) _ hd
      rw [show (ts_mi lf rg (ts_rw r i) 0).length = i from ts_rw_len r i] at this
      exact ⟨_, this⟩
    | succ d ih =>
      intro i hi
      refine br_f (nI_ge (by omega) (by omega)) ⟨ts_v (by omega), ts_v (by omega), nm_r (e' := ts_cp a_parts a_row (i + 1)) ?_ (nm_r (nI_1 i) (ih (i + 1) (by omega)))⟩
      rw [nI_clamp (by omega)]
      exact ts_cp_s _ _ _
  have := H n 0 (by omega)
  rw [ts_cp_0] at this
  exact ⟨_, this⟩
def ty_TJ2 : Type := Int32 → Int32 → Int32 → Int32 → Int32 → Int32 → Int32 → Int32 → Int32 → Int32 → (Nat → Int32) → (Nat → Int32) → (Nat → Int32) → (Nat → Int32) → (Nat → Int32) → (Nat → Int32) → (Nat → Int32) → (Nat → Int32) → (Nat → Int32) → (Nat → Int32) → (Nat → Int32) → (Nat → Int32) → (Nat → Int32) → (Nat → Int32) → (Nat → Int32) → (Nat → Int32) → (Nat → Int32) → Prop
theorem ty_fq27 {post : Int32 → SY → Prop} {J : ty_TJ2} {w x y : Nat} {s : Int32} {L : List Nat} (hw : w < 12) (hx : x < 20) (hy : y < 20) (hL : L.length ≤ 12) (hLe : ∀ e ∈ L, e < 20) (h0 : ts_Hd a_parts L)
    (h : J (s + ts_am (a_counts w) L x y (L.length - 1)) (nI (w + 1)) f_words f_tokens f_textSize f_resultSize f_rowSize f_barred (nI L.length) f_kept a_counts a_sizes a_spelled a_lefts a_rights a_prices a_lengths a_letters a_text a_result a_row a_parts a_sums a_numbers a_splits a_tried a_begins) :
    ∃ n, wY_frequencyOf_27 post J (nI x) (nI y) (nI w) f_words f_tokens f_textSize f_resultSize f_rowSize f_barred (nI L.length) f_kept a_counts a_sizes a_spelled a_lefts a_rights a_prices a_lengths a_letters a_text a_result a_row a_parts a_sums a_numbers a_splits a_tried a_begins n s 0 := by
  have hcw : (nI w).toNatClampNeg = w := nI_clamp (by omega)
  have H : ∀ d i, i + 1 + d = max L.length 1 → wY_frequencyOf_27 post J (nI x) (nI y) (nI w) f_words f_tokens f_textSize f_resultSize f_rowSize f_barred (nI L.length) f_kept a_counts a_sizes a_spelled a_lefts a_rights a_prices a_lengths a_letters a_text a_result a_row a_parts a_sums a_numbers a_splits a_tried a_begins (d + 1) (s + ts_am (a_counts w) L x y i) (nI i) := by
    intro d
    induction d with
    | zero =>
      intro i hi
      rw [show L.length - 1 = i by omega] at h
      exact br_t (by rw [nI_1]; exact nI_le (by omega) (by omega)) (nm_r (nI_1 w) h)
    | succ d ih =>
      intro i hi
      obtain ⟨a, ha⟩ := ts_get (l := L) (i := i) (by omega)
      obtain ⟨b, hb⟩ := ts_get (l := L) (i := i + 1) (by omega)
      have hal : a < 20 := hLe a (List.mem_of_getElem? ha)
      have hbl : b < 20 := hLe b (List.mem_of_getElem? hb)
      have e0 : nI i + 1 = nI (i + 1) := nI_1 i
      have e1 : a_parts (nI i).toNatClampNeg = nI a := by rw [nI_clamp (by omega)]; exact h0 i a ha
      have e2 : a_parts (nI i + 1).toNatClampNeg = nI b := by rw [e0, nI_clamp (by omega)]; exact h0 (i + 1) b hb
      have ih' := ih (i + 1) (by omega)
      have ih2 : wY_frequencyOf_27 post J (nI x) (nI y) (nI w) f_words f_tokens f_textSize f_resultSize f_rowSize f_barred (nI L.length) f_kept a_counts a_sizes a_spelled a_lefts a_rights a_prices a_lengths a_letters a_text a_result a_row a_parts a_sums a_numbers a_splits a_tried a_begins (d + 1) (s + (ts_am (a_counts w) L x y i + (if L[i]? = some x ∧ L[i + 1]? = some y then a_counts w else 0))) (nI (i + 1)) := ih'
      refine br_f (by rw [e0]; exact nI_ge (by omega) (by omega)) ⟨ts_v (by omega), ?_⟩
      by_cases c1 : a = x
      · refine br_t (by rw [e1, c1]) ⟨by rw [e0]; exact ts_v (by omega), ?_⟩
        by_cases c2 : b = y
        · refine br_t (by rw [e2, c2]) ⟨ts_v hw, nm_r (e' := s + (ts_am (a_counts w) L x y i + a_counts w)) ?_ (nm_r e0 ?_)⟩
          · rw [hcw, Int32.add_assoc]
          · rw [if_pos ⟨by rw [ha, c1], by rw [hb, c2]⟩] at ih2
            exact ih2
        · refine br_f (fun z => ?_) (nm_r e0 ?_)
          · rw [e2] at z
            exact c2 ((nI_eq (by omega) (by omega)).mp z)
          · rw [if_neg (fun z => by rw [hb] at z; exact c2 (Option.some.inj z.2)), Int32.add_zero] at ih2
            exact ih2
      · refine br_f (fun z => ?_) (nm_r e0 ?_)
        · rw [e1] at z
          exact c1 ((nI_eq (by omega) (by omega)).mp z)
        · rw [if_neg (fun z => by rw [ha] at z; exact c1 (Option.some.inj z.1)), Int32.add_zero] at ih2
          exact ih2
  have := H (max L.length 1 - 1) 0 (by omega)
  rw [show ts_am (a_counts w) L x y 0 = 0 from rfl, Int32.add_zero] at this
  exact ⟨_, this⟩
theorem ty_freq {post : Int32 → SY → Prop} {W T x y : Nat} {lf rg WL WS : Nat → Nat} (hx : x < 20) (hy : y < 20) (hW : W ≤ 12) (hT6 : 6 ≤ T) (hT : T ≤ 20) (hWL : ∀ i, WL i < 6) (hWS : ∀ i, WS i ≤ 8) (hlf : ∀ t, lf t < 20) (hrg : ∀ t, rg t < 20)
    (h : ∀ rl ms row md, post (ts_fq a_counts (ts_ML lf rg WL WS T) x y W) (nI W, nI T, f_textSize, f_resultSize, rl, f_barred, ms, f_kept, a_counts, ts_F WS, ts_F WL, ts_F lf, ts_F rg, a_prices, a_lengths, a_letters, a_text, a_result, row, md, a_sums, a_numbers, a_splits, a_tried, a_begins)) :
    wpY_frequencyOf post (nI W, nI T, f_textSize, f_resultSize, f_rowSize, f_barred, f_made, f_kept, a_counts, ts_F WS, ts_F WL, ts_F lf, ts_F rg, a_prices, a_lengths, a_letters, a_text, a_result, a_row, a_parts, a_sums, a_numbers, a_splits, a_tried, a_begins) (nI x) (nI y) := by
  have H2 : ∀ d w, w + d = W → ∀ rl ms row md, wY_frequencyOf_5 post (nI x) (nI y) (d + 1) (ts_fq a_counts (ts_ML lf rg WL WS T) x y w) (nI w) (nI W) (nI T) f_textSize f_resultSize rl f_barred ms f_kept a_counts (ts_F WS) (ts_F WL) (ts_F lf) (ts_F rg) a_prices a_lengths a_letters a_text a_result row md a_sums a_numbers a_splits a_tried a_begins := by
    intro d
    induction d with
    | zero =>
      intro w hw rl ms row md
      have e : w = W := by omega
      subst e
      exact br_t (nI_le (Nat.le_refl w) (by omega)) (h _ _ _ _)
    | succ d ih =>
      intro w hw rl ms row md
      have hs := hWS w
      refine br_f (nI_ge (by omega) (by omega)) ?_
      refine ty_takeWord (w := w) (m := WS w) (by omega) hs rfl ?_
      refine ty_merge (r := fun i => WL (w * 8 + i)) (n := WS w) hT6 hT (by omega) (fun i => hWL _) (fun i hi => ts_cp_lt hi) hlf hrg (fun a ha => ?_)
      have hl := ts_ML_len lf rg WL WS T w
      exact ty_fq27 (L := ts_ML lf rg WL WS T w) (by omega) hx hy (by omega) (fun e he => by have := ts_ML_lt w hT6 hWL e he; omega) ha (ih (w + 1) (by omega) _ _ _ _)
  exact ⟨_, H2 W 0 (by omega) _ _ _ _⟩
end
end
section
section
variable {f_words f_tokens f_textSize f_resultSize f_rowSize f_barred f_made f_kept : Int32} {a_counts a_sizes a_spelled a_lefts a_rights a_prices a_lengths a_letters a_text a_result a_row a_parts a_sums a_numbers a_splits a_tried a_begins : Nat → Int32}
theorem ty_fits {post : Int32 → Prop} {T n t p : Nat} {bx : Int32} {ln LT r : Nat → Nat} {sp : Nat → Nat → Nat} (ht : t < T) (hT : T ≤ 20) (hn : n ≤ 12) (hp : p ≤ n) (hln : ∀ t, ln t ≤ 8) (hLT : ∀ j, LT j < 6) (hsp : ∀ t, t < T → ∀ i, i < ln t → LT (12 * t + i) = sp t i) (hr : ∀ i, r i < 6) (hrow : ∀ i, i < n → a_row i = nI (r i))
    (h1 : ts_fit bx ln sp r n t p = true → post 1) (h0 : ¬ ts_fit bx ln sp r n t p = true → post 0) :
    wpY_fits post (f_words, nI T, f_textSize, f_resultSize, nI n, bx, f_made, f_kept, a_counts, a_sizes, a_spelled, a_lefts, a_rights, a_prices, ts_F ln, ts_F LT, a_text, a_result, a_row, a_parts, a_sums, a_numbers, a_splits, a_tried, a_begins) (nI t) (nI p) := by
  by_cases hb : nI t = bx
  · exact br_t hb (h0 (fun z => (ts_fit_t.mp z).1 hb))
  have ct : (nI t).toNatClampNeg = t := nI_clamp (by omega)
  have l8 := hln t
  have el : ts_F ln (nI t).toNatClampNeg = nI (ln t) := by rw [ct]; rfl
  have es : nI p + ts_F ln (nI t).toNatClampNeg = nI (p + ln t) := by rw [el, nI_add]
  refine br_f hb ⟨ts_v (by omega), ?_⟩
  by_cases c : p + ln t ≤ n
  · refine br_t (by rw [es]; exact nI_le c (by omega)) ?_
    have H : ∀ d i, i + d = ln t → (∀ j, j < i → r (p + j) = sp t j) → wY_fits_27 post (nI t) (nI p) f_words (nI T) f_textSize f_resultSize (nI n) bx f_made f_kept a_counts a_sizes a_spelled a_lefts a_rights a_prices (ts_F ln) (ts_F LT) a_text a_result a_row a_parts a_sums a_numbers a_splits a_tried a_begins (d + 1) (nI i) := by
      intro d
      induction d with
      | zero =>
        intro i hi hj
        refine ⟨ts_v (by omega), br_t (by rw [el]; exact nI_le (by omega) (by omega)) (h1 (ts_fit_t.mpr ⟨hb, c, fun j hj' => hj j (by omega)⟩))⟩
      | succ d ih =>
        intro i hi hj
        have e1 : nI p + nI i = nI (p + i) := nI_add p i
        have e2 : 12 * nI t + nI i = nI (12 * t + i) := ts_mb 12 t i
        have e3 : a_row (nI p + nI i).toNatClampNeg = nI (r (p + i)) := by rw [e1, nI_clamp (by omega)]; exact hrow _ (by omega)
        have e4 : ts_F LT (12 * nI t + nI i).toNatClampNeg = nI (LT (12 * t + i)) := by rw [e2, nI_clamp (by omega)]; rfl
        have b1 := hr (p + i)
        have b2 := hLT (12 * t + i)
        have b3 := hsp t ht i (by omega)
        refine ⟨ts_v (by omega), br_f (by rw [el]; exact nI_ge (by omega) (by omega)) ⟨by rw [e1]; exact ts_v (by omega), by rw [e2]; exact ts_v (by omega), ?_⟩⟩
        by_cases q : r (p + i) = LT (12 * t + i)
        · refine br_t (by rw [e3, e4, q]) (nm_r (nI_1 i) (ih (i + 1) (by omega) (fun j hj' => ?_)))
          by_cases z : j = i
          · rw [z, q]; exact b3
          · exact hj j (by omega)
        · refine br_f (fun z => ?_) (h0 (fun z => ?_))
          · rw [e3, e4] at z
            exact q ((nI_eq (by omega) (by omega)).mp z)
          · exact q (((ts_fit_t.mp z).2.2 i (by omega)).trans b3.symm)
    exact ⟨_, H (ln t) 0 (by omega) (fun j hj => absurd hj (by omega))⟩
  · exact br_f (by rw [es]; exact nI_ge (by omega) (by omega)) (h0 (fun z => c (ts_fit_t.mp z).2.1))
theorem ty_takeLongest {post : SY → Prop} {T n : Nat} {ln LT r : Nat → Nat} {sp : Nat → Nat → Nat} {L : Nat → List Nat} (hE : ts_En T ln sp) (hn : n ≤ 12) (hLT : ∀ j, LT j < 6) (hsp : ∀ t, t < T → ∀ i, i < ln t → LT (12 * t + i) = sp t i) (hr : ∀ i, r i < 6) (hrow : ∀ i, i < n → a_row i = nI (r i)) (hL : ts_TL (ts_fit (-1) ln sp r n) ln r T n L)
    (h : ∀ a, ts_Hd a (L 0) → post (f_words, nI T, f_textSize, f_resultSize, nI n, -1, nI (L 0).length, f_kept, a_counts, a_sizes, a_spelled, a_lefts, a_rights, a_prices, ts_F ln, ts_F LT, a_text, a_result, a_row, a, a_sums, a_numbers, a_splits, a_tried, a_begins)) :
    wpY_takeLongest post (f_words, nI T, f_textSize, f_resultSize, nI n, -1, f_made, f_kept, a_counts, a_sizes, a_spelled, a_lefts, a_rights, a_prices, ts_F ln, ts_F LT, a_text, a_result, a_row, a_parts, a_sums, a_numbers, a_splits, a_tried, a_begins) := by
  obtain ⟨h6, hT, hl1, hl8, hlet⟩ := id hE
  have hlet' := ts_En_let (bx := -1) (n := n) hE (fun t ht => ts_nb (by omega)) hr
  have H2 : ∀ (J : ty_TJ) (p q : Nat) (a : Nat → Int32), p < n → q < 12 →
      J (nI (p + ln (ts_lb (ts_fit (-1) ln sp r n) ln r p T))) (nI (q + 1)) a_counts a_sizes a_spelled a_lefts a_rights a_prices (ts_F ln) (ts_F LT) a_text a_result a_row (upd a q (nI (ts_lb (ts_fit (-1) ln sp r n) ln r p T))) a_sums a_numbers a_splits a_tried a_begins →
      ∀ d t, t + d = T → wY_takeLongest_24 post J (nI p) f_words (nI T) f_textSize f_resultSize (nI n) (-1) (nI q) f_kept a_counts a_sizes a_spelled a_lefts a_rights a_prices (ts_F ln) (ts_F LT) a_text a_result a_row a a_sums a_numbers a_splits a_tried a_begins (d + 1) (nI (ts_lb (ts_fit (-1) ln sp r n) ln r p t)) (nI t) := by
    intro J p q a hp hq hJ d
    induction d with
    | zero =>
      intro t ht
      have e : t = T := by omega
      subst e
      have ⟨b1, b2⟩ := ts_lb_ok (ln := ln) (hlet' p hp).1 (hlet' p hp).2 t (Nat.le_refl t)
      refine br_t (nI_le (Nat.le_refl t) (by omega)) ⟨ts_v hq, nm_r (by rw [nI_clamp (by omega)]) (nm_r (nI_1 q) ⟨ts_v (by omega), nm_r ?_ hJ⟩)⟩
      rw [nI_clamp (by omega)]
      exact nI_add p _
    | succ d ih =>
      intro t ht
      have ⟨b1, b2⟩ := ts_lb_ok (ln := ln) (hlet' p hp).1 (hlet' p hp).2 t (by omega)
      have l1 := hl8 t
      have l2 := hl8 (ts_lb (ts_fit (-1) ln sp r n) ln r p t)
      have e1 : ts_F ln (nI t).toNatClampNeg = nI (ln t) := by rw [nI_clamp (by omega)]; rfl
      have e2 : ts_F ln (nI (ts_lb (ts_fit (-1) ln sp r n) ln r p t)).toNatClampNeg = nI (ln (ts_lb (ts_fit (-1) ln sp r n) ln r p t)) := by rw [nI_clamp (by omega)]; rfl
      have ih' := ih (t + 1) (by omega)
      unfold ts_lb at ih'
      refine br_f (nI_ge (by omega) (by omega)) ?_
      refine ty_fits (by omega) hT hn (by omega) hl8 hLT hsp hr hrow (fun z => ?_) (fun z => ?_)
      · refine br_f (by decide) ⟨ts_v (by omega), ts_v (by omega), ?_⟩
        by_cases c : ln t ≤ ln (ts_lb (ts_fit (-1) ln sp r n) ln r p t)
        · refine br_t (by rw [e1, e2]; exact nI_le c (by omega)) (nm_r (nI_1 t) ?_)
          rw [if_neg (fun z => by omega)] at ih'
          exact ih'
        · refine br_f (by rw [e1, e2]; exact nI_ge (by omega) (by omega)) (nm_r (nI_1 t) ?_)
          rw [if_pos ⟨z, by omega⟩] at ih'
          exact ih'
      · refine br_t rfl (nm_r (nI_1 t) ?_)
        rw [if_neg (fun q => z q.1)] at ih'
        exact ih'
  have H : ∀ d p, p + d = n → ∀ fuel, d < fuel → ∀ a (out : List Nat), out.length ≤ p → ts_Hd a out → out ++ L p = L 0 → wY_takeLongest_7 post f_words (nI T) f_textSize f_resultSize (nI n) (-1) f_kept fuel (nI p) (nI out.length) a_counts a_sizes a_spelled a_lefts a_rights a_prices (ts_F ln) (ts_F LT) a_text a_result a_row a a_sums a_numbers a_splits a_tried a_begins := by
    intro d
    induction d using Nat.strongRecOn with
    | ind d ih =>
      intro p hp fuel hfu a out ho ha hf
      obtain ⟨fuel, rfl⟩ : ∃ g, fuel = g + 1 := ⟨fuel - 1, by omega⟩
      by_cases z : p = n
      · rw [z, hL.1, List.append_nil] at hf
        refine br_t (nI_le (by omega) (by omega)) ?_
        rw [hf]
        exact h a (by rw [← hf]; exact ha)
      · have hp' : p < n := by omega
        refine br_f (nI_ge (by omega) (by omega)) ⟨ts_v (by omega), nm_r (e' := nI (r p)) ?_ ?_⟩
        · rw [nI_clamp (by omega)]; exact hrow p hp'
        have ⟨b1, b2⟩ := ts_lb_ok (ln := ln) (hlet' p hp').1 (hlet' p hp').2 T (Nat.le_refl T)
        have ⟨b3, b4⟩ := ts_En_FB hE _ p b1 b2
        have hLp := hL.2 p hp'
        refine ⟨_, H2 _ p out.length a hp' (by omega) ?_ T 0 (by omega)⟩
        have k1 := ih (d - ln (ts_lb (ts_fit (-1) ln sp r n) ln r p T)) (by omega) (p + ln (ts_lb (ts_fit (-1) ln sp r n) ln r p T)) (by omega) fuel (by omega) (upd a out.length (nI (ts_lb (ts_fit (-1) ln sp r n) ln r p T))) (out ++ [ts_lb (ts_fit (-1) ln sp r n) ln r p T]) (by rw [List.length_append]; simp only [List.length_cons, List.length_nil]; omega) (ts_Hd_snoc ha) (by rw [List.append_assoc, ← hf, hLp]; rfl)
        rw [List.length_append] at k1
        exact k1
  exact ⟨n + 1, H n 0 (by omega) _ (by omega) a_parts [] (Nat.le_refl 0) (ts_Hd_nil _) rfl⟩
theorem ty_next {post : Int32 → Prop} {T n p f : Nat} {bx : Int32} {ln LT r : Nat → Nat} {sp : Nat → Nat → Nat} (hf : f ≤ T) (hT : T ≤ 20) (hn : n ≤ 12) (hp : p ≤ n) (hln : ∀ t, ln t ≤ 8) (hLT : ∀ j, LT j < 6) (hsp : ∀ t, t < T → ∀ i, i < ln t → LT (12 * t + i) = sp t i) (hr : ∀ i, r i < 6) (hrow : ∀ i, i < n → a_row i = nI (r i))
    (h1 : ∀ t, f ≤ t → t < T → ts_fit bx ln sp r n t p = true → (∀ t', f ≤ t' → t' < t → ¬ ts_fit bx ln sp r n t' p = true) → post (nI t)) (h0 : (∀ t', f ≤ t' → t' < T → ¬ ts_fit bx ln sp r n t' p = true) → post (-1)) :
    wpY_next post (f_words, nI T, f_textSize, f_resultSize, nI n, bx, f_made, f_kept, a_counts, a_sizes, a_spelled, a_lefts, a_rights, a_prices, ts_F ln, ts_F LT, a_text, a_result, a_row, a_parts, a_sums, a_numbers, a_splits, a_tried, a_begins) (nI f) (nI p) := by
  have H : ∀ d t, t + d = T → f ≤ t → (∀ t', f ≤ t' → t' < t → ¬ ts_fit bx ln sp r n t' p = true) → wY_next_2 post (nI p) f_words (nI T) f_textSize f_resultSize (nI n) bx f_made f_kept a_counts a_sizes a_spelled a_lefts a_rights a_prices (ts_F ln) (ts_F LT) a_text a_result a_row a_parts a_sums a_numbers a_splits a_tried a_begins (d + 1) (nI t) := by
    intro d
    induction d with
    | zero =>
      intro t ht hft hn'
      have e : t = T := by omega
      subst e
      exact br_t (nI_le (Nat.le_refl t) (by omega)) (h0 hn')
    | succ d ih =>
      intro t ht hft hn'
      refine br_f (nI_ge (by omega) (by omega)) (ty_fits (by omega) hT hn hp hln hLT hsp hr hrow (fun z => ?_) (fun z => ?_))
      · exact br_f (by decide) (h1 t hft (by omega) z hn')
      · refine br_t rfl (nm_r (nI_1 t) (ih (t + 1) (by omega) (by omega) (fun t' a b => ?_)))
        by_cases q : t' = t
        · rw [q]; exact z
        · exact hn' t' a (by omega)
  exact ⟨_, H (T - f) f (by omega) (Nat.le_refl f) (fun t' a b => absurd b (by omega))⟩
end
/-- Y's store of kept splits -/
def ts_RS (pr : Nat → Nat) (sm nb sl : Nat → Int32) (i : Nat) (e : List Nat) : Prop :=
  sm i = nI (ts_sp pr e) ∧ nb i = nI e.length ∧ ∀ j x, e[j]? = some x → sl (12 * i + j) = nI x
def ts_KR (pr : Nat → Nat) (sm nb sl : Nat → Int32) (acc : List (List Nat)) : Prop := ∀ i e, acc[i]? = some e → ts_RS pr sm nb sl i e
def ts_c12 (sl : Nat → Int32) (c m : Nat) : Nat → Int32 := fun j => if 12 * (c + 1) ≤ j ∧ j < 12 * (c + 1) + m then sl (j - 12) else sl j
theorem ts_c12_0 (sl : Nat → Int32) (c : Nat) : ts_c12 sl c 0 = sl := by
  funext j
  exact if_neg (by omega)
theorem ts_c12_s (sl : Nat → Int32) (c m : Nat) (hm : m < 12) : upd (ts_c12 sl c m) (12 * (c + 1) + m) (ts_c12 sl c m (12 * c + m)) = ts_c12 sl c (m + 1) := by
  funext j
  unfold upd ts_c12
  by_cases z : j = 12 * (c + 1) + m
  · rw [if_pos z, if_neg (by omega), if_pos (by omega), z]
    congr 1
    omega
  · rw [if_neg z]
    by_cases z2 : 12 * (c + 1) ≤ j ∧ j < 12 * (c + 1) + m
    · rw [if_pos z2, if_pos (by omega)]
    · rw [if_neg z2, if_neg (by omega)]
theorem ts_c12_in {sl : Nat → Int32} {c i : Nat} (h : i < 12) : ts_c12 sl c 12 (12 * (c + 1) + i) = sl (12 * c + i) := by
  unfold ts_c12
  rw [if_pos (by omega)]
  congr 1
  omega
theorem ts_c12_out {sl : Nat → Int32} {c j : Nat} (h : j < 12 * (c + 1) ∨ 12 * (c + 2) ≤ j) : ts_c12 sl c 12 j = sl j := if_neg (by omega)
def ts_wr (sl tr : Nat → Int32) (b m : Nat) : Nat → Int32 := fun j => if b ≤ j ∧ j < b + m then tr (j - b) else sl j
theorem ts_wr_0 (sl tr : Nat → Int32) (b : Nat) : ts_wr sl tr b 0 = sl := by
  funext j
  exact if_neg (by omega)
theorem ts_wr_s (sl tr : Nat → Int32) (b m : Nat) : upd (ts_wr sl tr b m) (b + m) (tr m) = ts_wr sl tr b (m + 1) := by
  funext j
  unfold upd ts_wr
  by_cases z : j = b + m
  · rw [if_pos z, if_pos (by omega), z, Nat.add_sub_cancel_left]
  · rw [if_neg z]
    by_cases z2 : b ≤ j ∧ j < b + m
    · rw [if_pos z2, if_pos (by omega)]
    · rw [if_neg z2, if_neg (by omega)]
theorem ts_len_of {e : List Nat} {j x : Nat} (h : e[j]? = some x) : j < e.length := by
  obtain ⟨q, _⟩ := List.getElem?_eq_some_iff.mp h
  exact q
section
variable {f_words f_tokens f_textSize f_resultSize f_rowSize f_barred f_made f_kept : Int32} {a_counts a_sizes a_spelled a_lefts a_rights a_prices a_lengths a_letters a_text a_result a_row a_parts a_sums a_numbers a_splits a_tried a_begins : Nat → Int32}
theorem ty_keep151 {post : SY → Prop} {c : Nat} {pr : Nat → Nat} {acc : List (List Nat)} {x : List Nat} (hx : x.length ≤ 12) (hA : ts_AG pr acc) (hc : c ≤ acc.length) (hT : ts_Hd a_tried x)
    (h1 : ∀ i e, i < c → acc[i]? = some e → ts_RS pr a_sums a_numbers a_splits i e) (h2 : ∀ i e, c ≤ i → acc[i]? = some e → ts_RS pr a_sums a_numbers a_splits (i + 1) e)
    (e : ts_ins (ts_ky pr) acc x = acc.take c ++ x :: acc.drop c)
    (h : ∀ sm nb sl, ts_KR pr sm nb sl (ts_top (ts_ky pr) acc x) → post (f_words, f_tokens, f_textSize, f_resultSize, f_rowSize, f_barred, f_made, nI (ts_top (ts_ky pr) acc x).length, a_counts, a_sizes, a_spelled, a_lefts, a_rights, a_prices, a_lengths, a_letters, a_text, a_result, a_row, a_parts, sm, nb, sl, a_tried, a_begins)) :
    wY_keep_151 post (nI x.length) (nI (ts_sp pr x)) (nI c) f_words f_tokens f_textSize f_resultSize f_rowSize f_barred f_made (nI acc.length) a_counts a_sizes a_spelled a_lefts a_rights a_prices a_lengths a_letters a_text a_result a_row a_parts a_sums a_numbers a_splits a_tried a_begins := by
  obtain ⟨a1, a2, a3⟩ := hA
  have cc : (nI c).toNatClampNeg = c := nI_clamp (by omega)
  have tl : (ts_top (ts_ky pr) acc x).length = min 6 (acc.length + 1) := by
    unfold ts_top
    rw [List.length_take, ts_ins_len]
  have kr : ts_KR pr (upd a_sums c (nI (ts_sp pr x))) (upd a_numbers c (nI x.length)) (ts_wr a_splits a_tried (12 * c) x.length) (ts_top (ts_ky pr) acc x) := by
    intro i y hy
    unfold ts_top at hy
    rw [e, List.getElem?_take] at hy
    by_cases i6 : i < 6
    · rw [if_pos i6, ts_pos_get acc x c i hc] at hy
      by_cases i1 : i < c
      · rw [if_pos i1] at hy
        obtain ⟨g1, g2, g3⟩ := h1 i y i1 hy
        have yl := a3 y (List.mem_of_getElem? hy)
        refine ⟨by rw [pk_un (by omega)]; exact g1, by rw [pk_un (by omega)]; exact g2, fun j z hz => ?_⟩
        have := ts_len_of hz
        unfold ts_wr
        rw [if_neg (by omega)]
        exact g3 j z hz
      · rw [if_neg i1] at hy
        by_cases i2 : i = c
        · rw [if_pos i2] at hy
          cases hy
          subst i2
          refine ⟨pk_us, pk_us, fun j z hz => ?_⟩
          have := ts_len_of hz
          unfold ts_wr
          rw [if_pos (by omega), Nat.add_sub_cancel_left]
          exact hT j z hz
        · rw [if_neg i2] at hy
          obtain ⟨g1, g2, g3⟩ := h2 (i - 1) y (by omega) hy
          rw [show i - 1 + 1 = i by omega] at g1 g2 g3
          refine ⟨by rw [pk_un (by omega)]; exact g1, by rw [pk_un (by omega)]; exact g2, fun j z hz => ?_⟩
          unfold ts_wr
          rw [if_neg (by omega)]
          exact g3 j z hz
    · rw [if_neg i6] at hy
      cases hy
  have fin := h _ _ _ kr
  rw [tl] at fin
  have H : ∀ d i, i + d = x.length → wY_keep_168 post (nI x.length) (nI c) f_words f_tokens f_textSize f_resultSize f_rowSize f_barred f_made (nI acc.length) (d + 1) (nI i) a_counts a_sizes a_spelled a_lefts a_rights a_prices a_lengths a_letters a_text a_result a_row a_parts (upd a_sums c (nI (ts_sp pr x))) (upd a_numbers c (nI x.length)) (ts_wr a_splits a_tried (12 * c) i) a_tried a_begins := by
    intro d
    induction d with
    | zero =>
      intro i hi
      have ei : i = x.length := by omega
      subst ei
      refine br_t (nI_le (Nat.le_refl _) (by omega)) ?_
      by_cases f6 : acc.length = 6
      · refine br_t (by rw [f6]; decide) ?_
        rw [show min 6 (acc.length + 1) = acc.length by omega] at fin
        exact fin
      · refine br_f (nI_ge (b := 6) (by omega) (by decide)) (nm_r (nI_1 _) ?_)
        rw [show min 6 (acc.length + 1) = acc.length + 1 by omega] at fin
        exact fin
    | succ d ih =>
      intro i hi
      have e1 : 12 * nI c + nI i = nI (12 * c + i) := ts_mb 12 c i
      refine br_f (nI_ge (by omega) (by omega)) ⟨ts_v (by omega), by rw [e1]; exact ts_v (by omega), nm_r (e' := ts_wr a_splits a_tried (12 * c) (i + 1)) ?_ (nm_r (nI_1 i) (ih (i + 1) (by omega)))⟩
      rw [e1, nI_clamp (by omega), nI_clamp (by omega)]
      exact ts_wr_s _ _ _ _
  have H0 := H x.length 0 (by omega)
  rw [ts_wr_0] at H0
  exact ⟨ts_v (by omega), nm_r (by rw [cc]) ⟨ts_v (by omega), nm_r (by rw [cc]) ⟨_, H0⟩⟩⟩
def ty_TJ3 : Type := Int32 → (Nat → Int32) → (Nat → Int32) → (Nat → Int32) → (Nat → Int32) → (Nat → Int32) → (Nat → Int32) → (Nat → Int32) → (Nat → Int32) → (Nat → Int32) → (Nat → Int32) → (Nat → Int32) → (Nat → Int32) → (Nat → Int32) → (Nat → Int32) → (Nat → Int32) → (Nat → Int32) → (Nat → Int32) → Prop
theorem ty_keep74 {post : SY → Prop} {J : ty_TJ3} {c : Nat} {x1 x2 : Int32} (hc : c < 6)
    (h : J (nI c) a_counts a_sizes a_spelled a_lefts a_rights a_prices a_lengths a_letters a_text a_result a_row a_parts (upd a_sums (c + 1) (a_sums c)) (upd a_numbers (c + 1) (a_numbers c)) (ts_c12 a_splits c 12) a_tried a_begins) :
    wY_keep_74 post J x1 x2 (nI (c + 1)) f_words f_tokens f_textSize f_resultSize f_rowSize f_barred f_made f_kept a_counts a_sizes a_spelled a_lefts a_rights a_prices a_lengths a_letters a_text a_result a_row a_parts a_sums a_numbers a_splits a_tried a_begins := by
  have e1 : nI (c + 1) - 1 = nI c := nI_pred c
  have v1 : vp_in (nI (c + 1) - 1) 7 := by rw [e1]; exact ts_v (by omega)
  have v2 : vp_in (nI (c + 1)) 7 := ts_v (by omega)
  have e2 : (nI (c + 1) - 1).toNatClampNeg = c := by rw [e1]; exact nI_clamp (by omega)
  have e3 : (nI (c + 1)).toNatClampNeg = c + 1 := nI_clamp (by omega)
  have e4 : (12 : Int32) * nI (c + 1) = nI (12 * (c + 1)) := pk_mul 12 (c + 1)
  have e5 : (12 : Int32) * nI (c + 1) - 12 = nI (12 * c) := by
    rw [e4]
    have := pk_sub (a := 12 * (c + 1)) (b := 12) (by omega)
    rw [show 12 * (c + 1) - 12 = 12 * c by omega] at this
    exact this
  have H : ∀ d i, i + d = 12 → wY_keep_105 post J x1 x2 (nI (c + 1)) f_words f_tokens f_textSize f_resultSize f_rowSize f_barred f_made f_kept (d + 1) (nI i) a_counts a_sizes a_spelled a_lefts a_rights a_prices a_lengths a_letters a_text a_result a_row a_parts (upd a_sums (c + 1) (a_sums c)) (upd a_numbers (c + 1) (a_numbers c)) (ts_c12 a_splits c i) a_tried a_begins := by
    intro d
    induction d with
    | zero =>
      intro i hi
      have ei : i = 12 := by omega
      subst ei
      exact br_t (nI_le (b := 12) (Nat.le_refl _) (by decide)) (nm_r (pk_m1 c) h)
    | succ d ih =>
      intro i hi
      have e6 : (12 : Int32) * nI (c + 1) - 12 + nI i = nI (12 * c + i) := by rw [e5, nI_add]
      have e7 : (12 : Int32) * nI (c + 1) + nI i = nI (12 * (c + 1) + i) := by rw [e4, nI_add]
      refine br_f (nI_ge (b := 12) (by omega) (by decide)) ⟨by rw [e6]; exact ts_v (by omega), by rw [e7]; exact ts_v (by omega), nm_r (e' := ts_c12 a_splits c (i + 1)) ?_ (nm_r (nI_1 i) (ih (i + 1) (by omega)))⟩
      rw [e6, e7, nI_clamp (by omega), nI_clamp (by omega)]
      exact ts_c12_s _ _ _ (by omega)
  have H0 := H 12 0 (by omega)
  rw [ts_c12_0] at H0
  exact ⟨v1, v2, nm_r (by rw [e2, e3]) ⟨v1, v2, nm_r (by rw [e2, e3]) ⟨_, H0⟩⟩⟩
theorem ty_keep {post : SY → Prop} {pr : Nat → Nat} {acc : List (List Nat)} {x : List Nat} (hx : x.length ≤ 12) (hxt : ∀ t ∈ x, t < 20) (hpr : ∀ t, pr t ≤ 99) (hA : ts_AG pr acc) (hT : ts_Hd a_tried x) (hKR : ts_KR pr a_sums a_numbers a_splits acc)
    (h : ∀ sm nb sl, ts_KR pr sm nb sl (ts_top (ts_ky pr) acc x) → post (f_words, f_tokens, f_textSize, f_resultSize, f_rowSize, f_barred, f_made, nI (ts_top (ts_ky pr) acc x).length, a_counts, a_sizes, a_spelled, a_lefts, a_rights, ts_F pr, a_lengths, a_letters, a_text, a_result, a_row, a_parts, sm, nb, sl, a_tried, a_begins)) :
    wpY_keep post (f_words, f_tokens, f_textSize, f_resultSize, f_rowSize, f_barred, f_made, nI acc.length, a_counts, a_sizes, a_spelled, a_lefts, a_rights, ts_F pr, a_lengths, a_letters, a_text, a_result, a_row, a_parts, a_sums, a_numbers, a_splits, a_tried, a_begins) (nI x.length) := by
  obtain ⟨a1, a2, a3⟩ := id hA
  have xs := ts_sp_le hpr x
  have H2 : ∀ c, c ≤ acc.length → ∀ sm nb sl, (∀ i e, i < c → acc[i]? = some e → ts_RS pr sm nb sl i e) → (∀ i e, c ≤ i → acc[i]? = some e → ts_RS pr sm nb sl (i + 1) e) → (∀ j e, c ≤ j → acc[j]? = some e → ts_ky pr x < ts_ky pr e) →
      wY_keep_34 post (nI x.length) (nI (ts_sp pr x)) f_words f_tokens f_textSize f_resultSize f_rowSize f_barred f_made (nI acc.length) (c + 1) (nI c) a_counts a_sizes a_spelled a_lefts a_rights (ts_F pr) a_lengths a_letters a_text a_result a_row a_parts sm nb sl a_tried a_begins := by
    intro c
    induction c with
    | zero =>
      intro hc sm nb sl h1 h2 h3
      exact br_t (by decide) (ty_keep151 hx hA hc hT h1 h2 (ts_pos acc x 0 a2 hc h3 (fun e z => absurd z (by omega))) h)
    | succ c ih =>
      intro hc sm nb sl h1 h2 h3
      obtain ⟨y, hy⟩ : ∃ y, acc[c]? = some y := ⟨acc[c]'(by omega), List.getElem?_eq_getElem (by omega)⟩
      have yl := a3 y (List.mem_of_getElem? hy)
      have ys := ts_sp_le hpr y
      obtain ⟨g1, g2, g3⟩ := h1 c y (by omega) hy
      have e1 : nI (c + 1) - 1 = nI c := nI_pred c
      have v1 : vp_in (nI (c + 1) - 1) 7 := by rw [e1]; exact ts_v (by omega)
      have e2 : (nI (c + 1) - 1).toNatClampNeg = c := by rw [e1]; exact nI_clamp (by omega)
      have ex : ts_ky pr x = 16 * ts_sp pr x + x.length := rfl
      have ey : ts_ky pr y = 16 * ts_sp pr y + y.length := rfl
      have stop : ts_ky pr y ≤ ts_ky pr x → wY_keep_151 post (nI x.length) (nI (ts_sp pr x)) (nI (c + 1)) f_words f_tokens f_textSize f_resultSize f_rowSize f_barred f_made (nI acc.length) a_counts a_sizes a_spelled a_lefts a_rights (ts_F pr) a_lengths a_letters a_text a_result a_row a_parts sm nb sl a_tried a_begins := by
        intro z
        refine ty_keep151 hx hA hc hT h1 h2 (ts_pos acc x (c + 1) a2 hc h3 (fun e _ he => ?_)) h
        rw [Nat.add_sub_cancel, hy] at he
        cases he
        exact z
      have go : ts_ky pr x < ts_ky pr y → wY_keep_74 post (wY_keep_34 post (nI x.length) (nI (ts_sp pr x)) f_words f_tokens f_textSize f_resultSize f_rowSize f_barred f_made (nI acc.length) (c + 1)) (nI x.length) (nI (ts_sp pr x)) (nI (c + 1)) f_words f_tokens f_textSize f_resultSize f_rowSize f_barred f_made (nI acc.length) a_counts a_sizes a_spelled a_lefts a_rights (ts_F pr) a_lengths a_letters a_text a_result a_row a_parts sm nb sl a_tried a_begins := by
        intro z
        refine ty_keep74 (by omega) (ih (by omega) _ _ _ (fun i e hi he => ?_) (fun i e hi he => ?_) (fun j e hj he => ?_))
        · obtain ⟨k1, k2, k3⟩ := h1 i e (by omega) he
          have el := a3 e (List.mem_of_getElem? he)
          refine ⟨by rw [pk_un (by omega)]; exact k1, by rw [pk_un (by omega)]; exact k2, fun j w hw => ?_⟩
          have := ts_len_of hw
          rw [ts_c12_out (by omega)]
          exact k3 j w hw
        · by_cases q : i = c
          · subst q
            rw [hy] at he
            cases he
            refine ⟨by rw [pk_us]; exact g1, by rw [pk_us]; exact g2, fun j w hw => ?_⟩
            have := ts_len_of hw
            rw [ts_c12_in (by omega)]
            exact g3 j w hw
          · obtain ⟨k1, k2, k3⟩ := h2 i e (by omega) he
            refine ⟨by rw [pk_un (by omega)]; exact k1, by rw [pk_un (by omega)]; exact k2, fun j w hw => ?_⟩
            rw [ts_c12_out (by omega)]
            exact k3 j w hw
        · by_cases q : j = c
          · rw [q, hy] at he
            cases he
            exact z
          · exact h3 j e (by omega) he
      refine br_f (nI_nle (by omega) (by omega)) ⟨v1, ?_⟩
      by_cases c1 : ts_sp pr x < ts_sp pr y
      · exact br_t (by rw [e2, g1]; exact nI_lt c1 (by omega)) (go (by omega))
      · refine br_f (by rw [e2, g1]; exact nI_nlt (by omega) (by omega)) ⟨v1, ?_⟩
        by_cases c2 : ts_sp pr y = ts_sp pr x
        · refine br_t (by rw [e2, g1, c2]) ⟨v1, ?_⟩
          by_cases c3 : y.length ≤ x.length
          · exact br_t (by rw [e2, g2]; exact nI_le c3 (by omega)) (stop (by omega))
          · exact br_f (by rw [e2, g2]; exact nI_ge (by omega) (by omega)) (go (by omega))
        · refine br_f (fun z => ?_) (stop (by omega))
          rw [e2, g1] at z
          exact c2 ((nI_eq (by omega) (by omega)).mp z)
  have H : ∀ d i, i + d = x.length → wY_keep_4 post (nI x.length) f_words f_tokens f_textSize f_resultSize f_rowSize f_barred f_made (nI acc.length) a_counts a_sizes a_spelled a_lefts a_rights (ts_F pr) a_lengths a_letters a_text a_result a_row a_parts a_sums a_numbers a_splits a_tried a_begins (d + 1) (nI (ts_sp pr (x.take i))) (nI i) := by
    intro d
    induction d with
    | zero =>
      intro i hi
      have ei : i = x.length := by omega
      subst ei
      rw [List.take_length]
      refine br_t (nI_le (Nat.le_refl _) (by omega)) ⟨_, H2 acc.length (Nat.le_refl _) _ _ _ (fun i e _ he => hKR i e he) (fun i e hi he => ?_) (fun i e hi he => ?_)⟩
      · obtain ⟨q, _⟩ := List.getElem?_eq_some_iff.mp he
        omega
      · obtain ⟨q, _⟩ := List.getElem?_eq_some_iff.mp he
        omega
    | succ d ih =>
      intro i hi
      obtain ⟨t, ht⟩ := ts_get (l := x) (i := i) (by omega)
      have t20 := hxt t (List.mem_of_getElem? ht)
      have e1 : a_tried (nI i).toNatClampNeg = nI t := by rw [nI_clamp (by omega)]; exact hT i t ht
      refine br_f (nI_ge (by omega) (by omega)) ⟨ts_v (by omega), by rw [e1]; exact ts_v t20, nm_r (e' := nI (ts_sp pr (x.take (i + 1)))) ?_ (nm_r (nI_1 i) (ih (i + 1) (by omega)))⟩
      rw [e1, nI_clamp (by omega), List.take_succ, ht, ts_sp_app]
      show nI _ + nI (pr t) = _
      rw [nI_add]
      rfl
  exact ⟨_, H x.length 0 (by omega)⟩
end
end
section
theorem ts_exM {F : Nat → Nat → Bool} {ln : Nat → Nat} {T n : Nat} (hF : ts_FB F ln T n) : ∃ M : Nat → Nat, M n = 1 ∧ ∀ p, p < n → M p = 1 + ts_cf F ln (fun q => 1 + M q) p 0 T :=
  ts_tab (fun M p => 1 + ts_cf F ln (fun q => 1 + M q) p 0 T) 1 n (fun K K' p _ h => by
    show 1 + _ = 1 + _
    rw [ts_cf_loc hF (K := fun q => 1 + K q) (K' := fun q => 1 + K' q) (fun q a b => by show 1 + K q = 1 + K' q; rw [h q a b]) T 0 (by omega)])
theorem ts_K_self {F : Nat → Nat → Bool} {ln pr : Nat → Nat} {T n : Nat} {K : Nat → List (List Nat)} (h : ts_TK F ln pr T n K) {p : Nat} (hp : p ≤ n) : ((K p).map (fun r => [] ++ r)).foldl (ts_top (ts_ky pr)) [] = K p := by
  have e : (K p).map (fun r => [] ++ r) = K p := by
    simp only [List.nil_append]
    exact List.map_id' _
  rw [e]
  by_cases z : p = n
  · rw [z, h.1]
    rfl
  · have := h.2 p (by omega)
    rw [this]
    exact (ts_absorb _ [] (Nat.zero_le 6)).symm
theorem ts_ft_AG {pr : Nat → Nat} (L : List (List Nat)) : ∀ acc : List (List Nat), ts_AG pr acc → (∀ e ∈ L, e.length ≤ 12) → ts_AG pr (L.foldl (ts_top (ts_ky pr)) acc) := by
  induction L with
  | nil => exact fun acc h _ => h
  | cons x L ih => exact fun acc h hL => ih _ (ts_AG_top h (hL x List.mem_cons_self)) (fun e he => hL e (List.mem_cons_of_mem _ he))
def ty_TJ4 : Type := Int32 → Int32 → Int32 → Int32 → Int32 → Int32 → Int32 → Int32 → Int32 → Int32 → Int32 → (Nat → Int32) → (Nat → Int32) → (Nat → Int32) → (Nat → Int32) → (Nat → Int32) → (Nat → Int32) → (Nat → Int32) → (Nat → Int32) → (Nat → Int32) → (Nat → Int32) → (Nat → Int32) → (Nat → Int32) → (Nat → Int32) → (Nat → Int32) → (Nat → Int32) → (Nat → Int32) → (Nat → Int32) → Prop
/-- where the search goes on after a place is done -/
def ts_bk (tr : Nat → Int32) (d : Nat) : Int32 := if d = 0 then 0 else tr (d - 1) + 1
section
variable {f_words f_tokens f_textSize f_resultSize f_rowSize f_barred f_made f_kept : Int32} {a_counts a_sizes a_spelled a_lefts a_rights a_prices a_lengths a_letters a_text a_result a_row a_parts a_sums a_numbers a_splits a_tried a_begins : Nat → Int32}
theorem ty_pop {post : Int32 → SY → Prop} {J : ty_TJ4} {x1 : Int32} {d : Nat} (hd : d ≤ 12) (h : J x1 (nI d + (-1)) (ts_bk a_tried d) f_words f_tokens f_textSize f_resultSize f_rowSize f_barred f_made f_kept a_counts a_sizes a_spelled a_lefts a_rights a_prices a_lengths a_letters a_text a_result a_row a_parts a_sums a_numbers a_splits a_tried a_begins) : wY_lookAtAll_73 post J x1 (nI d) (-1) f_words f_tokens f_textSize f_resultSize f_rowSize f_barred f_made f_kept a_counts a_sizes a_spelled a_lefts a_rights a_prices a_lengths a_letters a_text a_result a_row a_parts a_sums a_numbers a_splits a_tried a_begins := by
  refine br_t ts_neg1 (nm_e ?_)
  by_cases z : d = 0
  · subst z
    exact br_f (by decide) h
  · have e : nI d + (-1) = nI (d - 1) := ts_m1 (by omega)
    have e2 : ts_bk a_tried d = a_tried (d - 1) + 1 := if_neg z
    rw [e, e2] at h
    rw [e]
    refine br_t (nI_pos' (by omega)) ⟨ts_v (by omega), nm_r ?_ h⟩
    rw [nI_clamp (by omega)]
theorem ty_look {post : Int32 → SY → Prop} {T n : Nat} {bx : Int32} {ln LT r pr : Nat → Nat} {sp : Nat → Nat → Nat} {K : Nat → List (List Nat)} {C : Nat → Nat} (hE : ts_En T ln sp) (hn : n ≤ 12) (hLT : ∀ j, LT j < 6) (hsp : ∀ t, t < T → ∀ i, i < ln t → LT (12 * t + i) = sp t i) (hr : ∀ i, r i < 6) (hrow : ∀ i, i < n → a_row i = nI (r i)) (hpr : ∀ t, pr t ≤ 99)
    (hK : ts_TK (ts_fit bx ln sp r n) ln pr T n K) (hC : ts_TC (ts_fit bx ln sp r n) ln T n C)
    (h : ∀ sm nb sl tr bg, ts_KR pr sm nb sl (K 0) → post (nI (C 0)) (f_words, nI T, f_textSize, f_resultSize, nI n, bx, f_made, nI (K 0).length, a_counts, a_sizes, a_spelled, a_lefts, a_rights, ts_F pr, ts_F ln, ts_F LT, a_text, a_result, a_row, a_parts, sm, nb, sl, tr, bg)) :
    wpY_lookAtAll post (f_words, nI T, f_textSize, f_resultSize, nI n, bx, f_made, f_kept, a_counts, a_sizes, a_spelled, a_lefts, a_rights, ts_F pr, ts_F ln, ts_F LT, a_text, a_result, a_row, a_parts, a_sums, a_numbers, a_splits, a_tried, a_begins) := by
  obtain ⟨h6, hT, hl1, hl8, hlet⟩ := id hE
  have hFB : ts_FB (ts_fit bx ln sp r n) ln T n := ts_En_FB hE
  obtain ⟨M, hM0, hM⟩ := ts_exM hFB
  have main : ∀ j p, p + j = n → ∀ (N c : Nat) (pre : List Nat) (acc : List (List Nat)) (sm nb sl tr bg : Nat → Int32), pre.length ≤ p → (∀ t ∈ pre, t < 20) → ts_AG pr acc → ts_KR pr sm nb sl acc → ts_Hd tr pre → bg pre.length = nI p →
      (∀ sm' nb' sl' tr' bg', ts_KR pr sm' nb' sl' (((K p).map (fun r => pre ++ r)).foldl (ts_top (ts_ky pr)) acc) → ts_Hd tr' pre → (∀ i, i ≤ pre.length → bg' i = bg i) →
        wY_lookAtAll_18 post N (nI (c + C p)) (nI pre.length + (-1)) (ts_bk tr' pre.length) f_words (nI T) f_textSize f_resultSize (nI n) bx f_made (nI (((K p).map (fun r => pre ++ r)).foldl (ts_top (ts_ky pr)) acc).length) a_counts a_sizes a_spelled a_lefts a_rights (ts_F pr) (ts_F ln) (ts_F LT) a_text a_result a_row a_parts sm' nb' sl' tr' bg') →
      wY_lookAtAll_18 post (N + M p) (nI c) (nI pre.length) 0 f_words (nI T) f_textSize f_resultSize (nI n) bx f_made (nI acc.length) a_counts a_sizes a_spelled a_lefts a_rights (ts_F pr) (ts_F ln) (ts_F LT) a_text a_result a_row a_parts sm nb sl tr bg := by
    intro j
    induction j using Nat.strongRecOn with
    | ind j ih =>
      intro p hp N c pre acc sm nb sl tr bg hpre hprt hA hKR hHd hbg hk
      have cd : (nI pre.length).toNatClampNeg = pre.length := nI_clamp (by omega)
      have vd : vp_in (nI pre.length) 13 := ts_v (by omega)
      have eb : bg (nI pre.length).toNatClampNeg = nI p := by rw [cd]; exact hbg
      by_cases z : p = n
      · subst z
        rw [hM0]
        refine br_f (ts_nn (by omega)) ⟨vd, br_t eb ⟨vd, br_t eb (nm_r (nI_1 c) ?_)⟩⟩
        refine ty_keep (by omega) hprt hpr hA hHd hKR (fun sm' nb' sl' hk' => ty_pop (by omega) ?_)
        have := hk sm' nb' sl' tr bg
        rw [hK.1, hC.1] at this
        simp only [List.map_cons, List.map_nil, List.append_nil, List.foldl_cons, List.foldl_nil] at this
        exact this hk' hHd (fun _ _ => by trivial)
      · have hpn : p < n := by omega
        have node : ∀ k f, f + k = T → ∀ (N c : Nat) (acc : List (List Nat)) (sm nb sl tr bg : Nat → Int32), ts_AG pr acc → ts_KR pr sm nb sl acc → ts_Hd tr pre → bg pre.length = nI p →
            (∀ sm' nb' sl' tr' bg', ts_KR pr sm' nb' sl' (((ts_of (ts_fit bx ln sp r n) ln K p f k).map (fun r => pre ++ r)).foldl (ts_top (ts_ky pr)) acc) → ts_Hd tr' pre → (∀ i, i ≤ pre.length → bg' i = bg i) →
              wY_lookAtAll_18 post N (nI (c + ts_cf (ts_fit bx ln sp r n) ln C p f k)) (nI pre.length + (-1)) (ts_bk tr' pre.length) f_words (nI T) f_textSize f_resultSize (nI n) bx f_made (nI (((ts_of (ts_fit bx ln sp r n) ln K p f k).map (fun r => pre ++ r)).foldl (ts_top (ts_ky pr)) acc).length) a_counts a_sizes a_spelled a_lefts a_rights (ts_F pr) (ts_F ln) (ts_F LT) a_text a_result a_row a_parts sm' nb' sl' tr' bg') →
            wY_lookAtAll_18 post (N + (1 + ts_cf (ts_fit bx ln sp r n) ln (fun q => 1 + M q) p f k)) (nI c) (nI pre.length) (nI f) f_words (nI T) f_textSize f_resultSize (nI n) bx f_made (nI acc.length) a_counts a_sizes a_spelled a_lefts a_rights (ts_F pr) (ts_F ln) (ts_F LT) a_text a_result a_row a_parts sm nb sl tr bg := by
          intro k
          induction k using Nat.strongRecOn with
          | ind k ihk =>
            intro f hf N c acc sm nb sl tr bg hA hKR hHd hbg hk
            have eb : bg (nI pre.length).toNatClampNeg = nI p := by rw [cd]; exact hbg
            have nb0 : ¬ bg (nI pre.length).toNatClampNeg = nI n := by
              rw [eb]
              intro q
              have := (nI_eq (by omega) (by omega)).mp q
              omega
            rw [show N + (1 + ts_cf (ts_fit bx ln sp r n) ln (fun q => 1 + M q) p f k) = (N + ts_cf (ts_fit bx ln sp r n) ln (fun q => 1 + M q) p f k) + 1 by omega]
            refine br_f (ts_nn (by omega)) ⟨vd, br_f nb0 ⟨vd, ?_⟩⟩
            rw [eb]
            refine ty_next (by omega) hT hn (by omega) hl8 hLT hsp hr hrow (fun t ht1 ht2 ht3 ht4 => ?_) (fun hnone => ?_)
            · obtain ⟨k', hk'⟩ : ∃ k', k = (t - f) + (k' + 1) := ⟨k - (t - f) - 1, by omega⟩
              have sk1 : ∀ G : Nat → Nat, ts_cf (ts_fit bx ln sp r n) ln G p f k = G (p + ln t) + ts_cf (ts_fit bx ln sp r n) ln G p (t + 1) k' := by
                intro G
                rw [hk', ts_cf_skip (t - f) f (k' + 1) (fun t' a b => ht4 t' a (by omega)), show f + (t - f) = t by omega]
                show (if _ then _ else _) + _ = _
                rw [if_pos ht3]
              have sk2 : ts_of (ts_fit bx ln sp r n) ln K p f k = (K (p + ln t)).map (fun r => t :: r) ++ ts_of (ts_fit bx ln sp r n) ln K p (t + 1) k' := by
                rw [hk', ts_of_skip (t - f) f (k' + 1) (fun t' a b => ht4 t' a (by omega)), show f + (t - f) = t by omega]
                show (if _ then _ else _) ++ _ = _
                rw [if_pos ht3]
              have ⟨b1, b2⟩ := hFB t p ht2 ht3
              have l8 := hl8 t
              have emap : ((K (p + ln t)).map (fun r => t :: r)).map (fun r => pre ++ r) = (K (p + ln t)).map (fun r => (pre ++ [t]) ++ r) := by
                rw [List.map_map]
                refine List.map_congr_left (fun x _ => ?_)
                show pre ++ (t :: x) = pre ++ [t] ++ x
                rw [List.append_assoc]
                rfl
              have kg := ts_K_good hFB hK (n - (p + ln t)) (p + ln t) (by omega)
              rw [sk1, sk2, List.map_append, List.foldl_append, emap] at hk
              rw [sk1]
              have plen : (pre ++ [t]).length = pre.length + 1 := by rw [List.length_append]; rfl
              refine ⟨vd, br_f nb0 (br_f (ts_nn (by omega)) ⟨vd, nm_r (e' := upd tr pre.length (nI t)) (by rw [cd]) ⟨vd, ts_v (by omega), by rw [nI_1]; exact ts_v (by omega), nm_r (e' := upd bg (pre.length + 1) (nI (p + ln t))) ?_ (nm_r (nI_1 pre.length) ?_)⟩⟩)⟩
              · rw [eb, nI_1, nI_clamp (by omega), nI_clamp (by omega)]
                congr 1
                exact nI_add p (ln t)
              · have hprt2 : ∀ x ∈ pre ++ [t], x < 20 := by
                  intro x hx
                  rcases List.mem_append.mp hx with q | q
                  · exact hprt x q
                  · have := List.mem_singleton.mp q
                    omega
                have st := ih (j - ln t) (by omega) (p + ln t) (by omega) (N + (1 + ts_cf (ts_fit bx ln sp r n) ln (fun q => 1 + M q) p (t + 1) k')) c (pre ++ [t]) acc sm nb sl (upd tr pre.length (nI t)) (upd bg (pre.length + 1) (nI (p + ln t))) (by omega) hprt2 hA hKR (ts_Hd_snoc hHd) (by rw [plen]; exact pk_us)
                rw [plen] at st
                rw [show N + (1 + M (p + ln t) + ts_cf (ts_fit bx ln sp r n) ln (fun q => 1 + M q) p (t + 1) k') = N + (1 + ts_cf (ts_fit bx ln sp r n) ln (fun q => 1 + M q) p (t + 1) k') + M (p + ln t) by omega]
                refine st (fun sm' nb' sl' tr' bg' q1 q2 q3 => ?_)
                have e8 : nI (pre.length + 1) + (-1) = nI pre.length := pk_m1 _
                have e9 : ts_bk tr' (pre.length + 1) = nI (t + 1) := by
                  unfold ts_bk
                  rw [if_neg (by omega), Nat.add_sub_cancel, q2 pre.length t (by rw [List.getElem?_append_right (Nat.le_refl _), Nat.sub_self]; rfl), nI_1]
                rw [e8, e9]
                have hb2 : ∀ i, i ≤ pre.length → bg' i = bg i := by
                  intro i hi
                  rw [q3 i (by omega), pk_un (by omega)]
                refine ihk k' (by omega) (t + 1) (by omega) N (c + C (p + ln t)) _ sm' nb' sl' tr' bg' (ts_ft_AG _ _ hA (fun e he => ?_)) q1 (fun i x hx => ?_) (by rw [hb2 _ (Nat.le_refl _)]; exact hbg) (fun sm2 nb2 sl2 tr2 bg2 w1 w2 w3 => ?_)
                · obtain ⟨y, hy, rfl⟩ := List.mem_map.mp he
                  have := (kg.2.2 y hy).1
                  rw [List.length_append, plen]
                  omega
                · refine q2 i x ?_
                  rw [List.getElem?_append_left (ts_len_of hx)]
                  exact hx
                · have := hk sm2 nb2 sl2 tr2 bg2 w1 w2 (fun i hi => (w3 i hi).trans (hb2 i hi))
                  rw [← Nat.add_assoc] at this
                  exact this
            · have sk1 : ∀ G : Nat → Nat, ts_cf (ts_fit bx ln sp r n) ln G p f k = 0 := by
                intro G
                have := ts_cf_skip (F := ts_fit bx ln sp r n) (ln := ln) (C := G) (p := p) k f 0 (fun t' a b => hnone t' a (by omega))
                rw [Nat.add_zero] at this
                exact this
              have sk2 : ts_of (ts_fit bx ln sp r n) ln K p f k = [] := by
                have := ts_of_skip (F := ts_fit bx ln sp r n) (ln := ln) (K := K) (p := p) k f 0 (fun t' a b => hnone t' a (by omega))
                rw [Nat.add_zero] at this
                exact this
              rw [sk1, sk2] at hk
              rw [sk1]
              exact ⟨vd, br_f nb0 (ty_pop (by omega) (hk sm nb sl tr bg hKR hHd (fun _ _ => rfl)))⟩
        have hh := node T 0 (by omega) N c acc sm nb sl tr bg hA hKR hHd hbg
        rw [← hM p hpn, ts_K_abs hK hpn pre acc hA.1, ← hC.2 p hpn] at hh
        exact hh hk
  have fin := main n 0 (by omega) 1 0 [] [] a_sums a_numbers a_splits a_tried (upd a_begins 0 0) (Nat.le_refl 0) (fun t ht => absurd ht (List.not_mem_nil)) ⟨Nat.zero_le 6, List.Pairwise.nil, fun e he => absurd he (List.not_mem_nil)⟩ (fun i e he => by rw [List.getElem?_nil] at he; cases he) (ts_Hd_nil _) pk_us (fun sm' nb' sl' tr' bg' q1 q2 q3 => by
    rw [ts_K_self hK (Nat.zero_le n)] at q1 ⊢
    rw [Nat.zero_add]
    exact br_t (by decide) (h sm' nb' sl' tr' bg' q1))
  exact nm_e ⟨_, fin⟩
end
end
section
/-- what holds between two calls -/
def ts_I (w T tl rs : Nat) (WL WS LF RG PR SP LN LT TX RE : Nat → Nat) : Prop :=
  w ≤ 12 ∧ tl ≤ 12 ∧ rs ≤ 12 ∧ ts_En T LN (fun t i => SP (t * 8 + i)) ∧ (∀ t, t < T → ∀ i, i < LN t → LT (12 * t + i) = SP (t * 8 + i)) ∧ (∀ i, WL i < 6) ∧ (∀ i, WS i ≤ 8) ∧ (∀ t, LF t < 20) ∧ (∀ t, RG t < 20) ∧ (∀ t, PR t ≤ 99) ∧ (∀ j, SP j < 6) ∧ (∀ j, LT j < 6) ∧ (∀ i, TX i < 6) ∧ (∀ i, RE i < 20) ∧ (∀ t, 6 ≤ t → t < T → LF t < t ∧ RG t < t ∧ LN t = LN (LF t) + LN (RG t))
def i_Rel (k : Nat) (u : SX) (v : SY) : Prop :=
  ∃ (w T tl rs : Nat) (WL WS LF RG PR SP LN LT TX RE : Nat → Nat) (WC : Nat → Int32) (rlX msX : Int32) (rowX mdX pf wf sa sk st sr : Nat → Int32) (rlY mkY kpY : Int32) (rowY pt sm nb sl tr bg : Nat → Int32), u = (nI w, nI T, nI tl, nI rs, rlX, msX, ts_F WL, ts_F WS, WC, ts_F LF, ts_F RG, ts_F PR, ts_F SP, ts_F LN, ts_F TX, ts_F RE, rowX, mdX, pf, wf, sa, sk, st, sr) ∧ v = (nI w, nI T, nI tl, nI rs, rlY, -1, mkY, kpY, WC, ts_F WS, ts_F WL, ts_F LF, ts_F RG, ts_F PR, ts_F LN, ts_F LT, ts_F TX, ts_F RE, rowY, pt, sm, nb, sl, tr, bg) ∧ ts_I w T tl rs WL WS LF RG PR SP LN LT TX RE
theorem ts_mk {k : Nat} {w T tl rs : Nat} {WL WS LF RG PR SP LN LT TX RE : Nat → Nat} {WC : Nat → Int32} {rlX msX : Int32} {rowX mdX pf wf sa sk st sr : Nat → Int32} {rlY mkY kpY : Int32} {rowY pt sm nb sl tr bg : Nat → Int32} (hI : ts_I w T tl rs WL WS LF RG PR SP LN LT TX RE) : i_Rel k (nI w, nI T, nI tl, nI rs, rlX, msX, ts_F WL, ts_F WS, WC, ts_F LF, ts_F RG, ts_F PR, ts_F SP, ts_F LN, ts_F TX, ts_F RE, rowX, mdX, pf, wf, sa, sk, st, sr) (nI w, nI T, nI tl, nI rs, rlY, -1, mkY, kpY, WC, ts_F WS, ts_F WL, ts_F LF, ts_F RG, ts_F PR, ts_F LN, ts_F LT, ts_F TX, ts_F RE, rowY, pt, sm, nb, sl, tr, bg) := ⟨w, T, tl, rs, WL, WS, LF, RG, PR, SP, LN, LT, TX, RE, WC, rlX, msX, rowX, mdX, pf, wf, sa, sk, st, sr, rlY, mkY, kpY, rowY, pt, sm, nb, sl, tr, bg, rfl, rfl, hI⟩
theorem i_up {k : Nat} {u : SX} {v : SY} (h : i_Rel k u v) : i_Rel (k + 3) u v := h
def ts_p0 (c i : Nat) : Nat → Nat := fun j => if j < i then c else 0
theorem ts_p0_0 (c : Nat) : ts_F (ts_p0 c 0) = fun _ => 0 := by
  funext j
  show nI (if j < 0 then c else 0) = 0
  rw [if_neg (Nat.not_lt_zero j)]
  rfl
theorem ts_p0_s (c i : Nat) : ts_un (ts_p0 c i) i c = ts_p0 c (i + 1) := by
  funext j
  unfold ts_un ts_p0
  by_cases h : j = i
  · rw [if_pos h, if_pos (by omega)]
  · rw [if_neg h]
    by_cases h2 : j < i
    · rw [if_pos h2, if_pos (by omega)]
    · rw [if_neg h2, if_neg (by omega)]
def ts_s8 (i : Nat) : Nat → Nat := fun j => if j % 8 = 0 ∧ j / 8 < i then j / 8 else 0
def ts_s12 (i : Nat) : Nat → Nat := fun j => if j % 12 = 0 ∧ j / 12 < i then j / 12 else 0
theorem ts_s8_0 : ts_F (ts_s8 0) = fun _ => 0 := by
  funext j
  show nI (if j % 8 = 0 ∧ j / 8 < 0 then j / 8 else 0) = 0
  rw [if_neg (by omega)]
  rfl
theorem ts_s12_0 : ts_F (ts_s12 0) = fun _ => 0 := by
  funext j
  show nI (if j % 12 = 0 ∧ j / 12 < 0 then j / 12 else 0) = 0
  rw [if_neg (by omega)]
  rfl
theorem ts_s8_s (i : Nat) : ts_un (ts_s8 i) (i * 8) i = ts_s8 (i + 1) := by
  funext j
  unfold ts_un ts_s8
  by_cases h : j = i * 8
  · rw [if_pos h, if_pos (by omega)]
    omega
  · rw [if_neg h]
    by_cases h2 : j % 8 = 0 ∧ j / 8 < i
    · rw [if_pos h2, if_pos (by omega)]
    · rw [if_neg h2, if_neg (by omega)]
theorem ts_s12_s (i : Nat) : ts_un (ts_s12 i) (12 * i) i = ts_s12 (i + 1) := by
  funext j
  unfold ts_un ts_s12
  by_cases h : j = 12 * i
  · rw [if_pos h, if_pos (by omega)]
    omega
  · rw [if_neg h]
    by_cases h2 : j % 12 = 0 ∧ j / 12 < i
    · rw [if_pos h2, if_pos (by omega)]
    · rw [if_neg h2, if_neg (by omega)]
section
variable {f_words f_tokenCount f_textLength f_resultSize f_rowLength f_madeSize : Int32} {a_wordLetters a_wordLength a_wordCount a_leftOf a_rightOf a_priceOf a_spelling a_spellingLength a_text a_result a_row a_made a_pairFrequency a_waysFrom a_slotsAt a_slotKey a_slotToken a_slotRest : Nat → Int32}
theorem tx_init {post : SX → Prop} (h : post (f_words, f_tokenCount, f_textLength, f_resultSize, f_rowLength, f_madeSize, a_wordLetters, a_wordLength, a_wordCount, a_leftOf, a_rightOf, ts_F (ts_p0 20 6), ts_F (ts_s8 6), ts_F (ts_p0 1 6), a_text, a_result, a_row, a_made, a_pairFrequency, a_waysFrom, a_slotsAt, a_slotKey, a_slotToken, a_slotRest)) : ∀ d i, i + d = 6 → wX_init_183 post f_words f_tokenCount f_textLength f_resultSize f_rowLength f_madeSize (d + 1) (nI i) a_wordLetters a_wordLength a_wordCount a_leftOf a_rightOf (ts_F (ts_p0 20 i)) (ts_F (ts_s8 i)) (ts_F (ts_p0 1 i)) a_text a_result a_row a_made a_pairFrequency a_waysFrom a_slotsAt a_slotKey a_slotToken a_slotRest := by
  intro d
  induction d with
  | zero =>
    intro i hi
    have e : i = 6 := by omega
    subst e
    exact br_t (by decide) h
  | succ d ih =>
    intro i hi
    have e1 : (nI i).toNatClampNeg = i := nI_clamp (by omega)
    have e2 : nI i * 8 = nI (i * 8) := pk_mul i 8
    refine br_f (nI_ge (b := 6) (by omega) (by decide)) ⟨ts_v (by omega), nm_r (e' := ts_F (ts_p0 20 (i + 1))) ?_ ⟨by rw [e2]; exact ts_v (by omega), nm_r (e' := ts_F (ts_s8 (i + 1))) ?_ ⟨ts_v (by omega), nm_r (e' := ts_F (ts_p0 1 (i + 1))) ?_ (nm_r (nI_1 i) (ih (i + 1) (by omega)))⟩⟩⟩
    · rw [e1, ← ts_p0_s]; exact ts_F_up _ _ _
    · rw [e2, nI_clamp (by omega), ← ts_s8_s]; exact ts_F_up _ _ _
    · rw [e1, ← ts_p0_s]; exact ts_F_up _ _ _
end
section
variable {f_words f_tokens f_textSize f_resultSize f_rowSize f_barred f_made f_kept : Int32} {a_counts a_sizes a_spelled a_lefts a_rights a_prices a_lengths a_letters a_text a_result a_row a_parts a_sums a_numbers a_splits a_tried a_begins : Nat → Int32}
theorem ty_init {post : SY → Prop} (h : post (f_words, f_tokens, f_textSize, f_resultSize, f_rowSize, f_barred, f_made, f_kept, a_counts, a_sizes, a_spelled, a_lefts, a_rights, ts_F (ts_p0 20 6), ts_F (ts_p0 1 6), ts_F (ts_s12 6), a_text, a_result, a_row, a_parts, a_sums, a_numbers, a_splits, a_tried, a_begins)) : ∀ d i, i + d = 6 → wY_init_154 post f_words f_tokens f_textSize f_resultSize f_rowSize f_barred f_made f_kept (d + 1) (nI i) a_counts a_sizes a_spelled a_lefts a_rights (ts_F (ts_p0 20 i)) (ts_F (ts_p0 1 i)) (ts_F (ts_s12 i)) a_text a_result a_row a_parts a_sums a_numbers a_splits a_tried a_begins := by
  intro d
  induction d with
  | zero =>
    intro i hi
    have e : i = 6 := by omega
    subst e
    exact br_t (by decide) h
  | succ d ih =>
    intro i hi
    have e1 : (nI i).toNatClampNeg = i := nI_clamp (by omega)
    have e2 : 12 * nI i = nI (12 * i) := pk_mul 12 i
    refine br_f (nI_ge (b := 6) (by omega) (by decide)) ⟨ts_v (by omega), nm_r (e' := ts_F (ts_p0 20 (i + 1))) ?_ ⟨ts_v (by omega), nm_r (e' := ts_F (ts_p0 1 (i + 1))) ?_ ⟨by rw [e2]; exact ts_v (by omega), nm_r (e' := ts_F (ts_s12 (i + 1))) ?_ (nm_r (nI_1 i) (ih (i + 1) (by omega)))⟩⟩⟩
    · rw [e1, ← ts_p0_s]; exact ts_F_up _ _ _
    · rw [e1, ← ts_p0_s]; exact ts_F_up _ _ _
    · rw [e2, nI_clamp (by omega), ← ts_s12_s]; exact ts_F_up _ _ _
end
theorem ts_I0 : ts_I 0 6 0 0 (fun _ => 0) (fun _ => 0) (fun _ => 0) (fun _ => 0) (ts_p0 20 6) (ts_s8 6) (ts_p0 1 6) (ts_s12 6) (fun _ => 0) (fun _ => 0) := by
  have hp : ∀ t, t < 6 → ts_p0 1 6 t = 1 := fun t h => if_pos h
  have h8 : ∀ t, t < 6 → ts_s8 6 (t * 8 + 0) = t := by
    intro t h
    unfold ts_s8
    rw [if_pos (by omega)]
    omega
  have h12 : ∀ t, t < 6 → ts_s12 6 (12 * t + 0) = t := by
    intro t h
    unfold ts_s12
    rw [if_pos (by omega)]
    omega
  have z6 : ∀ _ : Nat, 0 < 6 := fun _ => by decide
  have z20 : ∀ _ : Nat, 0 < 20 := fun _ => by decide
  refine ⟨by decide, by decide, by decide, ⟨by decide, by decide, fun t h => by rw [hp t h]; exact Nat.le_refl 1, fun t => ?_, fun t h => ⟨hp t h, h8 t h⟩⟩, fun t h i hi => ?_, z6, fun _ => Nat.zero_le 8, z20, z20, fun t => ?_, fun j => ?_, fun j => ?_, z6, z20, fun t h1 h2 => absurd h2 (by omega)⟩
  · unfold ts_p0
    split <;> omega
  · rw [hp t h] at hi
    have : i = 0 := by omega
    subst this
    show ts_s12 6 (12 * t + 0) = ts_s8 6 (t * 8 + 0)
    rw [h8 t h, h12 t h]
  · unfold ts_p0
    split <;> omega
  · unfold ts_s8
    split <;> omega
  · unfold ts_s12
    split <;> omega
theorem i_vc0 : wpX_init (fun u => wpY_init (fun v => i_Rel 0 u v)) := by
  have H := fun post h => tx_init (post := post) (f_words := 0) (f_tokenCount := 6) (f_textLength := 0) (f_resultSize := 0) (f_rowLength := 0) (f_madeSize := 0) (a_wordLetters := fun _ => 0) (a_wordLength := fun _ => 0) (a_wordCount := fun _ => 0) (a_leftOf := fun _ => 0) (a_rightOf := fun _ => 0) (a_text := fun _ => 0) (a_result := fun _ => 0) (a_row := fun _ => 0) (a_made := fun _ => 0) (a_pairFrequency := fun _ => 0) (a_waysFrom := fun _ => 0) (a_slotsAt := fun _ => 0) (a_slotKey := fun _ => 0) (a_slotToken := fun _ => 0) (a_slotRest := fun _ => 0) h 6 0 rfl
  have G := fun post h => ty_init (post := post) (f_words := 0) (f_tokens := 6) (f_textSize := 0) (f_resultSize := 0) (f_rowSize := 0) (f_barred := -1) (f_made := 0) (f_kept := 0) (a_counts := fun _ => 0) (a_sizes := fun _ => 0) (a_spelled := fun _ => 0) (a_lefts := fun _ => 0) (a_rights := fun _ => 0) (a_text := fun _ => 0) (a_result := fun _ => 0) (a_row := fun _ => 0) (a_parts := fun _ => 0) (a_sums := fun _ => 0) (a_numbers := fun _ => 0) (a_splits := fun _ => 0) (a_tried := fun _ => 0) (a_begins := fun _ => 0) h 6 0 rfl
  simp only [ts_p0_0, ts_s8_0, ts_s12_0] at H G
  exact ⟨_, H _ ⟨_, G _ (ts_mk ts_I0)⟩⟩
theorem ts_5 {x : Int32} (h : nI 6 ≤ x) : ¬ x ≤ 5 := by
  intro z
  have a := Int32.le_iff_toInt_le.mp h
  have b := Int32.le_iff_toInt_le.mp z
  rw [show (nI 6).toInt = 6 by decide] at a
  rw [show (5 : Int32).toInt = 5 by decide] at b
  omega
theorem ts_lt {x : Int32} {T : Nat} (h : nI T ≤ x) : ¬ x < nI T := by
  intro z
  have a := Int32.le_iff_toInt_le.mp h
  have b := Int32.lt_iff_toInt_lt.mp z
  omega
theorem ts_10 : ¬ (1 : Int32) = 0 := by decide
section
variable {f_words f_tokenCount f_textLength f_resultSize f_rowLength f_madeSize : Int32} {a_wordLetters a_wordLength a_wordCount a_leftOf a_rightOf a_priceOf a_spelling a_spellingLength a_text a_result a_row a_made a_pairFrequency a_waysFrom a_slotsAt a_slotKey a_slotToken a_slotRest : Nat → Int32}
theorem tx_tok0 {post : Int32 → Prop} {x : Int32} {T : Nat} (h : x < 0 ∨ nI T ≤ x) (hp : post 0) : wpX_isToken post (f_words, nI T, f_textLength, f_resultSize, f_rowLength, f_madeSize, a_wordLetters, a_wordLength, a_wordCount, a_leftOf, a_rightOf, a_priceOf, a_spelling, a_spellingLength, a_text, a_result, a_row, a_made, a_pairFrequency, a_waysFrom, a_slotsAt, a_slotKey, a_slotToken, a_slotRest) x := by
  by_cases z : x < 0
  · exact br_t z hp
  · exact br_f z (br_t (h.resolve_left z) hp)
theorem tx_tok1 {post : Int32 → Prop} {j T : Nat} (hT : T ≤ 20) (h : j < T) (hp : post 1) : wpX_isToken post (f_words, nI T, f_textLength, f_resultSize, f_rowLength, f_madeSize, a_wordLetters, a_wordLength, a_wordCount, a_leftOf, a_rightOf, a_priceOf, a_spelling, a_spellingLength, a_text, a_result, a_row, a_made, a_pairFrequency, a_waysFrom, a_slotsAt, a_slotKey, a_slotToken, a_slotRest) (nI j) :=
  br_f (ts_nn (by omega)) (br_f (nI_ge h (by omega)) hp)
end
theorem tx_let0 {post : Int32 → Prop} {x : Int32} (h : x < 0 ∨ nI 6 ≤ x) (hp : post 0) : wpX_isLetter post x := by
  by_cases z : x < 0
  · exact br_t z hp
  · exact br_f z (br_t (h.resolve_left z) hp)
theorem tx_let1 {post : Int32 → Prop} {j : Nat} (h : j < 6) (hp : post 1) : wpX_isLetter post (nI j) :=
  br_f (ts_nn (by omega)) (br_f (nI_ge (b := 6) h (by omega)) hp)
section
variable {f_words f_tokens f_textSize f_resultSize f_rowSize f_barred f_made f_kept : Int32} {a_counts a_sizes a_spelled a_lefts a_rights a_prices a_lengths a_letters a_text a_result a_row a_parts a_sums a_numbers a_splits a_tried a_begins : Nat → Int32}
theorem ty_tok1 {post : Int32 → Prop} {x : Int32} {T : Nat} (h : x < 0 ∨ nI T ≤ x) (hp : post 1) : wpY_badToken post (f_words, nI T, f_textSize, f_resultSize, f_rowSize, f_barred, f_made, f_kept, a_counts, a_sizes, a_spelled, a_lefts, a_rights, a_prices, a_lengths, a_letters, a_text, a_result, a_row, a_parts, a_sums, a_numbers, a_splits, a_tried, a_begins) x := by
  by_cases z : x < 0
  · exact br_t z hp
  · exact br_f z (br_f (ts_lt (h.resolve_left z)) hp)
theorem ty_tok0 {post : Int32 → Prop} {j T : Nat} (hT : T ≤ 20) (h : j < T) (hp : post 0) : wpY_badToken post (f_words, nI T, f_textSize, f_resultSize, f_rowSize, f_barred, f_made, f_kept, a_counts, a_sizes, a_spelled, a_lefts, a_rights, a_prices, a_lengths, a_letters, a_text, a_result, a_row, a_parts, a_sums, a_numbers, a_splits, a_tried, a_begins) (nI j) :=
  br_f (ts_nn (by omega)) (br_t (nI_lt h (by omega)) hp)
theorem ty_let1 {post : Int32 → Prop} {x : Int32} (h : x < 0 ∨ nI 6 ≤ x) (hp : post 1) : wpY_badLetter post (f_words, f_tokens, f_textSize, f_resultSize, f_rowSize, f_barred, f_made, f_kept, a_counts, a_sizes, a_spelled, a_lefts, a_rights, a_prices, a_lengths, a_letters, a_text, a_result, a_row, a_parts, a_sums, a_numbers, a_splits, a_tried, a_begins) x := by
  by_cases z : x < 0
  · exact br_t z hp
  · exact br_f z (br_f (ts_5 (h.resolve_left z)) hp)
theorem ty_let0 {post : Int32 → Prop} {j : Nat} (h : j < 6) (hp : post 0) : wpY_badLetter post (f_words, f_tokens, f_textSize, f_resultSize, f_rowSize, f_barred, f_made, f_kept, a_counts, a_sizes, a_spelled, a_lefts, a_rights, a_prices, a_lengths, a_letters, a_text, a_result, a_row, a_parts, a_sums, a_numbers, a_splits, a_tried, a_begins) (nI j) :=
  br_f (ts_nn (by omega)) (br_t (nI_le (b := 5) (by omega) (by omega)) hp)
end
theorem ts_or {x : Int32} (N : Nat) (hN : N < 2 ^ 31) : (x < 0 ∨ nI N ≤ x) ∨ ∃ j, j < N ∧ x = nI j := by
  rcases pk_ix x hN with a | a | a
  · exact Or.inl (Or.inl a)
  · exact Or.inl (Or.inr a)
  · exact Or.inr a
end
section
theorem i_vc_word {k : Nat} {u : SX} {v : SY} (I : i_Rel k u v) (hk : k + 3 ≤ 1536) (v1 : Int32) : wpX_word (fun r u' => wpY_word (fun r' v' => r' = r ∧ i_Rel (k + 3) u' v') v v1) u v1 := by
  obtain ⟨w, T, tl, rs, WL, WS, LF, RG, PR, SP, LN, LT, TX, RE, WC, rlX, msX, rowX, mdX, pf, wf, sa, sk, st, sr, rlY, mkY, kpY, rowY, pt, sm, nb, sl, tr, bg, rfl, rfl, hI⟩ := I
  obtain ⟨hw, htl, hrs, hE, hag, hWL, hWS, hLF, hRG, hPR, hSP, hLT, hTX, hRE, hsum⟩ := id hI
  obtain ⟨h6, hT, hl1, hl8, hlet⟩ := id hE
  by_cases c1 : v1 < 1
  · exact br_t c1 (br_t c1 ⟨rfl, ts_mk hI⟩)
  by_cases c2 : v1 ≤ 50
  · by_cases c3 : w = 12
    · subst c3
      exact br_f c1 (br_t c2 (br_f (by decide) (br_f c1 (br_t c2 (br_t rfl ⟨rfl, ts_mk hI⟩)))))
    · have ew : (nI w).toNatClampNeg = w := nI_clamp (by omega)
      have e1 : upd WC (nI w).toNatClampNeg v1 = upd WC w v1 := by rw [ew]
      have e2 : upd (ts_F WS) (nI w).toNatClampNeg 0 = ts_F (ts_un WS w 0) := by
        rw [ew]
        exact ts_F_up WS w 0
      have nw : ¬ nI w = 12 := fun z => c3 ((nI_eq (b := 12) (by omega) (by decide)).mp z)
      refine br_f c1 (br_t c2 (br_t (nI_lt (b := 12) (by omega) (by decide)) ⟨ts_v (by omega), nm_r e1 ⟨ts_v (by omega), nm_r e2 (nm_r (nI_1 w) ?_)⟩⟩))
      exact br_f c1 (br_t c2 (br_f nw ⟨ts_v (by omega), nm_r e1 ⟨ts_v (by omega), nm_r e2 (nm_r (nI_1 w) ⟨rfl, ts_mk ⟨by omega, htl, hrs, hE, hag, hWL, ts_un_all (P := fun x => x ≤ 8) hWS (Nat.zero_le 8), hLF, hRG, hPR, hSP, hLT, hTX, hRE, hsum⟩⟩)⟩⟩))
  · exact br_f c1 (br_f c2 (br_f c1 (br_f c2 ⟨rfl, ts_mk hI⟩)))
theorem i_vc_spell {k : Nat} {u : SX} {v : SY} (I : i_Rel k u v) (hk : k + 3 ≤ 1536) (v1 : Int32) : wpX_spell (fun r u' => wpY_spell (fun r' v' => r' = r ∧ i_Rel (k + 3) u' v') v v1) u v1 := by
  unfold wpX_spell wpY_spell
  obtain ⟨w, T, tl, rs, WL, WS, LF, RG, PR, SP, LN, LT, TX, RE, WC, rlX, msX, rowX, mdX, pf, wf, sa, sk, st, sr, rlY, mkY, kpY, rowY, pt, sm, nb, sl, tr, bg, rfl, rfl, hI⟩ := I
  obtain ⟨hw, htl, hrs, hE, hag, hWL, hWS, hLF, hRG, hPR, hSP, hLT, hTX, hRE, hsum⟩ := id hI
  obtain ⟨h6, hT, hl1, hl8, hlet⟩ := id hE
  rcases ts_or (x := v1) 6 (by decide) with hb | ⟨j, hj, rfl⟩
  · refine tx_let0 hb ?_
    refine br_t rfl ?_
    refine ty_let1 hb ?_
    refine br_f ts_10 ?_
    exact ⟨rfl, ts_mk hI⟩
  · refine tx_let1 hj ?_
    refine br_f ts_10 ?_
    by_cases c1 : w = 0
    · subst c1
      refine br_t rfl ?_
      refine ty_let0 hj ?_
      refine br_t rfl ?_
      refine br_t rfl ?_
      exact ⟨rfl, ts_mk hI⟩
    · have nw : ¬ nI w = 0 := nI_ne0 (by omega) (by omega)
      have e0 : nI w - 1 = nI (w - 1) := ts_sub1 (by omega)
      have e1 : (nI (w - 1)).toNatClampNeg = w - 1 := nI_clamp (by omega)
      have s8 := hWS (w - 1)
      have e2 : ts_F WS (nI (w - 1)).toNatClampNeg = nI (WS (w - 1)) := by rw [e1]; rfl
      have vi : vp_in (nI (w - 1)) 12 := ts_v (by omega)
      refine br_f nw (nm_r e0 ⟨vi, ?_⟩)
      by_cases c2 : WS (w - 1) = 8
      · refine br_f (by rw [e2, c2]; decide) ?_
        refine ty_let0 hj ?_
        refine br_t rfl ?_
        refine br_f nw ?_
        refine nm_r e0 ?_
        exact ⟨vi, br_t (by rw [e2, c2]; rfl) ⟨rfl, ts_mk hI⟩⟩
      · have e3 : nI (w - 1) * 8 + ts_F WS (nI (w - 1)).toNatClampNeg = nI ((w - 1) * 8 + WS (w - 1)) := by rw [e2]; exact ts_ma 8 _ _
        have e4 : 8 * nI (w - 1) + ts_F WS (nI (w - 1)).toNatClampNeg = nI ((w - 1) * 8 + WS (w - 1)) := by
          rw [e2, Nat.mul_comm]
          exact ts_mb 8 _ _
        have e5 : upd (ts_F WL) (nI (w - 1) * 8 + ts_F WS (nI (w - 1)).toNatClampNeg).toNatClampNeg (nI j) = ts_F (ts_un WL ((w - 1) * 8 + WS (w - 1)) j) := by
          rw [e3, nI_clamp (by omega)]
          exact ts_F_up _ _ _
        have e6 : upd (ts_F WL) (8 * nI (w - 1) + ts_F WS (nI (w - 1)).toNatClampNeg).toNatClampNeg (nI j) = ts_F (ts_un WL ((w - 1) * 8 + WS (w - 1)) j) := by
          rw [e4, nI_clamp (by omega)]
          exact ts_F_up _ _ _
        have e7 : upd (ts_F WS) (nI (w - 1)).toNatClampNeg (ts_F WS (nI (w - 1)).toNatClampNeg + 1) = ts_F (ts_un WS (w - 1) (WS (w - 1) + 1)) := by
          rw [e2, e1, nI_1]
          exact ts_F_up _ _ _
        have n8 : ¬ ts_F WS (nI (w - 1)).toNatClampNeg = 8 := by
          rw [e2]
          exact fun z => c2 ((nI_eq (b := 8) (by omega) (by decide)).mp z)
        refine br_t (by rw [e2]; exact nI_lt (b := 8) (by omega) (by decide)) ⟨vi, by rw [e3]; exact ts_v (by omega), nm_r e5 ⟨vi, vi, nm_r e7 ⟨vi, ?_⟩⟩⟩
        refine ty_let0 hj ?_
        refine br_t rfl ?_
        refine br_f nw ?_
        refine nm_r e0 ?_
        exact ⟨vi, br_f n8 ⟨vi, by rw [e4]; exact ts_v (by omega), nm_r e6 ⟨vi, vi, nm_r e7 ⟨vi, rfl, ts_mk ⟨hw, htl, hrs, hE, hag, ts_un_all (P := fun x => x < 6) hWL hj, ts_un_all (P := fun x => x ≤ 8) hWS (by omega), hLF, hRG, hPR, hSP, hLT, hTX, hRE, hsum⟩⟩⟩⟩⟩
theorem i_vc_dropWord {k : Nat} {u : SX} {v : SY} (I : i_Rel k u v) (hk : k + 3 ≤ 1536) : wpX_dropWord (fun r u' => wpY_dropWord (fun r' v' => r' = r ∧ i_Rel (k + 3) u' v') v) u := by
  obtain ⟨w, T, tl, rs, WL, WS, LF, RG, PR, SP, LN, LT, TX, RE, WC, rlX, msX, rowX, mdX, pf, wf, sa, sk, st, sr, rlY, mkY, kpY, rowY, pt, sm, nb, sl, tr, bg, rfl, rfl, hI⟩ := I
  obtain ⟨hw, htl, hrs, hE, hag, hWL, hWS, hLF, hRG, hPR, hSP, hLT, hTX, hRE, hsum⟩ := id hI
  obtain ⟨h6, hT, hl1, hl8, hlet⟩ := id hE
  by_cases c1 : w = 0
  · subst c1
    exact br_t rfl (br_t rfl ⟨rfl, ts_mk hI⟩)
  · have nw : ¬ nI w = 0 := nI_ne0 (by omega) (by omega)
    have e0 : nI w - 1 = nI (w - 1) := ts_sub1 (by omega)
    exact br_f nw (nm_r e0 (br_f nw (nm_r e0 ⟨rfl, ts_mk ⟨by omega, htl, hrs, hE, hag, hWL, hWS, hLF, hRG, hPR, hSP, hLT, hTX, hRE, hsum⟩⟩)))
theorem i_vc_unlearn {k : Nat} {u : SX} {v : SY} (I : i_Rel k u v) (hk : k + 3 ≤ 1536) : wpX_unlearn (fun r u' => wpY_unlearn (fun r' v' => r' = r ∧ i_Rel (k + 3) u' v') v) u := by
  obtain ⟨w, T, tl, rs, WL, WS, LF, RG, PR, SP, LN, LT, TX, RE, WC, rlX, msX, rowX, mdX, pf, wf, sa, sk, st, sr, rlY, mkY, kpY, rowY, pt, sm, nb, sl, tr, bg, rfl, rfl, hI⟩ := I
  obtain ⟨hw, htl, hrs, hE, hag, hWL, hWS, hLF, hRG, hPR, hSP, hLT, hTX, hRE, hsum⟩ := id hI
  obtain ⟨h6, hT, hl1, hl8, hlet⟩ := id hE
  by_cases c1 : T = 6
  · subst c1
    exact br_f (by decide) (br_t rfl ⟨rfl, ts_mk hI⟩)
  · have e0 : nI T - 1 = nI (T - 1) := ts_sub1 (by omega)
    have nT : ¬ nI T = 6 := fun z => c1 ((nI_eq (b := 6) (by omega) (by decide)).mp z)
    refine br_t (nI_lt (a := 6) (by omega) (by omega)) (nm_r e0 (br_f nT (nm_r e0 ⟨rfl, ts_mk ⟨hw, htl, hrs, ⟨by omega, by omega, fun t ht => hl1 t (by omega), hl8, hlet⟩, fun t ht => hag t (by omega), hWL, hWS, hLF, hRG, hPR, hSP, hLT, hTX, hRE, fun t h1 h2 => hsum t h1 (by omega)⟩⟩)))
theorem i_vc_tokens {k : Nat} {u : SX} {v : SY} (I : i_Rel k u v) (hk : k + 3 ≤ 1536) : wpX_tokens (fun r => wpY_tokens (fun r' => r' = r ∧ i_Rel (k + 3) u v) v) u := by
  obtain ⟨w, T, tl, rs, WL, WS, LF, RG, PR, SP, LN, LT, TX, RE, WC, rlX, msX, rowX, mdX, pf, wf, sa, sk, st, sr, rlY, mkY, kpY, rowY, pt, sm, nb, sl, tr, bg, rfl, rfl, hI⟩ := I
  obtain ⟨hw, htl, hrs, hE, hag, hWL, hWS, hLF, hRG, hPR, hSP, hLT, hTX, hRE, hsum⟩ := id hI
  obtain ⟨h6, hT, hl1, hl8, hlet⟩ := id hE
  exact ⟨rfl, ts_mk hI⟩
theorem i_vc_left {k : Nat} {u : SX} {v : SY} (I : i_Rel k u v) (hk : k + 3 ≤ 1536) (v1 : Int32) : wpX_left (fun r => wpY_left (fun r' => r' = r ∧ i_Rel (k + 3) u v) v v1) u v1 := by
  unfold wpX_left wpY_left
  obtain ⟨w, T, tl, rs, WL, WS, LF, RG, PR, SP, LN, LT, TX, RE, WC, rlX, msX, rowX, mdX, pf, wf, sa, sk, st, sr, rlY, mkY, kpY, rowY, pt, sm, nb, sl, tr, bg, rfl, rfl, hI⟩ := I
  obtain ⟨hw, htl, hrs, hE, hag, hWL, hWS, hLF, hRG, hPR, hSP, hLT, hTX, hRE, hsum⟩ := id hI
  obtain ⟨h6, hT, hl1, hl8, hlet⟩ := id hE
  rcases ts_or (x := v1) T (by omega) with hb | ⟨j, hj, rfl⟩
  · refine tx_tok0 hb ?_
    refine br_t rfl ?_
    refine ty_tok1 hb ?_
    refine br_f ts_10 ?_
    exact ⟨rfl, ts_mk hI⟩
  · refine tx_tok1 hT hj ?_
    refine br_f ts_10 ?_
    by_cases c : j < 6
    · refine tx_let1 c ?_
      refine br_f ts_10 ?_
      refine ty_tok0 hT hj ?_
      refine br_t rfl ?_
      refine br_f (nI_ge (b := 6) c (by decide)) ?_
      exact ⟨rfl, ts_mk hI⟩
    · have c6 : nI 6 ≤ nI j := nI_le (by omega) (by omega)
      refine tx_let0 (Or.inr c6) ?_
      refine br_t rfl ?_
      exact ⟨ts_v (by omega), ty_tok0 hT hj (br_t rfl (br_t c6 ⟨ts_v (by omega), rfl, ts_mk hI⟩))⟩
theorem i_vc_right {k : Nat} {u : SX} {v : SY} (I : i_Rel k u v) (hk : k + 3 ≤ 1536) (v1 : Int32) : wpX_right (fun r => wpY_right (fun r' => r' = r ∧ i_Rel (k + 3) u v) v v1) u v1 := by
  unfold wpX_right wpY_right
  obtain ⟨w, T, tl, rs, WL, WS, LF, RG, PR, SP, LN, LT, TX, RE, WC, rlX, msX, rowX, mdX, pf, wf, sa, sk, st, sr, rlY, mkY, kpY, rowY, pt, sm, nb, sl, tr, bg, rfl, rfl, hI⟩ := I
  obtain ⟨hw, htl, hrs, hE, hag, hWL, hWS, hLF, hRG, hPR, hSP, hLT, hTX, hRE, hsum⟩ := id hI
  obtain ⟨h6, hT, hl1, hl8, hlet⟩ := id hE
  rcases ts_or (x := v1) T (by omega) with hb | ⟨j, hj, rfl⟩
  · refine tx_tok0 hb ?_
    refine br_t rfl ?_
    refine ty_tok1 hb ?_
    refine br_f ts_10 ?_
    exact ⟨rfl, ts_mk hI⟩
  · refine tx_tok1 hT hj ?_
    refine br_f ts_10 ?_
    by_cases c : j < 6
    · refine tx_let1 c ?_
      refine br_f ts_10 ?_
      refine ty_tok0 hT hj ?_
      refine br_t rfl ?_
      refine br_f (nI_ge (b := 6) c (by decide)) ?_
      exact ⟨rfl, ts_mk hI⟩
    · have c6 : nI 6 ≤ nI j := nI_le (by omega) (by omega)
      refine tx_let0 (Or.inr c6) ?_
      refine br_t rfl ?_
      exact ⟨ts_v (by omega), ty_tok0 hT hj (br_t rfl (br_t c6 ⟨ts_v (by omega), rfl, ts_mk hI⟩))⟩
theorem i_vc_length {k : Nat} {u : SX} {v : SY} (I : i_Rel k u v) (hk : k + 3 ≤ 1536) (v1 : Int32) : wpX_length (fun r => wpY_length (fun r' => r' = r ∧ i_Rel (k + 3) u v) v v1) u v1 := by
  unfold wpX_length wpY_length
  obtain ⟨w, T, tl, rs, WL, WS, LF, RG, PR, SP, LN, LT, TX, RE, WC, rlX, msX, rowX, mdX, pf, wf, sa, sk, st, sr, rlY, mkY, kpY, rowY, pt, sm, nb, sl, tr, bg, rfl, rfl, hI⟩ := I
  obtain ⟨hw, htl, hrs, hE, hag, hWL, hWS, hLF, hRG, hPR, hSP, hLT, hTX, hRE, hsum⟩ := id hI
  obtain ⟨h6, hT, hl1, hl8, hlet⟩ := id hE
  rcases ts_or (x := v1) T (by omega) with hb | ⟨j, hj, rfl⟩
  · refine tx_tok0 hb ?_
    refine br_t rfl ?_
    refine ty_tok1 hb ?_
    refine br_f ts_10 ?_
    exact ⟨rfl, ts_mk hI⟩
  · refine tx_tok1 hT hj ?_
    refine br_f ts_10 ?_
    exact ⟨ts_v (by omega), ty_tok0 hT hj (br_t rfl ⟨ts_v (by omega), rfl, ts_mk hI⟩)⟩
theorem i_vc_letter {k : Nat} {u : SX} {v : SY} (I : i_Rel k u v) (hk : k + 3 ≤ 1536) (v1 : Int32) (v2 : Int32) : wpX_letter (fun r => wpY_letter (fun r' => r' = r ∧ i_Rel (k + 3) u v) v v1 v2) u v1 v2 := by
  unfold wpX_letter wpY_letter
  obtain ⟨w, T, tl, rs, WL, WS, LF, RG, PR, SP, LN, LT, TX, RE, WC, rlX, msX, rowX, mdX, pf, wf, sa, sk, st, sr, rlY, mkY, kpY, rowY, pt, sm, nb, sl, tr, bg, rfl, rfl, hI⟩ := I
  obtain ⟨hw, htl, hrs, hE, hag, hWL, hWS, hLF, hRG, hPR, hSP, hLT, hTX, hRE, hsum⟩ := id hI
  obtain ⟨h6, hT, hl1, hl8, hlet⟩ := id hE
  rcases ts_or (x := v1) T (by omega) with hb | ⟨j, hj, rfl⟩
  · refine tx_tok0 hb ?_
    refine br_t rfl ?_
    refine ty_tok1 hb ?_
    refine br_f ts_10 ?_
    exact ⟨rfl, ts_mk hI⟩
  · refine tx_tok1 hT hj ?_
    refine br_f ts_10 ?_
    have l8 := hl8 j
    have el : ts_F LN (nI j).toNatClampNeg = nI (LN j) := by rw [nI_clamp (by omega)]; rfl
    have vj : vp_in (nI j) 20 := ts_v (by omega)
    by_cases c0 : v2 < 0
    · refine br_t c0 ?_
      refine ty_tok0 hT hj ?_
      refine br_t rfl ?_
      refine br_t c0 ?_
      exact ⟨rfl, ts_mk hI⟩
    · rcases ts_or (x := v2) (LN j) (by omega) with hb | ⟨i, hi, rfl⟩
      · have hn : ¬ v2 < ts_F LN (nI j).toNatClampNeg := by
          rw [el]
          exact ts_lt (hb.resolve_left c0)
        refine br_f c0 ?_
        exact ⟨vj, br_f hn (ty_tok0 hT hj (br_t rfl (br_f c0 ⟨vj, br_f hn ⟨rfl, ts_mk hI⟩⟩)))⟩
      · have hl : nI i < ts_F LN (nI j).toNatClampNeg := by
          rw [el]
          exact nI_lt hi (by omega)
        have e1 : nI j * 8 + nI i = nI (j * 8 + i) := ts_ma 8 j i
        have e2 : 12 * nI j + nI i = nI (12 * j + i) := ts_mb 12 j i
        refine br_f c0 ?_
        refine ⟨vj, br_t hl ⟨by rw [e1]; exact ts_v (by omega), ty_tok0 hT hj (br_t rfl (br_f c0 ⟨vj, br_t hl ⟨by rw [e2]; exact ts_v (by omega), ?_, ts_mk hI⟩⟩))⟩⟩
        rw [e1, e2, nI_clamp (by omega), nI_clamp (by omega)]
        exact congrArg nI (hag j hj i hi)
theorem i_vc_price {k : Nat} {u : SX} {v : SY} (I : i_Rel k u v) (hk : k + 3 ≤ 1536) (v1 : Int32) (v2 : Int32) : wpX_price (fun r u' => wpY_price (fun r' v' => r' = r ∧ i_Rel (k + 3) u' v') v v1 v2) u v1 v2 := by
  unfold wpX_price wpY_price
  obtain ⟨w, T, tl, rs, WL, WS, LF, RG, PR, SP, LN, LT, TX, RE, WC, rlX, msX, rowX, mdX, pf, wf, sa, sk, st, sr, rlY, mkY, kpY, rowY, pt, sm, nb, sl, tr, bg, rfl, rfl, hI⟩ := I
  obtain ⟨hw, htl, hrs, hE, hag, hWL, hWS, hLF, hRG, hPR, hSP, hLT, hTX, hRE, hsum⟩ := id hI
  obtain ⟨h6, hT, hl1, hl8, hlet⟩ := id hE
  rcases ts_or (x := v1) T (by omega) with hb | ⟨j, hj, rfl⟩
  · refine tx_tok0 hb ?_
    refine br_t rfl ?_
    refine ty_tok1 hb ?_
    refine br_f ts_10 ?_
    exact ⟨rfl, ts_mk hI⟩
  · refine tx_tok1 hT hj ?_
    refine br_f ts_10 ?_
    have vj : vp_in (nI j) 20 := ts_v (by omega)
    by_cases c1 : v2 < 1
    · refine br_t c1 ?_
      refine ty_tok0 hT hj ?_
      refine br_t rfl ?_
      refine br_t c1 ?_
      exact ⟨rfl, ts_mk hI⟩
    by_cases c2 : v2 ≤ 99
    · have n0 : ¬ v2 < 0 := by
        intro z
        apply c1
        have a := Int32.lt_iff_toInt_lt.mp z
        refine Int32.lt_iff_toInt_lt.mpr ?_
        rw [show (0 : Int32).toInt = 0 by decide] at a
        rw [show (1 : Int32).toInt = 1 by decide]
        omega
      obtain ⟨q, hq, rfl⟩ := nI_of2 (x := v2) (M := 99) (n := 99) (by decide) n0 c2
      have e1 : upd (ts_F PR) (nI j).toNatClampNeg (nI q) = ts_F (ts_un PR j q) := by
        rw [nI_clamp (by omega)]
        exact ts_F_up _ _ _
      refine br_f c1 (br_t c2 ⟨vj, nm_e ⟨vj, nm_r e1 ?_⟩⟩)
      refine ty_tok0 hT hj ?_
      refine br_t rfl ?_
      refine br_f c1 ?_
      refine br_t c2 ?_
      exact ⟨vj, nm_e ⟨vj, nm_r e1 ⟨rfl, ts_mk ⟨hw, htl, hrs, hE, hag, hWL, hWS, hLF, hRG, ts_un_all (P := fun x => x ≤ 99) hPR hq, hSP, hLT, hTX, hRE, hsum⟩⟩⟩⟩
    · refine br_f c1 ?_
      refine br_f c2 ?_
      refine ty_tok0 hT hj ?_
      refine br_t rfl ?_
      refine br_f c1 ?_
      refine br_f c2 ?_
      exact ⟨rfl, ts_mk hI⟩
theorem i_vc_type {k : Nat} {u : SX} {v : SY} (I : i_Rel k u v) (hk : k + 3 ≤ 1536) (v1 : Int32) : wpX_type (fun r u' => wpY_type (fun r' v' => r' = r ∧ i_Rel (k + 3) u' v') v v1) u v1 := by
  unfold wpX_type wpY_type
  obtain ⟨w, T, tl, rs, WL, WS, LF, RG, PR, SP, LN, LT, TX, RE, WC, rlX, msX, rowX, mdX, pf, wf, sa, sk, st, sr, rlY, mkY, kpY, rowY, pt, sm, nb, sl, tr, bg, rfl, rfl, hI⟩ := I
  obtain ⟨hw, htl, hrs, hE, hag, hWL, hWS, hLF, hRG, hPR, hSP, hLT, hTX, hRE, hsum⟩ := id hI
  obtain ⟨h6, hT, hl1, hl8, hlet⟩ := id hE
  rcases ts_or (x := v1) 6 (by decide) with hb | ⟨j, hj, rfl⟩
  · refine tx_let0 hb ?_
    refine br_t rfl ?_
    refine ty_let1 hb ?_
    refine br_f ts_10 ?_
    exact ⟨rfl, ts_mk hI⟩
  · refine tx_let1 hj ?_
    refine br_f ts_10 ?_
    by_cases c1 : tl = 12
    · subst c1
      refine br_f (by decide) ?_
      refine ty_let0 hj ?_
      refine br_t rfl ?_
      refine br_t rfl ?_
      exact ⟨rfl, ts_mk hI⟩
    · have e1 : upd (ts_F TX) (nI tl).toNatClampNeg (nI j) = ts_F (ts_un TX tl j) := by
        rw [nI_clamp (by omega)]
        exact ts_F_up _ _ _
      have nt : ¬ nI tl = 12 := fun z => c1 ((nI_eq (b := 12) (by omega) (by decide)).mp z)
      refine br_t (nI_lt (b := 12) (by omega) (by decide)) ⟨ts_v (by omega), nm_r e1 (nm_r (nI_1 tl) ?_)⟩
      refine ty_let0 hj ?_
      refine br_t rfl ?_
      refine br_f nt ?_
      exact ⟨ts_v (by omega), nm_r e1 (nm_r (nI_1 tl) ⟨rfl, ts_mk ⟨hw, by omega, hrs, hE, hag, hWL, hWS, hLF, hRG, hPR, hSP, hLT, ts_un_all (P := fun x => x < 6) hTX hj, hRE, hsum⟩⟩)⟩
theorem i_vc_wipe {k : Nat} {u : SX} {v : SY} (I : i_Rel k u v) (hk : k + 3 ≤ 1536) : wpX_wipe (fun r u' => wpY_wipe (fun r' v' => r' = r ∧ i_Rel (k + 3) u' v') v) u := by
  obtain ⟨w, T, tl, rs, WL, WS, LF, RG, PR, SP, LN, LT, TX, RE, WC, rlX, msX, rowX, mdX, pf, wf, sa, sk, st, sr, rlY, mkY, kpY, rowY, pt, sm, nb, sl, tr, bg, rfl, rfl, hI⟩ := I
  obtain ⟨hw, htl, hrs, hE, hag, hWL, hWS, hLF, hRG, hPR, hSP, hLT, hTX, hRE, hsum⟩ := id hI
  obtain ⟨h6, hT, hl1, hl8, hlet⟩ := id hE
  exact ⟨rfl, ts_mk (tl := 0) ⟨hw, Nat.zero_le 12, hrs, hE, hag, hWL, hWS, hLF, hRG, hPR, hSP, hLT, hTX, hRE, hsum⟩⟩
theorem i_vc_size {k : Nat} {u : SX} {v : SY} (I : i_Rel k u v) (hk : k + 3 ≤ 1536) : wpX_size (fun r => wpY_size (fun r' => r' = r ∧ i_Rel (k + 3) u v) v) u := by
  obtain ⟨w, T, tl, rs, WL, WS, LF, RG, PR, SP, LN, LT, TX, RE, WC, rlX, msX, rowX, mdX, pf, wf, sa, sk, st, sr, rlY, mkY, kpY, rowY, pt, sm, nb, sl, tr, bg, rfl, rfl, hI⟩ := I
  obtain ⟨hw, htl, hrs, hE, hag, hWL, hWS, hLF, hRG, hPR, hSP, hLT, hTX, hRE, hsum⟩ := id hI
  obtain ⟨h6, hT, hl1, hl8, hlet⟩ := id hE
  exact ⟨rfl, ts_mk hI⟩
theorem i_vc_at {k : Nat} {u : SX} {v : SY} (I : i_Rel k u v) (hk : k + 3 ≤ 1536) (v1 : Int32) : wpX_at (fun r => wpY_at (fun r' => r' = r ∧ i_Rel (k + 3) u v) v v1) u v1 := by
  obtain ⟨w, T, tl, rs, WL, WS, LF, RG, PR, SP, LN, LT, TX, RE, WC, rlX, msX, rowX, mdX, pf, wf, sa, sk, st, sr, rlY, mkY, kpY, rowY, pt, sm, nb, sl, tr, bg, rfl, rfl, hI⟩ := I
  obtain ⟨hw, htl, hrs, hE, hag, hWL, hWS, hLF, hRG, hPR, hSP, hLT, hTX, hRE, hsum⟩ := id hI
  obtain ⟨h6, hT, hl1, hl8, hlet⟩ := id hE
  by_cases c0 : v1 < 0
  · exact br_t c0 (br_t c0 ⟨rfl, ts_mk hI⟩)
  · rcases ts_or (x := v1) rs (by omega) with hb | ⟨i, hi, rfl⟩
    · have hn : ¬ v1 < nI rs := ts_lt (hb.resolve_left c0)
      exact br_f c0 (br_f hn (br_f c0 (br_f hn ⟨rfl, ts_mk hI⟩)))
    · have hl : nI i < nI rs := nI_lt hi (by omega)
      exact br_f c0 (br_t hl ⟨ts_v (by omega), br_f c0 (br_t hl ⟨ts_v (by omega), rfl, ts_mk hI⟩)⟩)
def ts_co (T : Nat) (PR RE : Nat → Nat) : Nat → Int32
  | 0 => 0
  | i + 1 => ts_co T PR RE i + (if RE i < T then nI (PR (RE i)) else 0)
section
variable {f_words f_tokenCount f_textLength f_resultSize f_rowLength f_madeSize : Int32} {a_wordLetters a_wordLength a_wordCount a_leftOf a_rightOf a_priceOf a_spelling a_spellingLength a_text a_result a_row a_made a_pairFrequency a_waysFrom a_slotsAt a_slotKey a_slotToken a_slotRest : Nat → Int32}
theorem tx_cost {post : Int32 → Prop} {T rs : Nat} {PR RE : Nat → Nat} (hT : T ≤ 20) (hrs : rs ≤ 12) (hRE : ∀ i, RE i < 20) (h : post (ts_co T PR RE rs)) : wpX_cost post (f_words, nI T, f_textLength, nI rs, f_rowLength, f_madeSize, a_wordLetters, a_wordLength, a_wordCount, a_leftOf, a_rightOf, ts_F PR, a_spelling, a_spellingLength, a_text, ts_F RE, a_row, a_made, a_pairFrequency, a_waysFrom, a_slotsAt, a_slotKey, a_slotToken, a_slotRest) := by
  have H : ∀ d i, i + d = rs → wX_cost_4 post f_words (nI T) f_textLength (nI rs) f_rowLength f_madeSize a_wordLetters a_wordLength a_wordCount a_leftOf a_rightOf (ts_F PR) a_spelling a_spellingLength a_text (ts_F RE) a_row a_made a_pairFrequency a_waysFrom a_slotsAt a_slotKey a_slotToken a_slotRest (d + 1) (ts_co T PR RE i) (nI i) := by
    intro d
    induction d with
    | zero =>
      intro i hi
      have e : i = rs := by omega
      subst e
      exact br_t (nI_le (Nat.le_refl i) (by omega)) h
    | succ d ih =>
      intro i hi
      have r20 := hRE i
      have e1 : ts_F RE (nI i).toNatClampNeg = nI (RE i) := by rw [nI_clamp (by omega)]; rfl
      have vi : vp_in (nI i) 12 := ts_v (by omega)
      have ih' : wX_cost_4 post f_words (nI T) f_textLength (nI rs) f_rowLength f_madeSize a_wordLetters a_wordLength a_wordCount a_leftOf a_rightOf (ts_F PR) a_spelling a_spellingLength a_text (ts_F RE) a_row a_made a_pairFrequency a_waysFrom a_slotsAt a_slotKey a_slotToken a_slotRest (d + 1) (ts_co T PR RE i + (if RE i < T then nI (PR (RE i)) else 0)) (nI (i + 1)) := ih (i + 1) (by omega)
      refine br_f (nI_ge (by omega) (by omega)) ⟨vi, ?_⟩
      by_cases c : RE i < T
      · rw [if_pos c] at ih'
        refine br_f (by rw [e1]; exact nI_ge c (by omega)) ⟨vi, by rw [e1]; exact ts_v r20, nm_r (e' := ts_co T PR RE i + nI (PR (RE i))) ?_ (nm_r (nI_1 i) ih')⟩
        rw [e1, nI_clamp (by omega)]
        rfl
      · rw [if_neg c, Int32.add_zero] at ih'
        exact br_t (by rw [e1]; exact nI_le (by omega) (by omega)) (nm_r (nI_1 i) ih')
  exact ⟨_, H rs 0 (by omega)⟩
end
section
variable {f_words f_tokens f_textSize f_resultSize f_rowSize f_barred f_made f_kept : Int32} {a_counts a_sizes a_spelled a_lefts a_rights a_prices a_lengths a_letters a_text a_result a_row a_parts a_sums a_numbers a_splits a_tried a_begins : Nat → Int32}
theorem ty_cost {post : Int32 → Prop} {T rs : Nat} {PR RE : Nat → Nat} (hT : T ≤ 20) (hrs : rs ≤ 12) (hRE : ∀ i, RE i < 20) (h : post (ts_co T PR RE rs)) : wpY_cost post (f_words, nI T, f_textSize, nI rs, f_rowSize, f_barred, f_made, f_kept, a_counts, a_sizes, a_spelled, a_lefts, a_rights, ts_F PR, a_lengths, a_letters, a_text, ts_F RE, a_row, a_parts, a_sums, a_numbers, a_splits, a_tried, a_begins) := by
  have H : ∀ d i, i + d = rs → wY_cost_4 post f_words (nI T) f_textSize (nI rs) f_rowSize f_barred f_made f_kept a_counts a_sizes a_spelled a_lefts a_rights (ts_F PR) a_lengths a_letters a_text (ts_F RE) a_row a_parts a_sums a_numbers a_splits a_tried a_begins (d + 1) (ts_co T PR RE i) (nI i) := by
    intro d
    induction d with
    | zero =>
      intro i hi
      have e : i = rs := by omega
      subst e
      exact br_t (nI_le (Nat.le_refl i) (by omega)) h
    | succ d ih =>
      intro i hi
      have r20 := hRE i
      have e1 : ts_F RE (nI i).toNatClampNeg = nI (RE i) := by rw [nI_clamp (by omega)]; rfl
      have vi : vp_in (nI i) 12 := ts_v (by omega)
      have ih' : wY_cost_4 post f_words (nI T) f_textSize (nI rs) f_rowSize f_barred f_made f_kept a_counts a_sizes a_spelled a_lefts a_rights (ts_F PR) a_lengths a_letters a_text (ts_F RE) a_row a_parts a_sums a_numbers a_splits a_tried a_begins (d + 1) (ts_co T PR RE i + (if RE i < T then nI (PR (RE i)) else 0)) (nI (i + 1)) := ih (i + 1) (by omega)
      refine br_f (nI_ge (by omega) (by omega)) ⟨vi, ?_⟩
      by_cases c : RE i < T
      · rw [if_pos c] at ih'
        refine br_f (by rw [e1]; exact nI_ge c (by omega)) ⟨vi, by rw [e1]; exact ts_v r20, nm_r (e' := ts_co T PR RE i + nI (PR (RE i))) ?_ (nm_r (nI_1 i) ih')⟩
        rw [e1, nI_clamp (by omega)]
        rfl
      · rw [if_neg c, Int32.add_zero] at ih'
        exact br_t (by rw [e1]; exact nI_le (by omega) (by omega)) (nm_r (nI_1 i) ih')
  exact ⟨_, H rs 0 (by omega)⟩
end
theorem i_vc_cost {k : Nat} {u : SX} {v : SY} (I : i_Rel k u v) (hk : k + 3 ≤ 1536) : wpX_cost (fun r => wpY_cost (fun r' => r' = r ∧ i_Rel (k + 3) u v) v) u := by
  obtain ⟨w, T, tl, rs, WL, WS, LF, RG, PR, SP, LN, LT, TX, RE, WC, rlX, msX, rowX, mdX, pf, wf, sa, sk, st, sr, rlY, mkY, kpY, rowY, pt, sm, nb, sl, tr, bg, rfl, rfl, hI⟩ := I
  obtain ⟨hw, htl, hrs, hE, hag, hWL, hWS, hLF, hRG, hPR, hSP, hLT, hTX, hRE, hsum⟩ := id hI
  obtain ⟨h6, hT, hl1, hl8, hlet⟩ := id hE
  exact tx_cost hT hrs hRE (ty_cost hT hrs hRE ⟨rfl, ts_mk hI⟩)
end
section
theorem tx_rank0 {post : Int32 → Prop} {x : Int32} (h : x < 0 ∨ nI 6 ≤ x) (hp : post 0) : wpX_isRank post x := by
  by_cases z : x < 0
  · exact br_t z hp
  · exact br_f z (br_t (h.resolve_left z) hp)
theorem tx_rank1 {post : Int32 → Prop} {j : Nat} (h : j < 6) (hp : post 1) : wpX_isRank post (nI j) :=
  br_f (ts_nn (by omega)) (br_f (nI_ge (b := 6) h (by omega)) hp)
theorem ts_2 {x : Int32} (h : nI 3 ≤ x) : ¬ x ≤ 2 := by
  intro z
  have a := Int32.le_iff_toInt_le.mp h
  have b := Int32.le_iff_toInt_le.mp z
  rw [show (nI 3).toInt = 3 by decide] at a
  rw [show (2 : Int32).toInt = 2 by decide] at b
  omega
theorem ts_2' {x : Int32} (h : nI 3 ≤ x) : 2 < x := by
  have a := Int32.le_iff_toInt_le.mp h
  rw [show (nI 3).toInt = 3 by decide] at a
  refine Int32.lt_iff_toInt_lt.mpr ?_
  rw [show (2 : Int32).toInt = 2 by decide]
  omega
theorem tx_way0 {post : Int32 → Prop} {x : Int32} (h : x < 0 ∨ nI 3 ≤ x) (hp : post 0) : wpX_isWay post x := by
  by_cases z : x < 0
  · exact br_t z hp
  · exact br_f z (br_t (ts_2' (h.resolve_left z)) hp)
theorem tx_way1 {post : Int32 → Prop} {j : Nat} (h : j < 3) (hp : post 1) : wpX_isWay post (nI j) :=
  br_f (ts_nn (by omega)) (br_f (nI_nlt (b := j) (a := 2) (by omega) (by decide)) hp)
/-- Y's guards, with the refusal -/
theorem ty_way0 {A B C : Prop} {x : Int32} (h : x < 0 ∨ nI 3 ≤ x) (ha : A) (hc : C) : (x < 0 → A) ∧ (¬ x < 0 → ((x ≤ 2 → B) ∧ (¬ x ≤ 2 → C))) := by
  by_cases z : x < 0
  · exact br_t z ha
  · exact br_f z (br_f (ts_2 (h.resolve_left z)) hc)
theorem ty_way1 {A B C : Prop} {j : Nat} (h : j < 3) (hb : B) : (nI j < 0 → A) ∧ (¬ nI j < 0 → ((nI j ≤ 2 → B) ∧ (¬ nI j ≤ 2 → C))) :=
  br_f (ts_nn (by omega)) (br_t (nI_le (b := 2) (by omega) (by decide)) hb)
theorem ty_rank0 {A B C : Prop} {x : Int32} (h : x < 0 ∨ nI 6 ≤ x) (ha : A) (hc : C) : (x < 0 → A) ∧ (¬ x < 0 → ((x ≤ 5 → B) ∧ (¬ x ≤ 5 → C))) := by
  by_cases z : x < 0
  · exact br_t z ha
  · exact br_f z (br_f (ts_5 (h.resolve_left z)) hc)
theorem ty_rank1 {A B C : Prop} {j : Nat} (h : j < 6) (hb : B) : (nI j < 0 → A) ∧ (¬ nI j < 0 → ((nI j ≤ 5 → B) ∧ (¬ nI j ≤ 5 → C))) :=
  br_f (ts_nn (by omega)) (br_t (nI_le (b := 5) (by omega) (by decide)) hb)
theorem ts_kdiv {pr : Nat → Nat} (hpr : ∀ t, pr t ≤ 99) {e : List Nat} (h : e.length ≤ 12) : nI (ts_ky pr e) / 16 = nI (ts_sp pr e) := by
  have b := ts_ky_b hpr h
  have := pk_div (a := ts_ky pr e) (d := 16) (by omega) (by decide) (by decide)
  rw [show ts_ky pr e / 16 = ts_sp pr e by unfold ts_ky; omega] at this
  exact this
theorem i_vc_frequency {k : Nat} {u : SX} {v : SY} (I : i_Rel k u v) (hk : k + 3 ≤ 1536) (v1 : Int32) (v2 : Int32) : wpX_frequency (fun r u' => wpY_frequency (fun r' v' => r' = r ∧ i_Rel (k + 3) u' v') v v1 v2) u v1 v2 := by
  unfold wpX_frequency wpY_frequency
  obtain ⟨w, T, tl, rs, WL, WS, LF, RG, PR, SP, LN, LT, TX, RE, WC, rlX, msX, rowX, mdX, pf, wf, sa, sk, st, sr, rlY, mkY, kpY, rowY, pt, sm, nb, sl, tr, bg, rfl, rfl, hI⟩ := I
  obtain ⟨hw, htl, hrs, hE, hag, hWL, hWS, hLF, hRG, hPR, hSP, hLT, hTX, hRE, hsum⟩ := id hI
  obtain ⟨h6, hT, hl1, hl8, hlet⟩ := id hE
  rcases ts_or (x := v1) T (by omega) with hb | ⟨x, hx, rfl⟩
  · refine tx_tok0 hb ?_
    refine br_t rfl ?_
    refine ty_tok1 hb ?_
    exact br_f ts_10 ⟨rfl, ts_mk hI⟩
  rcases ts_or (x := v2) T (by omega) with hb | ⟨y, hy, rfl⟩
  · refine tx_tok1 hT hx ?_
    refine br_f ts_10 ?_
    refine tx_tok0 hb ?_
    refine br_t rfl ?_
    refine ty_tok0 hT hx ?_
    refine br_t rfl ?_
    refine ty_tok1 hb ?_
    exact br_f ts_10 ⟨rfl, ts_mk hI⟩
  · have e : nI x * 20 + nI y = nI (x * 20 + y) := ts_ma 20 x y
    refine tx_tok1 hT hx ?_
    refine br_f ts_10 ?_
    refine tx_tok1 hT hy ?_
    refine br_f ts_10 ?_
    refine tx_countPairs hw h6 hT hWL hWS hLF hRG (fun rl ms row md pf hpf => ?_)
    refine ⟨by rw [e]; exact ts_v (by omega), ?_⟩
    refine ty_tok0 hT hx ?_
    refine br_t rfl ?_
    refine ty_tok0 hT hy ?_
    refine br_t rfl ?_
    refine ty_freq (by omega) (by omega) hw h6 hT hWL hWS hLF hRG (fun rl' ms' row' md' => ⟨?_, ts_mk hI⟩)
    rw [e, nI_clamp (by omega)]
    exact (hpf x y (by omega) (by omega)).symm
theorem i_vc_ways {k : Nat} {u : SX} {v : SY} (I : i_Rel k u v) (hk : k + 3 ≤ 1536) : wpX_ways (fun r u' => wpY_ways (fun r' v' => r' = r ∧ i_Rel (k + 3) u' v') v) u := by
  unfold wpY_ways
  obtain ⟨w, T, tl, rs, WL, WS, LF, RG, PR, SP, LN, LT, TX, RE, WC, rlX, msX, rowX, mdX, pf, wf, sa, sk, st, sr, rlY, mkY, kpY, rowY, pt, sm, nb, sl, tr, bg, rfl, rfl, hI⟩ := I
  obtain ⟨hw, htl, hrs, hE, hag, hWL, hWS, hLF, hRG, hPR, hSP, hLT, hTX, hRE, hsum⟩ := id hI
  have hFB : ts_FB (ts_fit (-1) LN (fun t i => SP (t * 8 + i)) TX tl) LN T tl := ts_En_FB hE
  obtain ⟨C, hC⟩ := ts_exC hFB
  obtain ⟨K, hK⟩ := ts_exK PR hFB
  refine tx_ways hE htl hSP hTX hC (fun i hi => rfl) (fun rw' wf => ?_)
  refine ty_takeText htl ?_
  exact ty_look hE htl hLT hag hTX (fun i hi => ts_cp_lt hi) hPR hK hC (fun sm nb sl tr bg _ => ⟨rfl, ts_mk hI⟩)
theorem i_vc_ranked {k : Nat} {u : SX} {v : SY} (I : i_Rel k u v) (hk : k + 3 ≤ 1536) (v1 : Int32) : wpX_ranked (fun r u' => wpY_ranked (fun r' v' => r' = r ∧ i_Rel (k + 3) u' v') v v1) u v1 := by
  unfold wpX_ranked wpY_ranked
  obtain ⟨w, T, tl, rs, WL, WS, LF, RG, PR, SP, LN, LT, TX, RE, WC, rlX, msX, rowX, mdX, pf, wf, sa, sk, st, sr, rlY, mkY, kpY, rowY, pt, sm, nb, sl, tr, bg, rfl, rfl, hI⟩ := I
  obtain ⟨hw, htl, hrs, hE, hag, hWL, hWS, hLF, hRG, hPR, hSP, hLT, hTX, hRE, hsum⟩ := id hI
  rcases ts_or (x := v1) 6 (by decide) with hb | ⟨j, hj, rfl⟩
  · refine tx_rank0 hb ?_
    refine br_t rfl ?_
    exact ty_rank0 hb ⟨rfl, ts_mk hI⟩ ⟨rfl, ts_mk hI⟩
  have hFB : ts_FB (ts_fit (-1) LN (fun t i => SP (t * 8 + i)) TX tl) LN T tl := ts_En_FB hE
  obtain ⟨C, hC⟩ := ts_exC hFB
  obtain ⟨K, hK⟩ := ts_exK PR hFB
  have kg := ts_K_good hFB hK tl 0 (by omega)
  have cj : (nI j).toNatClampNeg = j := nI_clamp (by omega)
  refine tx_rank1 hj ?_
  refine br_f ts_10 ?_
  refine tx_takeText htl ?_
  refine tx_rankSplits hE htl hSP hTX (fun i hi => ts_cp_lt hi) hPR hK (fun sa sk st sr hS => ?_)
  obtain ⟨s1, s2⟩ := hS 0 (Nat.le_refl 0) (Nat.zero_le _)
  by_cases c : (K 0).length ≤ j
  · refine br_t (by rw [s1]; exact nI_le c (by omega)) ?_
    refine ty_rank1 hj ?_
    refine ty_takeText htl ?_
    refine ty_look hE htl hLT hag hTX (fun i hi => ts_cp_lt hi) hPR hK hC (fun sm nb sl tr bg _ => ?_)
    exact br_t (nI_le c (by omega)) ⟨rfl, ts_mk hI⟩
  · obtain ⟨e, he⟩ : ∃ e, (K 0)[j]? = some e := ⟨(K 0)[j]'(by omega), List.getElem?_eq_getElem (by omega)⟩
    have el := (kg.2.2 e (List.mem_of_getElem? he)).1
    obtain ⟨g1, _⟩ := s2 j e he
    rw [Nat.zero_mul, Nat.zero_add] at g1
    refine br_f (by rw [s1]; exact nI_ge (by omega) (by omega)) ⟨ts_v (by omega), by decide, ?_⟩
    refine ty_rank1 hj ?_
    refine ty_takeText htl ?_
    refine ty_look hE htl hLT hag hTX (fun i hi => ts_cp_lt hi) hPR hK hC (fun sm nb sl tr bg hKR => ?_)
    refine br_f (nI_ge (by omega) (by omega)) ⟨ts_v (by omega), ?_, ts_mk hI⟩
    rw [cj, g1, (hKR j e he).1, ts_kdiv hPR (by omega)]
theorem i_vc_rankedAt {k : Nat} {u : SX} {v : SY} (I : i_Rel k u v) (hk : k + 3 ≤ 1536) (v1 : Int32) (v2 : Int32) : wpX_rankedAt (fun r u' => wpY_rankedAt (fun r' v' => r' = r ∧ i_Rel (k + 3) u' v') v v1 v2) u v1 v2 := by
  unfold wpX_rankedAt wpY_rankedAt
  obtain ⟨w, T, tl, rs, WL, WS, LF, RG, PR, SP, LN, LT, TX, RE, WC, rlX, msX, rowX, mdX, pf, wf, sa, sk, st, sr, rlY, mkY, kpY, rowY, pt, sm, nb, sl, tr, bg, rfl, rfl, hI⟩ := I
  obtain ⟨hw, htl, hrs, hE, hag, hWL, hWS, hLF, hRG, hPR, hSP, hLT, hTX, hRE, hsum⟩ := id hI
  rcases ts_or (x := v1) 6 (by decide) with hb | ⟨j, hj, rfl⟩
  · refine tx_rank0 hb ?_
    refine br_t rfl ?_
    exact ty_rank0 hb ⟨rfl, ts_mk hI⟩ ⟨rfl, ts_mk hI⟩
  have hFB : ts_FB (ts_fit (-1) LN (fun t i => SP (t * 8 + i)) TX tl) LN T tl := ts_En_FB hE
  obtain ⟨C, hC⟩ := ts_exC hFB
  obtain ⟨K, hK⟩ := ts_exK PR hFB
  have kg := ts_K_good hFB hK tl 0 (by omega)
  have cj : (nI j).toNatClampNeg = j := nI_clamp (by omega)
  refine tx_rank1 hj ?_
  refine br_f ts_10 ?_
  refine tx_takeText htl ?_
  refine tx_rankSplits hE htl hSP hTX (fun i hi => ts_cp_lt hi) hPR hK (fun sa sk st sr hS => ?_)
  obtain ⟨s1, s2⟩ := hS 0 (Nat.le_refl 0) (Nat.zero_le _)
  by_cases c : (K 0).length ≤ j
  · refine br_f (by rw [s1]; exact nI_nlt c (by omega)) ?_
    refine ty_rank1 hj ?_
    refine ty_takeText htl ?_
    refine ty_look hE htl hLT hag hTX (fun i hi => ts_cp_lt hi) hPR hK hC (fun sm nb sl tr bg _ => ?_)
    exact br_t (nI_le c (by omega)) ⟨rfl, ts_mk hI⟩
  · obtain ⟨e, he⟩ : ∃ e, (K 0)[j]? = some e := ⟨(K 0)[j]'(by omega), List.getElem?_eq_getElem (by omega)⟩
    have el := (kg.2.2 e (List.mem_of_getElem? he)).1
    obtain ⟨g1, g2⟩ := s2 j e he
    rw [Nat.zero_mul, Nat.zero_add] at g1 g2
    refine br_t (by rw [s1]; exact nI_lt (by omega) (by omega)) ?_
    refine tx_readSplit (by omega) (by omega) hPR g1 g2 (fun md hmd => ?_)
    by_cases c0 : v2 < 0
    · refine br_t c0 ?_
      refine ty_rank1 hj ?_
      refine ty_takeText htl ?_
      refine ty_look hE htl hLT hag hTX (fun i hi => ts_cp_lt hi) hPR hK hC (fun sm nb sl tr bg hKR => ?_)
      exact br_f (nI_ge (by omega) (by omega)) (br_t c0 ⟨rfl, ts_mk hI⟩)
    · refine br_f c0 ?_
      rcases ts_or (x := v2) e.length (by omega) with hb | ⟨i, hi, rfl⟩
      · refine br_t (hb.resolve_left c0) ?_
        refine ty_rank1 hj ?_
        refine ty_takeText htl ?_
        refine ty_look hE htl hLT hag hTX (fun i hi => ts_cp_lt hi) hPR hK hC (fun sm nb sl tr bg hKR => ?_)
        refine br_f (nI_ge (by omega) (by omega)) (br_f c0 ⟨ts_v (by omega), br_f ?_ ⟨rfl, ts_mk hI⟩⟩)
        rw [cj, (hKR j e he).2.1]
        exact ts_lt (hb.resolve_left c0)
      · obtain ⟨t, ht⟩ := ts_get hi
        have e1 : 12 * nI j + nI i = nI (12 * j + i) := ts_mb 12 j i
        refine br_f (nI_ge hi (by omega)) ⟨ts_v (by omega), ?_⟩
        refine ty_rank1 hj ?_
        refine ty_takeText htl ?_
        refine ty_look hE htl hLT hag hTX (fun i hi => ts_cp_lt hi) hPR hK hC (fun sm nb sl tr bg hKR => ?_)
        refine br_f (nI_ge (by omega) (by omega)) (br_f c0 ⟨ts_v (by omega), br_t ?_ ⟨by rw [e1]; exact ts_v (by omega), ?_, ts_mk hI⟩⟩)
        · rw [cj, (hKR j e he).2.1]
          exact nI_lt hi (by omega)
        · rw [e1, nI_clamp (by omega), nI_clamp (by omega), hmd i t ht]
          exact (hKR j e he).2.2 i t ht
end
section
section
variable {f_words f_tokens f_textSize f_resultSize f_rowSize f_barred f_made f_kept : Int32} {a_counts a_sizes a_spelled a_lefts a_rights a_prices a_lengths a_letters a_text a_result a_row a_parts a_sums a_numbers a_splits a_tried a_begins : Nat → Int32}
theorem ty_cheapest {post : SY → Prop} {T n : Nat} {bx : Int32} {ln LT r pr : Nat → Nat} {sp : Nat → Nat → Nat} {K : Nat → List (List Nat)} {C : Nat → Nat} {e : List Nat} (hE : ts_En T ln sp) (hn : n ≤ 12) (hLT : ∀ j, LT j < 6) (hsp : ∀ t, t < T → ∀ i, i < ln t → LT (12 * t + i) = sp t i) (hr : ∀ i, r i < 6) (hrow : ∀ i, i < n → a_row i = nI (r i)) (hpr : ∀ t, pr t ≤ 99)
    (hK : ts_TK (ts_fit bx ln sp r n) ln pr T n K) (hC : ts_TC (ts_fit bx ln sp r n) ln T n C) (he : (K 0)[0]? = some e) (hel : e.length ≤ 12)
    (h : ∀ kp pt sm nb sl tr bg, ts_Hd pt e → post (f_words, nI T, f_textSize, f_resultSize, nI n, bx, nI e.length, kp, a_counts, a_sizes, a_spelled, a_lefts, a_rights, ts_F pr, ts_F ln, ts_F LT, a_text, a_result, a_row, pt, sm, nb, sl, tr, bg)) :
    wpY_cheapest post (f_words, nI T, f_textSize, f_resultSize, nI n, bx, f_made, f_kept, a_counts, a_sizes, a_spelled, a_lefts, a_rights, ts_F pr, ts_F ln, ts_F LT, a_text, a_result, a_row, a_parts, a_sums, a_numbers, a_splits, a_tried, a_begins) := by
  unfold wpY_cheapest
  refine ty_look hE hn hLT hsp hr hrow hpr hK hC (fun sm nb sl tr bg hKR => ?_)
  obtain ⟨g1, g2, g3⟩ := hKR 0 e he
  have H : ∀ d i, i + d = e.length → wY_cheapest_17 post f_words (nI T) f_textSize f_resultSize (nI n) bx (nI e.length) (nI (K 0).length) (d + 1) (nI i) a_counts a_sizes a_spelled a_lefts a_rights (ts_F pr) (ts_F ln) (ts_F LT) a_text a_result a_row (ts_cp a_parts sl i) sm nb sl tr bg := by
    intro d
    induction d with
    | zero =>
      intro i hi
      have ei : i = e.length := by omega
      subst ei
      refine br_t (nI_le (Nat.le_refl _) (by omega)) (h _ _ _ _ _ _ _ (fun j x hx => ?_))
      rw [ts_cp_lt (ts_len_of hx)]
      have := g3 j x hx
      rw [Nat.mul_zero, Nat.zero_add] at this
      exact this
    | succ d ih =>
      intro i hi
      refine br_f (nI_ge (by omega) (by omega)) ⟨ts_v (by omega), ts_v (by omega), nm_r (e' := ts_cp a_parts sl (i + 1)) ?_ (nm_r (nI_1 i) (ih (i + 1) (by omega)))⟩
      rw [nI_clamp (by omega)]
      exact ts_cp_s _ _ _
  have H0 := H e.length 0 (by omega)
  rw [ts_cp_0] at H0
  exact nm_r g2 ⟨_, H0⟩
end
/-- one list for X's splitRow and Y's makeParts -/
theorem ts_way {T n j : Nat} {LF RG PR SP LN LT r : Nat → Nat} (hj : j < 3) (hn : n ≤ 12) (hE : ts_En T LN (fun t i => SP (t * 8 + i))) (hag : ∀ t, t < T → ∀ i, i < LN t → LT (12 * t + i) = SP (t * 8 + i)) (hLF : ∀ t, LF t < 20) (hRG : ∀ t, RG t < 20) (hPR : ∀ t, PR t ≤ 99) (hSP : ∀ j, SP j < 6) (hLT : ∀ j, LT j < 6) (hr : ∀ i, r i < 6) :
    ∃ l : List Nat, l.length ≤ n ∧ (∀ t ∈ l, t < T) ∧
    (∀ {f_words f_textLength f_resultSize f_madeSize : Int32} {a_wordLetters a_wordLength a_wordCount a_text a_result a_row a_made a_pairFrequency a_waysFrom a_slotsAt a_slotKey a_slotToken a_slotRest : Nat → Int32} {post : SX → Prop}, (∀ i, i < n → a_row i = nI (r i)) → (∀ md sa sk st sr, ts_Hd md l → post (f_words, nI T, f_textLength, f_resultSize, nI n, nI l.length, a_wordLetters, a_wordLength, a_wordCount, ts_F LF, ts_F RG, ts_F PR, ts_F SP, ts_F LN, a_text, a_result, a_row, md, a_pairFrequency, a_waysFrom, sa, sk, st, sr)) →
      wpX_splitRow post (f_words, nI T, f_textLength, f_resultSize, nI n, f_madeSize, a_wordLetters, a_wordLength, a_wordCount, ts_F LF, ts_F RG, ts_F PR, ts_F SP, ts_F LN, a_text, a_result, a_row, a_made, a_pairFrequency, a_waysFrom, a_slotsAt, a_slotKey, a_slotToken, a_slotRest) (nI j)) ∧
    (∀ {f_words f_textSize f_resultSize f_made f_kept : Int32} {a_counts a_sizes a_spelled a_text a_result a_row a_parts a_sums a_numbers a_splits a_tried a_begins : Nat → Int32} {post : SY → Prop}, (∀ i, i < n → a_row i = nI (r i)) → (∀ kp pt sm nb sl tr bg, ts_Hd pt l → post (f_words, nI T, f_textSize, f_resultSize, nI n, -1, nI l.length, kp, a_counts, a_sizes, a_spelled, ts_F LF, ts_F RG, ts_F PR, ts_F LN, ts_F LT, a_text, a_result, a_row, pt, sm, nb, sl, tr, bg)) →
      wpY_makeParts post (f_words, nI T, f_textSize, f_resultSize, nI n, -1, f_made, f_kept, a_counts, a_sizes, a_spelled, ts_F LF, ts_F RG, ts_F PR, ts_F LN, ts_F LT, a_text, a_result, a_row, a_parts, a_sums, a_numbers, a_splits, a_tried, a_begins) (nI j)) := by
  obtain ⟨h6, hT, hl1, hl8, hlet⟩ := id hE
  have hFB : ts_FB (ts_fit (-1) LN (fun t i => SP (t * 8 + i)) r n) LN T n := ts_En_FB hE
  have hl' := ts_En_let (bx := -1) (n := n) hE (fun t ht => ts_nb (by omega)) hr
  have n10 : ¬ nI 1 = 0 := by decide
  have n20 : ¬ nI 2 = 0 := by decide
  have n21 : ¬ nI 2 = 1 := by decide
  have n12 : ¬ nI 1 = 2 := by decide
  have n01 : ¬ nI 0 = 1 := by decide
  have n02 : ¬ nI 0 = 2 := by decide
  have h3 : j = 0 ∨ j = 1 ∨ j = 2 := by omega
  rcases h3 with e | e | e
  · subst e
    refine ⟨ts_mi LF RG (ts_rw r n) (T - 6), ?_, ?_, ?_, ?_⟩
    · have := ts_mi_len LF RG (ts_rw r n) (T - 6)
      rw [ts_rw_len] at this
      exact this
    · intro t ht
      have := ts_mi_lt LF RG (ts_rw r n) (fun e he => by obtain ⟨q, _, rfl⟩ := ts_rw_mem he; exact hr q) (T - 6) t ht
      omega
    · intros
      rename_i post hrow h
      unfold wpX_splitRow
      refine br_t rfl ?_
      exact tx_mergeRow h6 hT hn hr hrow hLF hRG (fun a ha => h _ _ _ _ _ ha)
    · intros
      rename_i post hrow h
      unfold wpY_makeParts
      refine br_t rfl ?_
      exact ty_merge h6 hT hn hr hrow hLF hRG (fun a ha => br_f n01 (br_f n02 (h _ _ _ _ _ _ _ ha)))
  · subst e
    obtain ⟨L, hL⟩ := ts_exL hFB hl'
    have lg := ts_L_good hFB hl' hL n 0 (by omega)
    refine ⟨L 0, lg.1, lg.2, ?_, ?_⟩
    · intros
      rename_i post hrow h
      unfold wpX_splitRow
      refine br_f n10 (br_t rfl ?_)
      exact tx_splitLongest hE hn hSP hr hrow hL (fun a ha => h _ _ _ _ _ ha)
    · intros
      rename_i post hrow h
      unfold wpY_makeParts
      refine br_f n10 (br_t rfl ?_)
      exact ty_takeLongest hE hn hLT hag hr hrow hL (fun a ha => br_f n12 (h _ _ _ _ _ _ _ ha))
  · subst e
    obtain ⟨C, hC⟩ := ts_exC hFB
    obtain ⟨K, hK⟩ := ts_exK PR hFB
    have kg := ts_K_good hFB hK n 0 (by omega)
    have kn := ts_K_ne hFB hK (fun p hp => ⟨_, hl' p hp⟩) n 0 (by omega)
    obtain ⟨e, he⟩ : ∃ e, (K 0)[0]? = some e := ⟨_, List.getElem?_eq_getElem (List.length_pos_iff.mpr kn)⟩
    have eg := kg.2.2 e (List.mem_of_getElem? he)
    refine ⟨e, eg.1, eg.2, ?_, ?_⟩
    · intros
      rename_i post hrow h
      unfold wpX_splitRow
      refine br_f n20 (br_f n21 ?_)
      refine tx_rankSplits hE hn hSP hr hrow hPR hK (fun sa sk st sr hS => ?_)
      obtain ⟨s1, s2⟩ := hS 0 (Nat.le_refl 0) (Nat.zero_le _)
      obtain ⟨g1, g2⟩ := s2 0 e he
      rw [Nat.zero_mul] at g1 g2
      exact tx_readSplit (k := 0) (by omega) (by omega) hPR g1 g2 (fun md hmd => h _ _ _ _ _ hmd)
    · intros
      rename_i post hrow h
      unfold wpY_makeParts
      refine br_f n20 (br_f n21 (br_t rfl ?_))
      exact ty_cheapest hE hn hLT hag hr hrow hPR hK hC he (by omega) (fun kp pt sm nb sl tr bg hpt => h _ _ _ _ _ _ _ hpt)
theorem ts_res {RE : Nat → Nat} {md : Nat → Int32} {l : List Nat} (h : ts_Hd md l) : ts_cp (ts_F RE) md l.length = ts_F (fun j => if j < l.length then l.getD j 0 else RE j) := by
  funext j
  unfold ts_cp ts_F
  dsimp only
  by_cases z : j < l.length
  · rw [if_pos z, if_pos z]
    refine h j _ ?_
    rw [List.getD_eq_getElem?_getD, List.getElem?_eq_getElem z]
    rfl
  · rw [if_neg z, if_neg z]
section
variable {f_words f_tokenCount f_textLength f_resultSize f_rowLength f_madeSize : Int32} {a_wordLetters a_wordLength a_wordCount a_leftOf a_rightOf a_priceOf a_spelling a_spellingLength a_text a_result a_row a_made a_pairFrequency a_waysFrom a_slotsAt a_slotKey a_slotToken a_slotRest : Nat → Int32}
theorem tx_splitc {post : Int32 → SX → Prop} {m : Nat} (hm : m ≤ 12) (h : post (nI m) (f_words, f_tokenCount, f_textLength, nI m, f_rowLength, nI m, a_wordLetters, a_wordLength, a_wordCount, a_leftOf, a_rightOf, a_priceOf, a_spelling, a_spellingLength, a_text, ts_cp a_result a_made m, a_row, a_made, a_pairFrequency, a_waysFrom, a_slotsAt, a_slotKey, a_slotToken, a_slotRest)) : ∃ n, wX_split_20 post f_words f_tokenCount f_textLength f_resultSize f_rowLength (nI m) n 0 a_wordLetters a_wordLength a_wordCount a_leftOf a_rightOf a_priceOf a_spelling a_spellingLength a_text a_result a_row a_made a_pairFrequency a_waysFrom a_slotsAt a_slotKey a_slotToken a_slotRest := by
  have H : ∀ d i, i + d = m → wX_split_20 post f_words f_tokenCount f_textLength f_resultSize f_rowLength (nI m) (d + 1) (nI i) a_wordLetters a_wordLength a_wordCount a_leftOf a_rightOf a_priceOf a_spelling a_spellingLength a_text (ts_cp a_result a_made i) a_row a_made a_pairFrequency a_waysFrom a_slotsAt a_slotKey a_slotToken a_slotRest := by
    intro d
    induction d with
    | zero =>
      intro i hi
      have e : i = m := by omega
      subst e
      exact br_t (nI_le (Nat.le_refl i) (by omega)) h
    | succ d ih =>
      intro i hi
      refine br_f (nI_ge (by omega) (by omega)) ⟨ts_v (by omega), ts_v (by omega), nm_r (e' := ts_cp a_result a_made (i + 1)) ?_ (nm_r (nI_1 i) (ih (i + 1) (by omega)))⟩
      rw [nI_clamp (by omega)]
      exact ts_cp_s _ _ _
  have := H m 0 (by omega)
  rw [ts_cp_0] at this
  exact ⟨_, this⟩
end
section
variable {f_words f_tokens f_textSize f_resultSize f_rowSize f_barred f_made f_kept : Int32} {a_counts a_sizes a_spelled a_lefts a_rights a_prices a_lengths a_letters a_text a_result a_row a_parts a_sums a_numbers a_splits a_tried a_begins : Nat → Int32}
theorem ty_splitc {post : Int32 → SY → Prop} {m : Nat} (hm : m ≤ 12) (h : post (nI m) (f_words, f_tokens, f_textSize, f_resultSize, f_rowSize, f_barred, nI m, f_kept, a_counts, a_sizes, a_spelled, a_lefts, a_rights, a_prices, a_lengths, a_letters, a_text, ts_cp a_result a_parts m, a_row, a_parts, a_sums, a_numbers, a_splits, a_tried, a_begins)) : ∃ n, wY_split_30 post f_words f_tokens f_textSize f_resultSize f_rowSize f_barred (nI m) f_kept n 0 a_counts a_sizes a_spelled a_lefts a_rights a_prices a_lengths a_letters a_text a_result a_row a_parts a_sums a_numbers a_splits a_tried a_begins := by
  have H : ∀ d i, i + d = m → wY_split_30 post f_words f_tokens f_textSize f_resultSize f_rowSize f_barred (nI m) f_kept (d + 1) (nI i) a_counts a_sizes a_spelled a_lefts a_rights a_prices a_lengths a_letters a_text (ts_cp a_result a_parts i) a_row a_parts a_sums a_numbers a_splits a_tried a_begins := by
    intro d
    induction d with
    | zero =>
      intro i hi
      have e : i = m := by omega
      subst e
      exact br_t (nI_le (Nat.le_refl i) (by omega)) h
    | succ d ih =>
      intro i hi
      refine br_f (nI_ge (by omega) (by omega)) ⟨ts_v (by omega), ts_v (by omega), nm_r (e' := ts_cp a_result a_parts (i + 1)) ?_ (nm_r (nI_1 i) (ih (i + 1) (by omega)))⟩
      rw [nI_clamp (by omega)]
      exact ts_cp_s _ _ _
  have := H m 0 (by omega)
  rw [ts_cp_0] at this
  exact ⟨_, this⟩
end
theorem i_vc_split {k : Nat} {u : SX} {v : SY} (I : i_Rel k u v) (hk : k + 3 ≤ 1536) (v1 : Int32) : wpX_split (fun r u' => wpY_split (fun r' v' => r' = r ∧ i_Rel (k + 3) u' v') v v1) u v1 := by
  unfold wpX_split wpY_split
  obtain ⟨w, T, tl, rs, WL, WS, LF, RG, PR, SP, LN, LT, TX, RE, WC, rlX, msX, rowX, mdX, pf, wf, sa, sk, st, sr, rlY, mkY, kpY, rowY, pt, sm, nb, sl, tr, bg, rfl, rfl, hI⟩ := I
  obtain ⟨hw, htl, hrs, hE, hag, hWL, hWS, hLF, hRG, hPR, hSP, hLT, hTX, hRE, hsum⟩ := id hI
  rcases ts_or (x := v1) 3 (by decide) with hb | ⟨j, hj, rfl⟩
  · refine tx_way0 hb ?_
    refine br_t rfl ?_
    exact ty_way0 hb ⟨rfl, ts_mk hI⟩ ⟨rfl, ts_mk hI⟩
  obtain ⟨l, l1, l2, lX, lY⟩ := ts_way (r := TX) hj htl hE hag hLF hRG hPR hSP hLT hTX
  refine tx_way1 hj ?_
  refine br_f ts_10 ?_
  refine tx_takeText htl ?_
  refine lX (fun i hi => ts_cp_lt hi) (fun md sa sk st sr hmd => ?_)
  refine tx_splitc (by omega) ?_
  refine ty_way1 hj ?_
  refine ty_takeText htl ?_
  refine lY (fun i hi => ts_cp_lt hi) (fun kp pt sm nb sl tr bg hpt => ?_)
  refine ty_splitc (by omega) ⟨rfl, ?_⟩
  rw [ts_res hmd, ts_res hpt]
  refine ts_mk ⟨hw, htl, by omega, hE, hag, hWL, hWS, hLF, hRG, hPR, hSP, hLT, hTX, fun i => ?_, hsum⟩
  show (if i < l.length then l.getD i 0 else RE i) < 20
  by_cases z : i < l.length
  · rw [if_pos z, List.getD_eq_getElem?_getD, List.getElem?_eq_getElem z]
    have := l2 l[i] (List.getElem_mem z)
    have := hE.2.1
    show l[i] < 20
    omega
  · rw [if_neg z]
    exact hRE i
end
section
def ts_ld (WC : Nat → Int32) (a : Nat → Nat) : Nat → Int32
  | 0 => 0
  | w + 1 => ts_ld WC a w + WC w * nI (a w)
theorem i_vc_load {k : Nat} {u : SX} {v : SY} (I : i_Rel k u v) (hk : k + 3 ≤ 1536) (v1 : Int32) : wpX_load (fun r u' => wpY_load (fun r' v' => r' = r ∧ i_Rel (k + 3) u' v') v v1) u v1 := by
  unfold wpX_load wpY_load
  obtain ⟨w, T, tl, rs, WL, WS, LF, RG, PR, SP, LN, LT, TX, RE, WC, rlX, msX, rowX, mdX, pf, wf, sa, sk, st, sr, rlY, mkY, kpY, rowY, pt, sm, nb, sl, tr, bg, rfl, rfl, hI⟩ := I
  obtain ⟨hw, htl, hrs, hE, hag, hWL, hWS, hLF, hRG, hPR, hSP, hLT, hTX, hRE, hsum⟩ := id hI
  rcases ts_or (x := v1) 3 (by decide) with hb | ⟨j, hj, rfl⟩
  · refine tx_way0 hb ?_
    refine br_t rfl ?_
    exact ty_way0 hb ⟨rfl, ts_mk hI⟩ ⟨rfl, ts_mk hI⟩
  have wy := fun q => ts_way (T := T) (n := WS q) (LF := LF) (RG := RG) (PR := PR) (SP := SP) (LN := LN) (LT := LT) (r := fun i => WL (q * 8 + i)) hj (Nat.le_trans (hWS q) (by decide)) hE hag hLF hRG hPR hSP hLT (fun i => hWL _)
  obtain ⟨l, hl⟩ := Classical.skolem.mp wy
  have HY : ∀ (post : Int32 → SY → Prop), (∀ rlY mkY kpY rowY pt sm nb sl tr bg, post (ts_ld WC (fun q => (l q).length) w) (nI w, nI T, nI tl, nI rs, rlY, -1, mkY, kpY, WC, ts_F WS, ts_F WL, ts_F LF, ts_F RG, ts_F PR, ts_F LN, ts_F LT, ts_F TX, ts_F RE, rowY, pt, sm, nb, sl, tr, bg)) → ∀ d q, q + d = w → ∀ rlY mkY kpY rowY pt sm nb sl tr bg, wY_load_15 post (nI j) (d + 1) (ts_ld WC (fun q => (l q).length) q) (nI q) (nI w) (nI T) (nI tl) (nI rs) rlY (-1) mkY kpY WC (ts_F WS) (ts_F WL) (ts_F LF) (ts_F RG) (ts_F PR) (ts_F LN) (ts_F LT) (ts_F TX) (ts_F RE) rowY pt sm nb sl tr bg := by
    intro post h d
    induction d with
    | zero =>
      intro q hq rlY mkY kpY rowY pt sm nb sl tr bg
      have e : q = w := by omega
      subst e
      exact br_t (nI_le (Nat.le_refl q) (by omega)) (h _ _ _ _ _ _ _ _ _ _)
    | succ d ih =>
      intro q hq rlY mkY kpY rowY pt sm nb sl tr bg
      refine br_f (nI_ge (by omega) (by omega)) ?_
      refine ty_takeWord (w := q) (m := WS q) (by omega) (hWS q) rfl ?_
      refine (hl q).2.2.2 (fun i hi => ts_cp_lt hi) (fun kp pt sm nb sl tr bg hpt => ?_)
      refine ⟨ts_v (by omega), nm_r (e' := ts_ld WC (fun q => (l q).length) (q + 1)) ?_ (nm_r (nI_1 q) (ih (q + 1) (by omega) _ _ _ _ _ _ _ _ _ _))⟩
      rw [nI_clamp (by omega)]
      rfl
  have HX : ∀ (post : Int32 → SX → Prop), (∀ rlX msX rowX mdX sa sk st sr, post (ts_ld WC (fun q => (l q).length) w) (nI w, nI T, nI tl, nI rs, rlX, msX, ts_F WL, ts_F WS, WC, ts_F LF, ts_F RG, ts_F PR, ts_F SP, ts_F LN, ts_F TX, ts_F RE, rowX, mdX, pf, wf, sa, sk, st, sr)) → ∀ d q, q + d = w → ∀ rlX msX rowX mdX sa sk st sr, wX_load_13 post (nI j) (d + 1) (ts_ld WC (fun q => (l q).length) q) (nI q) (nI w) (nI T) (nI tl) (nI rs) rlX msX (ts_F WL) (ts_F WS) WC (ts_F LF) (ts_F RG) (ts_F PR) (ts_F SP) (ts_F LN) (ts_F TX) (ts_F RE) rowX mdX pf wf sa sk st sr := by
    intro post h d
    induction d with
    | zero =>
      intro q hq rlX msX rowX mdX sa sk st sr
      have e : q = w := by omega
      subst e
      exact br_t (nI_le (Nat.le_refl q) (by omega)) (h _ _ _ _ _ _ _ _)
    | succ d ih =>
      intro q hq rlX msX rowX mdX sa sk st sr
      refine br_f (nI_ge (by omega) (by omega)) ?_
      refine tx_takeWord (w := q) (m := WS q) (by omega) (hWS q) rfl ?_
      refine (hl q).2.2.1 (fun i hi => ts_cp_lt hi) (fun md sa sk st sr hmd => ?_)
      refine ⟨ts_v (by omega), nm_r (e' := ts_ld WC (fun q => (l q).length) (q + 1)) ?_ (nm_r (nI_1 q) (ih (q + 1) (by omega) _ _ _ _ _ _ _ _))⟩
      rw [nI_clamp (by omega)]
      rfl
  refine tx_way1 hj ?_
  refine br_f ts_10 ?_
  refine ⟨_, HX _ (fun rlX msX rowX mdX sa sk st sr => ?_) w 0 (by omega) _ _ _ _ _ _ _ _⟩
  refine ty_way1 hj ?_
  exact ⟨_, HY _ (fun rlY mkY kpY rowY pt sm nb sl tr bg => ⟨rfl, ts_mk hI⟩) w 0 (by omega) _ _ _ _ _ _ _ _ _ _⟩
/-- one cheapest split for X's ranking and Y's search -/
theorem ts_exp {T n : Nat} {bx : Int32} {PR SP LN LT r : Nat → Nat} (hbx : ∀ t, t < 6 → ¬ nI t = bx) (hn : n ≤ 12) (hE : ts_En T LN (fun t i => SP (t * 8 + i))) (hag : ∀ t, t < T → ∀ i, i < LN t → LT (12 * t + i) = SP (t * 8 + i)) (hPR : ∀ t, PR t ≤ 99) (hSP : ∀ j, SP j < 6) (hLT : ∀ j, LT j < 6) (hr : ∀ i, r i < 6) :
    ∃ e : List Nat, e.length ≤ 12 ∧
    (∀ {f_words f_textLength f_resultSize f_madeSize : Int32} {a_wordLetters a_wordLength a_wordCount a_leftOf a_rightOf a_text a_result a_row a_made a_pairFrequency a_waysFrom a_slotsAt a_slotKey a_slotToken a_slotRest : Nat → Int32} {post : SX → Prop}, (∀ i, i < n → a_row i = nI (r i)) → (∀ sa sk st sr, sk 0 = nI (ts_ky PR e) → post (f_words, nI T, f_textLength, f_resultSize, nI n, f_madeSize, a_wordLetters, a_wordLength, a_wordCount, a_leftOf, a_rightOf, ts_F PR, ts_F SP, ts_F LN, a_text, a_result, a_row, a_made, a_pairFrequency, a_waysFrom, sa, sk, st, sr)) →
      wpX_rankSplits post (f_words, nI T, f_textLength, f_resultSize, nI n, f_madeSize, a_wordLetters, a_wordLength, a_wordCount, a_leftOf, a_rightOf, ts_F PR, ts_F SP, ts_F LN, a_text, a_result, a_row, a_made, a_pairFrequency, a_waysFrom, a_slotsAt, a_slotKey, a_slotToken, a_slotRest) bx) ∧
    (∀ {f_words f_textSize f_resultSize f_made f_kept : Int32} {a_counts a_sizes a_spelled a_lefts a_rights a_text a_result a_row a_parts a_sums a_numbers a_splits a_tried a_begins : Nat → Int32} {post : Int32 → SY → Prop}, (∀ i, i < n → a_row i = nI (r i)) → (∀ c kp sm nb sl tr bg, sm 0 = nI (ts_sp PR e) → post c (f_words, nI T, f_textSize, f_resultSize, nI n, bx, f_made, kp, a_counts, a_sizes, a_spelled, a_lefts, a_rights, ts_F PR, ts_F LN, ts_F LT, a_text, a_result, a_row, a_parts, sm, nb, sl, tr, bg)) →
      wpY_lookAtAll post (f_words, nI T, f_textSize, f_resultSize, nI n, bx, f_made, f_kept, a_counts, a_sizes, a_spelled, a_lefts, a_rights, ts_F PR, ts_F LN, ts_F LT, a_text, a_result, a_row, a_parts, a_sums, a_numbers, a_splits, a_tried, a_begins)) := by
  obtain ⟨h6, hT, hl1, hl8, hlet⟩ := id hE
  have hFB : ts_FB (ts_fit bx LN (fun t i => SP (t * 8 + i)) r n) LN T n := ts_En_FB hE
  have hl' := ts_En_let (bx := bx) (n := n) hE hbx hr
  obtain ⟨C, hC⟩ := ts_exC hFB
  obtain ⟨K, hK⟩ := ts_exK PR hFB
  have kg := ts_K_good hFB hK n 0 (by omega)
  have kn := ts_K_ne hFB hK (fun p hp => ⟨_, hl' p hp⟩) n 0 (by omega)
  obtain ⟨e, he⟩ : ∃ e, (K 0)[0]? = some e := ⟨_, List.getElem?_eq_getElem (List.length_pos_iff.mpr kn)⟩
  have eg := kg.2.2 e (List.mem_of_getElem? he)
  refine ⟨e, by omega, ?_, ?_⟩
  · intros
    rename_i post hrow h
    refine tx_rankSplits hE hn hSP hr hrow hPR hK (fun sa sk st sr hS => ?_)
    obtain ⟨s1, s2⟩ := hS 0 (Nat.le_refl 0) (Nat.zero_le _)
    obtain ⟨g1, _⟩ := s2 0 e he
    rw [Nat.zero_mul] at g1
    exact h _ _ _ _ g1
  · intros
    rename_i post hrow h
    refine ty_look hE hn hLT hag hr hrow hPR hK hC (fun sm nb sl tr bg hKR => ?_)
    exact h _ _ _ _ _ _ _ (hKR 0 e he).1
/-- one number for X's expenseWithout and Y's expense -/
theorem ts_expw {w T tl rs : Nat} {bx : Int32} {WL WS LF RG PR SP LN LT TX RE : Nat → Nat} {WC : Nat → Int32} (hbx : ∀ t, t < 6 → ¬ nI t = bx) (hI : ts_I w T tl rs WL WS LF RG PR SP LN LT TX RE) :
    ∃ a : Int32, (∀ {rlX msX : Int32} {rowX mdX pf wf sa sk st sr : Nat → Int32} {post : Int32 → SX → Prop}, (∀ rlX rowX sa sk st sr, post a (nI w, nI T, nI tl, nI rs, rlX, msX, ts_F WL, ts_F WS, WC, ts_F LF, ts_F RG, ts_F PR, ts_F SP, ts_F LN, ts_F TX, ts_F RE, rowX, mdX, pf, wf, sa, sk, st, sr)) → wpX_expenseWithout post (nI w, nI T, nI tl, nI rs, rlX, msX, ts_F WL, ts_F WS, WC, ts_F LF, ts_F RG, ts_F PR, ts_F SP, ts_F LN, ts_F TX, ts_F RE, rowX, mdX, pf, wf, sa, sk, st, sr) bx) ∧
      (∀ {rlY mkY kpY : Int32} {rowY pt sm nb sl tr bg : Nat → Int32} {post : Int32 → SY → Prop}, (∀ rlY kpY rowY sm nb sl tr bg, post a (nI w, nI T, nI tl, nI rs, rlY, bx, mkY, kpY, WC, ts_F WS, ts_F WL, ts_F LF, ts_F RG, ts_F PR, ts_F LN, ts_F LT, ts_F TX, ts_F RE, rowY, pt, sm, nb, sl, tr, bg)) → wpY_expense post (nI w, nI T, nI tl, nI rs, rlY, bx, mkY, kpY, WC, ts_F WS, ts_F WL, ts_F LF, ts_F RG, ts_F PR, ts_F LN, ts_F LT, ts_F TX, ts_F RE, rowY, pt, sm, nb, sl, tr, bg)) := by
  obtain ⟨hw, htl, hrs, hE, hag, hWL, hWS, hLF, hRG, hPR, hSP, hLT, hTX, hRE, hsum⟩ := id hI
  have wy := fun q => ts_exp (T := T) (bx := bx) (n := WS q) (PR := PR) (SP := SP) (LN := LN) (LT := LT) (r := fun i => WL (q * 8 + i)) hbx (Nat.le_trans (hWS q) (by decide)) hE hag hPR hSP hLT (fun i => hWL _)
  obtain ⟨l, hl⟩ := Classical.skolem.mp wy
  refine ⟨ts_ld WC (fun q => ts_sp PR (l q)) w, ?_, ?_⟩
  · intro rlX msX rowX mdX pf wf sa sk st sr post h
    have HX : ∀ d q, q + d = w → ∀ rlX rowX sa sk st sr, wX_expenseWithout_4 post bx (d + 1) (ts_ld WC (fun q => ts_sp PR (l q)) q) (nI q) (nI w) (nI T) (nI tl) (nI rs) rlX msX (ts_F WL) (ts_F WS) WC (ts_F LF) (ts_F RG) (ts_F PR) (ts_F SP) (ts_F LN) (ts_F TX) (ts_F RE) rowX mdX pf wf sa sk st sr := by
      intro d
      induction d with
      | zero =>
        intro q hq rlX rowX sa sk st sr
        have e : q = w := by omega
        subst e
        exact br_t (nI_le (Nat.le_refl q) (by omega)) (h _ _ _ _ _ _)
      | succ d ih =>
        intro q hq rlX rowX sa sk st sr
        refine br_f (nI_ge (by omega) (by omega)) ?_
        refine tx_takeWord (w := q) (m := WS q) (by omega) (hWS q) rfl ?_
        refine (hl q).2.1 (fun i hi => ts_cp_lt hi) (fun sa sk st sr hs => ?_)
        refine ⟨ts_v (by omega), by decide, nm_r (e' := ts_ld WC (fun q => ts_sp PR (l q)) (q + 1)) ?_ (nm_r (nI_1 q) (ih (q + 1) (by omega) _ _ _ _ _ _))⟩
        rw [nI_clamp (by omega), hs, ts_kdiv hPR (hl q).1]
        rfl
    exact ⟨_, HX w 0 (by omega) _ _ _ _ _ _⟩
  · intro rlY mkY kpY rowY pt sm nb sl tr bg post h
    have HY : ∀ d q, q + d = w → ∀ rlY kpY rowY sm nb sl tr bg, wY_expense_4 post (d + 1) (ts_ld WC (fun q => ts_sp PR (l q)) q) (nI q) (nI w) (nI T) (nI tl) (nI rs) rlY bx mkY kpY WC (ts_F WS) (ts_F WL) (ts_F LF) (ts_F RG) (ts_F PR) (ts_F LN) (ts_F LT) (ts_F TX) (ts_F RE) rowY pt sm nb sl tr bg := by
      intro d
      induction d with
      | zero =>
        intro q hq rlY kpY rowY sm nb sl tr bg
        have e : q = w := by omega
        subst e
        exact br_t (nI_le (Nat.le_refl q) (by omega)) (h _ _ _ _ _ _ _ _)
      | succ d ih =>
        intro q hq rlY kpY rowY sm nb sl tr bg
        refine br_f (nI_ge (by omega) (by omega)) ?_
        refine ty_takeWord (w := q) (m := WS q) (by omega) (hWS q) rfl ?_
        refine (hl q).2.2 (fun i hi => ts_cp_lt hi) (fun c kp sm nb sl tr bg hs => ?_)
        refine ⟨ts_v (by omega), nm_r (e' := ts_ld WC (fun q => ts_sp PR (l q)) (q + 1)) ?_ (nm_r (nI_1 q) (ih (q + 1) (by omega) _ _ _ _ _ _ _ _))⟩
        rw [nI_clamp (by omega), hs]
        rfl
    exact ⟨_, HY w 0 (by omega) _ _ _ _ _ _ _ _⟩
theorem i_vc_expense {k : Nat} {u : SX} {v : SY} (I : i_Rel k u v) (hk : k + 3 ≤ 1536) : wpX_expense (fun r u' => wpY_expense (fun r' v' => r' = r ∧ i_Rel (k + 3) u' v') v) u := by
  unfold wpX_expense
  obtain ⟨w, T, tl, rs, WL, WS, LF, RG, PR, SP, LN, LT, TX, RE, WC, rlX, msX, rowX, mdX, pf, wf, sa, sk, st, sr, rlY, mkY, kpY, rowY, pt, sm, nb, sl, tr, bg, rfl, rfl, hI⟩ := I
  obtain ⟨a, hX, hY⟩ := ts_expw (WC := WC) (bx := -1) (fun t ht => ts_nb (by omega)) hI
  exact hX (fun rlX rowX sa sk st sr => hY (fun rlY kpY rowY sm nb sl tr bg => ⟨rfl, ts_mk hI⟩))
theorem i_vc_worth {k : Nat} {u : SX} {v : SY} (I : i_Rel k u v) (hk : k + 3 ≤ 1536) (v1 : Int32) : wpX_worth (fun r u' => wpY_worth (fun r' v' => r' = r ∧ i_Rel (k + 3) u' v') v v1) u v1 := by
  unfold wpX_worth wpY_worth
  obtain ⟨w, T, tl, rs, WL, WS, LF, RG, PR, SP, LN, LT, TX, RE, WC, rlX, msX, rowX, mdX, pf, wf, sa, sk, st, sr, rlY, mkY, kpY, rowY, pt, sm, nb, sl, tr, bg, rfl, rfl, hI⟩ := I
  obtain ⟨hw, htl, hrs, hE, hag, hWL, hWS, hLF, hRG, hPR, hSP, hLT, hTX, hRE, hsum⟩ := id hI
  obtain ⟨h6, hT, hl1, hl8, hlet⟩ := id hE
  rcases ts_or (x := v1) T (by omega) with hb | ⟨j, hj, rfl⟩
  · refine tx_tok0 hb ?_
    refine br_t rfl ?_
    refine ty_tok1 hb ?_
    exact br_f ts_10 ⟨rfl, ts_mk hI⟩
  refine tx_tok1 hT hj ?_
  refine br_f ts_10 ?_
  by_cases c : j < 6
  · refine tx_let1 c ?_
    refine br_f ts_10 ?_
    refine ty_tok0 hT hj ?_
    refine br_t rfl ?_
    exact br_f (nI_ge (b := 6) c (by decide)) ⟨rfl, ts_mk hI⟩
  · have c6 : nI 6 ≤ nI j := nI_le (by omega) (by omega)
    obtain ⟨a, aX, aY⟩ := ts_expw (WC := WC) (bx := -1) (fun t ht => ts_nb (by omega)) hI
    obtain ⟨b, bX, bY⟩ := ts_expw (WC := WC) (bx := nI j) (fun t ht z => by have := (nI_eq (by omega) (by omega)).mp z; omega) hI
    refine tx_let0 (Or.inr c6) ?_
    refine br_t rfl ?_
    refine bX (fun rlX rowX sa sk st sr => ?_)
    refine aX (fun rlX rowX sa sk st sr => ?_)
    refine ty_tok0 hT hj ?_
    refine br_t rfl ?_
    refine br_t c6 ?_
    refine aY (fun rlY kpY rowY sm nb sl tr bg => ?_)
    refine bY (fun rlY kpY rowY sm nb sl tr bg => ?_)
    exact ⟨rfl, ts_mk hI⟩
end
section
theorem ts_argm {g : Nat → Nat → Int} {m b T : Nat} (hT6 : 6 ≤ T) (hT : T ≤ 20) (hm : m < 400) (hx : m / 20 < T) (hy : m % 20 < T) (hb : b < T * T)
    (a1 : ∀ j, j < 400 → g (j / 20) (j % 20) ≤ g (m / 20) (m % 20)) (a2 : ∀ j, j < m → g (j / 20) (j % 20) < g (m / 20) (m % 20))
    (b1 : ∀ j, j < T * T → g (j / T) (j % T) ≤ g (b / T) (b % T)) (b2 : ∀ j, j < b → g (j / T) (j % T) < g (b / T) (b % T)) : b / T = m / 20 ∧ b % T = m % 20 := by
  have hx' : b / T < T := Nat.div_lt_of_lt_mul hb
  have hy' : b % T < T := Nat.mod_lt _ (by omega)
  have eb : T * (b / T) + b % T = b := Nat.div_add_mod b T
  have em : 20 * (m / 20) + m % 20 = m := Nat.div_add_mod m 20
  generalize b / T = x' at *
  generalize b % T = y' at *
  generalize m / 20 = x at *
  generalize m % 20 = y at *
  have j1 := a1 (x' * 20 + y') (by omega)
  have j1' := a2 (x' * 20 + y')
  rw [show (x' * 20 + y') / 20 = x' by omega, show (x' * 20 + y') % 20 = y' by omega] at j1 j1'
  have q1 : (T * x + y) / T = x := by
    rw [Nat.mul_add_div (by omega), Nat.div_eq_of_lt hy, Nat.add_zero]
  have q2 : (T * x + y) % T = y := by
    rw [Nat.mul_add_mod, Nat.mod_eq_of_lt hy]
  have q3 : T * x + y < T * T := by
    have : T * x + T ≤ T * T := by
      have := Nat.mul_le_mul_left T (show x + 1 ≤ T from hx)
      rw [Nat.mul_add, Nat.mul_one] at this
      exact this
    omega
  have j2 := b1 (T * x + y) q3
  have j2' := b2 (T * x + y)
  rw [q1, q2] at j2 j2'
  have c1 : ¬ x' * 20 + y' < m := fun z => by have := j1' z; omega
  have c2 : ¬ T * x + y < b := fun z => by have := j2' z; omega
  have c3 : ¬ x < x' := by
    intro z
    have := Nat.mul_le_mul_left T (show x + 1 ≤ x' from z)
    rw [Nat.mul_add, Nat.mul_one] at this
    omega
  have c4 : x' = x := by omega
  subst c4
  exact ⟨rfl, by omega⟩
/-- a pair that occurs is of tokens, and spells at most eight letters -/
theorem ts_fq_pair {w T tl rs : Nat} {WL WS LF RG PR SP LN LT TX RE : Nat → Nat} {WC : Nat → Int32} (hI : ts_I w T tl rs WL WS LF RG PR SP LN LT TX RE) {x y : Nat} (h : ¬ ts_fq WC (ts_ML LF RG WL WS T) x y w = 0) : x < T ∧ y < T ∧ LN x + LN y ≤ 8 := by
  obtain ⟨hw, htl, hrs, hE, hag, hWL, hWS, hLF, hRG, hPR, hSP, hLT, hTX, hRE, hsum⟩ := id hI
  obtain ⟨h6, hT, hl1, hl8, hlet⟩ := id hE
  by_cases z : ∃ v i, (ts_ML LF RG WL WS T v)[i]? = some x ∧ (ts_ML LF RG WL WS T v)[i + 1]? = some y
  · obtain ⟨v, i, p1, p2⟩ := z
    refine ⟨ts_ML_lt v h6 hWL x (List.mem_of_getElem? p1), ts_ML_lt v h6 hWL y (List.mem_of_getElem? p2), ?_⟩
    have a := ts_sl_pair (ln := LN) _ i x y p1 p2
    have b := (ts_mi_all (ln := LN) (T := T) (lf := LF) (rg := RG) (l0 := ts_rw (fun i => WL (v * 8 + i)) (WS v)) (fun t q1 q2 => (hsum t q1 q2).2.2) (fun e he => by obtain ⟨q, _, rfl⟩ := ts_rw_mem he; exact hWL _) (T - 6) (by omega)).2.1
    have c := ts_sl_one (ln := LN) (ts_rw (fun i => WL (v * 8 + i)) (WS v)) (fun e he => by obtain ⟨q, _, rfl⟩ := ts_rw_mem he; exact (hlet _ (hWL _)).1)
    rw [ts_rw_len] at c
    have d := hWS v
    have a' : LN x + LN y ≤ ts_sl LN (ts_mi LF RG (ts_rw (fun i => WL (v * 8 + i)) (WS v)) (T - 6)) := a
    omega
  · exact absurd (ts_fq_0 w (fun v _ i q => z ⟨v, i, q⟩)) h
theorem ts_ap_all {P : Nat → Prop} {sp : Nat → Nat} (h : ∀ j, P (sp j)) (dst src m : Nat) : ∀ j, P (ts_ap sp dst src m j) := by
  intro j
  unfold ts_ap
  split
  · exact h _
  · exact h _
/-- what holds after a token was learned -/
theorem ts_I_learn {w T tl rs : Nat} {WL WS LF RG PR SP LN LT TX RE : Nat → Nat} (hI : ts_I w T tl rs WL WS LF RG PR SP LN LT TX RE) {x y : Nat} (hT : T < 20) (hx : x < T) (hy : y < T) (hl : LN x + LN y ≤ 8) :
    ts_I w (T + 1) tl rs WL WS (ts_un LF T x) (ts_un RG T y) (ts_un PR T 25) (ts_ap (ts_ap SP (T * 8 + 0) (x * 8) (LN x)) (T * 8 + LN x) (y * 8) (LN y)) (ts_un LN T (LN x + LN y)) (ts_ap (ts_ap LT (12 * T) (12 * x) (LN x)) (12 * T + LN x) (12 * y) (LN y)) TX RE := by
  obtain ⟨hw, htl, hrs, hE, hag, hWL, hWS, hLF, hRG, hPR, hSP, hLT, hTX, hRE, hsum⟩ := hI
  obtain ⟨h6, _, hl1, hl8, hlet⟩ := hE
  have lx := hl1 x hx
  have ly := hl1 y hy
  have l8x := hl8 x
  have l8y := hl8 y
  refine ⟨hw, htl, hrs, ⟨by omega, by omega, fun t ht => ?_, ts_un_all (P := fun z => z ≤ 8) hl8 hl, fun t ht => ⟨?_, ?_⟩⟩, fun t ht i hi => ?_, hWL, hWS, ts_un_all (P := fun z => z < 20) hLF (by omega), ts_un_all (P := fun z => z < 20) hRG (by omega), ts_un_all (P := fun z => z ≤ 99) hPR (by decide), ts_ap_all (P := fun z => z < 6) (ts_ap_all (P := fun z => z < 6) hSP _ _ _) _ _ _, ts_ap_all (P := fun z => z < 6) (ts_ap_all (P := fun z => z < 6) hLT _ _ _) _ _ _, hTX, hRE, fun t t6 ht => ?_⟩
  · by_cases z : t = T
    · rw [z, ts_un_s]; omega
    · rw [ts_un_n z]; exact hl1 t (by omega)
  · rw [ts_un_n (by omega)]; exact (hlet t ht).1
  · show ts_ap _ _ _ _ (t * 8 + 0) = t
    rw [ts_ap_lo (by omega), ts_ap_lo (by omega)]
    exact (hlet t ht).2
  · show _ = ts_ap _ _ _ _ (t * 8 + i)
    by_cases z : t = T
    · subst z
      rw [ts_un_s] at hi
      by_cases c : i < LN x
      · rw [ts_ap_lo (by omega), ts_ap_in c, ts_ap_lo (by omega), show t * 8 + i = t * 8 + 0 + i by omega, ts_ap_in c]
        exact hag x hx i c
      · obtain ⟨q, rfl⟩ : ∃ q, i = LN x + q := ⟨i - LN x, by omega⟩
        rw [← Nat.add_assoc, ts_ap_in (by omega), ts_ap_lo (by omega), ← Nat.add_assoc, ts_ap_in (by omega), ts_ap_lo (by omega)]
        exact hag y hy q (by omega)
    · rw [ts_un_n z] at hi
      have := hl8 t
      rw [ts_ap_lo (by omega), ts_ap_lo (by omega), ts_ap_lo (by omega), ts_ap_lo (by omega)]
      exact hag t (by omega) i hi
  · by_cases z : t = T
    · subst z
      rw [ts_un_s, ts_un_s, ts_un_s, ts_un_n (by omega), ts_un_n (by omega)]
      exact ⟨hx, hy, rfl⟩
    · obtain ⟨s1, s2, s3⟩ := hsum t t6 (by omega)
      rw [ts_un_n z, ts_un_n z, ts_un_n z, ts_un_n (by omega), ts_un_n (by omega)]
      exact ⟨s1, s2, s3⟩
section
variable {f_words f_tokens f_textSize f_resultSize f_rowSize f_barred f_made f_kept : Int32} {a_counts a_sizes a_spelled a_lefts a_rights a_prices a_lengths a_letters a_text a_result a_row a_parts a_sums a_numbers a_splits a_tried a_begins : Nat → Int32}
theorem ty_learn193 {post : Int32 → SY → Prop} {T x y : Nat} {ln LT : Nat → Nat} (hT : T < 20) (hx : x < T) (hy : y < T) (hl : ln x + ln y ≤ 8)
    (h : post (nI T) (f_words, nI (T + 1), f_textSize, f_resultSize, f_rowSize, f_barred, f_made, f_kept, a_counts, a_sizes, a_spelled, a_lefts, a_rights, a_prices, ts_F ln, ts_F (ts_ap LT (12 * T + ln x) (12 * y) (ln y)), a_text, a_result, a_row, a_parts, a_sums, a_numbers, a_splits, a_tried, a_begins)) :
    ∃ n, wY_learn_193 post (nI x) (nI y) f_words (nI T) f_textSize f_resultSize f_rowSize f_barred f_made f_kept n 0 a_counts a_sizes a_spelled a_lefts a_rights a_prices (ts_F ln) (ts_F LT) a_text a_result a_row a_parts a_sums a_numbers a_splits a_tried a_begins := by
  have ey : ts_F ln (nI y).toNatClampNeg = nI (ln y) := by rw [nI_clamp (by omega)]; rfl
  have ex : ts_F ln (nI x).toNatClampNeg = nI (ln x) := by rw [nI_clamp (by omega)]; rfl
  have H : ∀ d i, i + d = ln y → wY_learn_193 post (nI x) (nI y) f_words (nI T) f_textSize f_resultSize f_rowSize f_barred f_made f_kept (d + 1) (nI i) a_counts a_sizes a_spelled a_lefts a_rights a_prices (ts_F ln) (ts_F (ts_ap LT (12 * T + ln x) (12 * y) i)) a_text a_result a_row a_parts a_sums a_numbers a_splits a_tried a_begins := by
    intro d
    induction d with
    | zero =>
      intro i hi
      have e : i = ln y := by omega
      subst e
      refine ⟨ts_v (by omega), br_t (by rw [ey]; exact nI_le (Nat.le_refl _) (by omega)) (nm_r (nI_1 T) ?_)⟩
      rw [nI_pred]
      exact h
    | succ d ih =>
      intro i hi
      have e1 : 12 * nI y + nI i = nI (12 * y + i) := ts_mb 12 y i
      have e2 : 12 * nI T + ts_F ln (nI x).toNatClampNeg + nI i = nI (12 * T + ln x + i) := by
        rw [ex, show 12 * nI T + nI (ln x) = nI (12 * T + ln x) from ts_mb 12 T (ln x), nI_add]
      refine ⟨ts_v (by omega), br_f (by rw [ey]; exact nI_ge (by omega) (by omega)) ⟨ts_v (by omega), by rw [e1]; exact ts_v (by omega), by rw [e2]; exact ts_v (by omega), nm_r (e' := ts_F (ts_ap LT (12 * T + ln x) (12 * y) (i + 1))) ?_ (nm_r (nI_1 i) (ih (i + 1) (by omega)))⟩⟩
      rw [e1, e2, nI_clamp (by omega), nI_clamp (by omega)]
      show upd _ _ (nI (ts_ap LT (12 * T + ln x) (12 * y) i (12 * y + i))) = _
      rw [ts_ap_lo (by omega), ts_F_up, ts_ap_s]
  have := H (ln y) 0 (by omega)
  rw [ts_ap_0] at this
  exact ⟨_, this⟩
theorem ty_learn146 {post : Int32 → SY → Prop} {T x y : Nat} {ln LT : Nat → Nat} (hT : T < 20) (hx : x < T) (hy : y < T) (hl : ln x + ln y ≤ 8)
    (h : post (nI T) (f_words, nI (T + 1), f_textSize, f_resultSize, f_rowSize, f_barred, f_made, f_kept, a_counts, a_sizes, a_spelled, a_lefts, a_rights, a_prices, ts_F ln, ts_F (ts_ap (ts_ap LT (12 * T) (12 * x) (ln x)) (12 * T + ln x) (12 * y) (ln y)), a_text, a_result, a_row, a_parts, a_sums, a_numbers, a_splits, a_tried, a_begins)) :
    ∃ n, wY_learn_146 post (nI x) (nI y) f_words (nI T) f_textSize f_resultSize f_rowSize f_barred f_made f_kept n 0 a_counts a_sizes a_spelled a_lefts a_rights a_prices (ts_F ln) (ts_F LT) a_text a_result a_row a_parts a_sums a_numbers a_splits a_tried a_begins := by
  have ex : ts_F ln (nI x).toNatClampNeg = nI (ln x) := by rw [nI_clamp (by omega)]; rfl
  have H : ∀ d i, i + d = ln x → wY_learn_146 post (nI x) (nI y) f_words (nI T) f_textSize f_resultSize f_rowSize f_barred f_made f_kept (d + 1) (nI i) a_counts a_sizes a_spelled a_lefts a_rights a_prices (ts_F ln) (ts_F (ts_ap LT (12 * T) (12 * x) i)) a_text a_result a_row a_parts a_sums a_numbers a_splits a_tried a_begins := by
    intro d
    induction d with
    | zero =>
      intro i hi
      have e : i = ln x := by omega
      subst e
      exact ⟨ts_v (by omega), br_t (by rw [ex]; exact nI_le (Nat.le_refl _) (by omega)) (ty_learn193 hT hx hy hl h)⟩
    | succ d ih =>
      intro i hi
      have e1 : 12 * nI x + nI i = nI (12 * x + i) := ts_mb 12 x i
      have e2 : 12 * nI T + nI i = nI (12 * T + i) := ts_mb 12 T i
      refine ⟨ts_v (by omega), br_f (by rw [ex]; exact nI_ge (by omega) (by omega)) ⟨by rw [e1]; exact ts_v (by omega), by rw [e2]; exact ts_v (by omega), nm_r (e' := ts_F (ts_ap LT (12 * T) (12 * x) (i + 1))) ?_ (nm_r (nI_1 i) (ih (i + 1) (by omega)))⟩⟩
      rw [e1, e2, nI_clamp (by omega), nI_clamp (by omega)]
      show upd _ _ (nI (ts_ap LT (12 * T) (12 * x) i (12 * x + i))) = _
      rw [ts_ap_lo (by omega), ts_F_up, ts_ap_s]
  have := H (ln x) 0 (by omega)
  rw [ts_ap_0] at this
  exact ⟨_, this⟩
end
theorem ty_learn {w T tl rs : Nat} {WL WS LF RG PR SP LN LT TX RE : Nat → Nat} {WC : Nat → Int32} {rlY mkY kpY : Int32} {rowY pt sm nb sl tr bg : Nat → Int32} {post : Int32 → SY → Prop} (hI : ts_I w T tl rs WL WS LF RG PR SP LN LT TX RE)
    (h0 : (∀ j, j < T * T → (ts_fq WC (ts_ML LF RG WL WS T) (j / T) (j % T) w).toInt ≤ 1) → ∀ rlY mkY rowY pt, post (-2) (nI w, nI T, nI tl, nI rs, rlY, -1, mkY, kpY, WC, ts_F WS, ts_F WL, ts_F LF, ts_F RG, ts_F PR, ts_F LN, ts_F LT, ts_F TX, ts_F RE, rowY, pt, sm, nb, sl, tr, bg))
    (h1 : ∀ b, b < T * T → 1 < (ts_fq WC (ts_ML LF RG WL WS T) (b / T) (b % T) w).toInt → (∀ j, j < b → (ts_fq WC (ts_ML LF RG WL WS T) (j / T) (j % T) w).toInt < (ts_fq WC (ts_ML LF RG WL WS T) (b / T) (b % T) w).toInt) → (∀ j, j < T * T → (ts_fq WC (ts_ML LF RG WL WS T) (j / T) (j % T) w).toInt ≤ (ts_fq WC (ts_ML LF RG WL WS T) (b / T) (b % T) w).toInt) →
      ∀ rlY mkY rowY pt, (T = 20 → post (-3) (nI w, nI T, nI tl, nI rs, rlY, -1, mkY, kpY, WC, ts_F WS, ts_F WL, ts_F LF, ts_F RG, ts_F PR, ts_F LN, ts_F LT, ts_F TX, ts_F RE, rowY, pt, sm, nb, sl, tr, bg)) ∧ (T < 20 → post (nI T) (nI w, nI (T + 1), nI tl, nI rs, rlY, -1, mkY, kpY, WC, ts_F WS, ts_F WL, ts_F (ts_un LF T (b / T)), ts_F (ts_un RG T (b % T)), ts_F (ts_un PR T 25), ts_F (ts_un LN T (LN (b / T) + LN (b % T))), ts_F (ts_ap (ts_ap LT (12 * T) (12 * (b / T)) (LN (b / T))) (12 * T + LN (b / T)) (12 * (b % T)) (LN (b % T))), ts_F TX, ts_F RE, rowY, pt, sm, nb, sl, tr, bg))) :
    wpY_learn post (nI w, nI T, nI tl, nI rs, rlY, -1, mkY, kpY, WC, ts_F WS, ts_F WL, ts_F LF, ts_F RG, ts_F PR, ts_F LN, ts_F LT, ts_F TX, ts_F RE, rowY, pt, sm, nb, sl, tr, bg) := by
  obtain ⟨hw, htl, hrs, hE, hag, hWL, hWS, hLF, hRG, hPR, hSP, hLT, hTX, hRE, hsum⟩ := id hI
  obtain ⟨h6, hT, hl1, hl8, hlet⟩ := id hE
  have TT : T * T ≤ 400 := Nat.mul_le_mul hT hT
  have eT : nI T * nI T = nI (T * T) := pk_mul T T
  have nT : ¬ nI T = 0 := nI_ne0 (by omega) (by omega)
  have cT : (nI T).toNatClampNeg = T := nI_clamp (by omega)
  have i1 : (1 : Int32).toInt = 1 := by decide
  have H : ∀ d q, q + d = T * T → ∀ best most rlY mkY rowY pt,
      ((best = -1 ∧ most = 1 ∧ ∀ j, j < q → (ts_fq WC (ts_ML LF RG WL WS T) (j / T) (j % T) w).toInt ≤ 1) ∨ (∃ b, best = nI b ∧ b < q ∧ most = ts_fq WC (ts_ML LF RG WL WS T) (b / T) (b % T) w ∧ 1 < (ts_fq WC (ts_ML LF RG WL WS T) (b / T) (b % T) w).toInt ∧ (∀ j, j < b → (ts_fq WC (ts_ML LF RG WL WS T) (j / T) (j % T) w).toInt < (ts_fq WC (ts_ML LF RG WL WS T) (b / T) (b % T) w).toInt) ∧ ∀ j, j < q → (ts_fq WC (ts_ML LF RG WL WS T) (j / T) (j % T) w).toInt ≤ (ts_fq WC (ts_ML LF RG WL WS T) (b / T) (b % T) w).toInt)) →
      wY_learn_6 post (d + 1) best most (nI q) (nI w) (nI T) (nI tl) (nI rs) rlY (-1) mkY kpY WC (ts_F WS) (ts_F WL) (ts_F LF) (ts_F RG) (ts_F PR) (ts_F LN) (ts_F LT) (ts_F TX) (ts_F RE) rowY pt sm nb sl tr bg := by
    intro d
    induction d with
    | zero =>
      intro q hq best most rlY mkY rowY pt hh
      have e : q = T * T := by omega
      subst e
      refine br_t (by rw [eT]; exact nI_le (Nat.le_refl _) (by omega)) ?_
      rcases hh with ⟨rfl, rfl, hj⟩ | ⟨b, rfl, hb, rfl, hb1, hb2, hb3⟩
      · exact br_f (by decide) (h0 hj _ _ _ _)
      · obtain ⟨k1, k2⟩ := h1 b hb hb1 hb2 hb3 rlY mkY rowY pt
        refine br_t (nI_pos' (by omega)) ?_
        by_cases c : T = 20
        · exact br_t (by rw [c]; rfl) (k1 c)
        · have k3 := k2 (by omega)
          have hfq : ¬ ts_fq WC (ts_ML LF RG WL WS T) (b / T) (b % T) w = 0 := by
            intro z
            rw [z] at hb1
            exact absurd hb1 (by decide)
          obtain ⟨p1, p2, p3⟩ := ts_fq_pair hI hfq
          have ed : nI b / nI T = nI (b / T) := pk_div (by omega) (by omega) (by omega)
          have er : nI b - nI b / nI T * nI T = nI (b % T) := pk_rem (by omega) (by omega) (by omega)
          have vT : vp_in (nI T) 20 := ts_v (by omega)
          have u1 : ts_un LN T (LN (b / T) + LN (b % T)) (b / T) = LN (b / T) := ts_un_n (by omega)
          have u2 : ts_un LN T (LN (b / T) + LN (b % T)) (b % T) = LN (b % T) := ts_un_n (by omega)
          refine br_f (fun z => c ((nI_eq (b := 20) (by omega) (by decide)).mp z)) ⟨nT, nm_r ed ⟨nT, nm_r er ⟨vT, nm_r (e' := ts_F (ts_un LF T (b / T))) (by rw [cT]; exact ts_F_up _ _ _) ⟨vT, nm_r (e' := ts_F (ts_un RG T (b % T))) (by rw [cT]; exact ts_F_up _ _ _) ⟨vT, nm_r (e' := ts_F (ts_un PR T 25)) (by rw [cT]; exact ts_F_up PR T 25) ⟨ts_v (by omega), ts_v (by omega), vT, nm_r (e' := ts_F (ts_un LN T (LN (b / T) + LN (b % T)))) ?_ ?_⟩⟩⟩⟩⟩⟩
          · rw [cT, nI_clamp (by omega), nI_clamp (by omega)]
            show upd _ _ (nI (LN (b / T)) + nI (LN (b % T))) = _
            rw [nI_add]
            exact ts_F_up _ _ _
          · refine ty_learn146 (by omega) p1 p2 (by rw [u1, u2]; exact p3) ?_
            rw [u1, u2]
            exact k3
    | succ d ih =>
      intro q hq best most rlY mkY rowY pt hh
      have ed : nI q / nI T = nI (q / T) := pk_div (by omega) (by omega) (by omega)
      have er : nI q - nI q / nI T * nI T = nI (q % T) := pk_rem (by omega) (by omega) (by omega)
      have hqd : q / T < T := Nat.div_lt_of_lt_mul (by omega)
      have hqm : q % T < T := Nat.mod_lt _ (by omega)
      refine br_f (by rw [eT]; exact nI_ge (by omega) (by omega)) ⟨nT, nT, ?_⟩
      rw [er, ed]
      refine ty_freq (by omega) (by omega) hw h6 hT hWL hWS hLF hRG (fun rl' ms' row' md' => ?_)
      by_cases c : (ts_fq WC (ts_ML LF RG WL WS T) (q / T) (q % T) w).toInt ≤ most.toInt
      · refine br_t (Int32.le_iff_toInt_le.mpr c) (nm_r (nI_1 q) (ih (q + 1) (by omega) _ _ _ _ _ _ ?_))
        rcases hh with ⟨rfl, rfl, hj⟩ | ⟨b, rfl, hb, rfl, hb1, hb2, hb3⟩
        · refine Or.inl ⟨rfl, rfl, fun j hj' => ?_⟩
          by_cases z : j = q
          · rw [z, ← i1]; exact c
          · exact hj j (by omega)
        · refine Or.inr ⟨b, rfl, by omega, rfl, hb1, hb2, fun j hj' => ?_⟩
          by_cases z : j = q
          · rw [z]; exact c
          · exact hb3 j (by omega)
      · refine br_f (fun z => c (Int32.le_iff_toInt_le.mp z)) (nm_r (nI_1 q) (ih (q + 1) (by omega) _ _ _ _ _ _ (Or.inr ⟨q, rfl, by omega, rfl, ?_, ?_, ?_⟩)))
        · rcases hh with ⟨rfl, rfl, hj⟩ | ⟨b, rfl, hb, rfl, hb1, hb2, hb3⟩
          · rw [i1] at c; omega
          · omega
        · intro j hj'
          rcases hh with ⟨rfl, rfl, hj⟩ | ⟨b, rfl, hb, rfl, hb1, hb2, hb3⟩
          · rw [i1] at c
            have := hj j hj'
            omega
          · have := hb3 j hj'
            omega
        · intro j hj'
          by_cases z : j = q
          · rw [z]; exact Int.le_refl _
          · rcases hh with ⟨rfl, rfl, hj⟩ | ⟨b, rfl, hb, rfl, hb1, hb2, hb3⟩
            · rw [i1] at c
              have := hj j (by omega)
              omega
            · have := hb3 j (by omega)
              omega
  exact ⟨_, H (T * T) 0 (by omega) _ _ _ _ _ _ (Or.inl ⟨rfl, rfl, fun j hj => absurd hj (by omega)⟩)⟩
theorem i_vc_learn {k : Nat} {u : SX} {v : SY} (I : i_Rel k u v) (hk : k + 3 ≤ 1536) : wpX_learn (fun r u' => wpY_learn (fun r' v' => r' = r ∧ i_Rel (k + 3) u' v') v) u := by
  unfold wpX_learn
  obtain ⟨w, T, tl, rs, WL, WS, LF, RG, PR, SP, LN, LT, TX, RE, WC, rlX, msX, rowX, mdX, pf, wf, sa, sk, st, sr, rlY, mkY, kpY, rowY, pt, sm, nb, sl, tr, bg, rfl, rfl, hI⟩ := I
  obtain ⟨hw, htl, hrs, hE, hag, hWL, hWS, hLF, hRG, hPR, hSP, hLT, hTX, hRE, hsum⟩ := id hI
  obtain ⟨h6, hT, hl1, hl8, hlet⟩ := id hE
  have TT : T * T ≤ 400 := Nat.mul_le_mul hT hT
  refine tx_countPairs hw h6 hT hWL hWS hLF hRG (fun rlX msX rowX mdX pf hpf => ?_)
  refine tx_mostFrequentPair (fun m hm hm1 hm2 => ?_)
  have cm : (nI m).toNatClampNeg = m := nI_clamp (by omega)
  have epf : ∀ j, j < 400 → pf j = ts_fq WC (ts_ML LF RG WL WS T) (j / 20) (j % 20) w := by
    intro j hj
    have := hpf (j / 20) (j % 20) (by omega) (by omega)
    rw [show j / 20 * 20 + j % 20 = j by omega] at this
    exact this
  have i2 : (2 : Int32).toInt = 2 := by decide
  refine ⟨ts_v hm, ?_⟩
  by_cases c : (2 : Int32) ≤ pf (nI m).toNatClampNeg
  · refine br_t c ?_
    have c' := Int32.le_iff_toInt_le.mp c
    rw [cm, i2] at c'
    have hfq : ¬ ts_fq WC (ts_ML LF RG WL WS T) (m / 20) (m % 20) w = 0 := by
      intro z
      rw [← epf m hm] at z
      rw [z] at c'
      exact absurd c' (by decide)
    obtain ⟨p1, p2, p3⟩ := ts_fq_pair hI hfq
    have A1 : ∀ j, j < 400 → (ts_fq WC (ts_ML LF RG WL WS T) (j / 20) (j % 20) w).toInt ≤ (ts_fq WC (ts_ML LF RG WL WS T) (m / 20) (m % 20) w).toInt := fun j hj => by
      rw [← epf m hm, ← epf j hj]; exact hm1 j hj
    have A2 : ∀ j, j < m → (ts_fq WC (ts_ML LF RG WL WS T) (j / 20) (j % 20) w).toInt < (ts_fq WC (ts_ML LF RG WL WS T) (m / 20) (m % 20) w).toInt := fun j hj => by
      rw [← epf m hm, ← epf j (by omega)]; exact hm2 j hj
    have no : ∀ (Q : Prop), (∀ j, j < T * T → (ts_fq WC (ts_ML LF RG WL WS T) (j / T) (j % T) w).toInt ≤ 1) → Q := by
      intro Q hj
      have q3 : T * (m / 20) + m % 20 < T * T := by
        have := Nat.mul_le_mul_left T (show m / 20 + 1 ≤ T from p1)
        rw [Nat.mul_add, Nat.mul_one] at this
        omega
      have := hj (T * (m / 20) + m % 20) q3
      rw [Nat.mul_add_div (by omega), Nat.div_eq_of_lt p2, Nat.add_zero, Nat.mul_add_mod, Nat.mod_eq_of_lt p2, ← epf m hm] at this
      exact absurd this (by omega)
    by_cases c20 : T < 20
    · have cT : (nI T).toNatClampNeg = T := nI_clamp (by omega)
      have vT : vp_in (nI T) 20 := ts_v (by omega)
      have ed : nI m / 20 = nI (m / 20) := pk_div (d := 20) (by omega) (by decide) (by decide)
      have er : nI m - nI m / 20 * 20 = nI (m % 20) := pk_rem (d := 20) (by omega) (by decide) (by decide)
      have z20 : ¬ (20 : Int32) = 0 := by decide
      have u0 : ts_un LN T 0 T = 0 := ts_un_s
      have u1 : ts_un LN T 0 (m / 20) = LN (m / 20) := ts_un_n (by omega)
      have lf : ts_F (ts_un LF T (m / 20)) (nI T).toNatClampNeg = nI (m / 20) := by
        rw [cT]
        show nI (ts_un LF T (m / 20) T) = _
        rw [ts_un_s]
      have rg : ts_F (ts_un RG T (m % 20)) (nI T).toNatClampNeg = nI (m % 20) := by
        rw [cT]
        show nI (ts_un RG T (m % 20) T) = _
        rw [ts_un_s]
      refine br_t (nI_lt (b := 20) c20 (by decide)) ⟨z20, vT, nm_r (e' := ts_F (ts_un LF T (m / 20))) (by rw [cT, ed]; exact ts_F_up _ _ _) ⟨z20, vT, nm_r (e' := ts_F (ts_un RG T (m % 20))) (by rw [cT, er]; exact ts_F_up _ _ _) ⟨vT, nm_r (e' := ts_F (ts_un PR T 25)) (by rw [cT]; exact ts_F_up PR T 25) ⟨vT, nm_r (e' := ts_F (ts_un LN T 0)) (by rw [cT]; exact ts_F_up LN T 0) ⟨vT, ?_⟩⟩⟩⟩⟩
      rw [lf]
      refine tx_append (b := 0) (by omega) p1 u0 (by rw [u1]; omega) ?_
      refine ⟨vT, ?_⟩
      rw [rg, u1, Nat.zero_add, ts_unun]
      have u2 : ts_un LN T (LN (m / 20)) (m % 20) = LN (m % 20) := ts_un_n (by omega)
      refine tx_append (b := LN (m / 20)) (by omega) p2 ts_un_s (by rw [u2]; exact p3) ?_
      rw [u2, ts_unun]
      refine nm_r (nI_1 T) ?_
      refine ty_learn hI (fun hj => no _ hj) (fun b hb hb1 hb2 hb3 rlY mkY rowY pt => ⟨fun z => absurd z (by omega), fun _ => ⟨rfl, ?_⟩⟩)
      obtain ⟨e1, e2⟩ := ts_argm (g := fun x y => (ts_fq WC (ts_ML LF RG WL WS T) x y w).toInt) h6 hT hm p1 p2 hb A1 A2 hb3 hb2
      rw [e1, e2]
      exact ts_mk (ts_I_learn hI c20 p1 p2 p3)
    · have T20 : T = 20 := by omega
      refine br_f (nI_nlt (b := 20) (by omega) (by omega)) ?_
      exact ty_learn hI (fun hj => no _ hj) (fun b hb hb1 hb2 hb3 rlY mkY rowY pt => ⟨fun _ => ⟨rfl, ts_mk hI⟩, fun z => absurd z (by omega)⟩)
  · refine br_f c ?_
    have c' : (pf m).toInt ≤ 1 := by
      have : ¬ (2 : Int32).toInt ≤ (pf m).toInt := by
        intro z
        apply c
        rw [cm]
        exact Int32.le_iff_toInt_le.mpr z
      rw [i2] at this
      omega
    refine ty_learn hI (fun _ rlY mkY rowY pt => ⟨rfl, ts_mk hI⟩) (fun b hb hb1 hb2 hb3 rlY mkY rowY pt => absurd hb1 ?_)
    have hd : b / T < T := Nat.div_lt_of_lt_mul hb
    have hmd : b % T < T := Nat.mod_lt _ (by omega)
    have := hm1 (b / T * 20 + b % T) (by omega)
    rw [hpf (b / T) (b % T) (by omega) (by omega)] at this
    omega
end
section
theorem ts_last : True := True.intro
end
