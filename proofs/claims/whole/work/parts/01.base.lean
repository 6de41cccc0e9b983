theorem pk_us {f : Nat → Int32} {k : Nat} {x : Int32} : upd f k x k = x := if_pos rfl
theorem pk_un {f : Nat → Int32} {k j : Nat} {x : Int32} (h : j ≠ k) : upd f k x j = f j := if_neg h
theorem pk_sub {a b : Nat} (h : b ≤ a) : nI a - nI b = nI (a - b) := by
  obtain ⟨c, rfl⟩ : ∃ c, a = c + b := ⟨a - b, by omega⟩
  rw [← nI_add, Int32.add_sub_cancel, Nat.add_sub_cancel]
theorem pk_m1 (n : Nat) : nI (n + 1) + (-1) = nI n := by
  rw [← nI_1, Int32.add_assoc, show (1 : Int32) + (-1) = 0 from rfl, Int32.add_zero]
theorem pk_mul (a b : Nat) : nI a * nI b = nI (a * b) := (Int32.ofNat_mul a b).symm
theorem pk_div {a d : Nat} (ha : a < 2 ^ 31) (h0 : 0 < d) (hd : d < 2 ^ 31) : nI a / nI d = nI (a / d) := by
  apply Int32.toInt_inj.mp
  rw [lg_idiv_nonneg (by rw [nI_toInt ha]; omega) (by rw [nI_toInt hd]; omega), nI_toInt ha, nI_toInt hd, nI_toInt (Nat.lt_of_le_of_lt (Nat.div_le_self a d) ha)]
  first | rfl | exact (Int.natCast_ediv _ _).symm
theorem pk_rem {a d : Nat} (ha : a < 2 ^ 31) (h0 : 0 < d) (hd : d < 2 ^ 31) : nI a - nI a / nI d * nI d = nI (a % d) := by
  rw [pk_div ha h0 hd, pk_mul, pk_sub (Nat.div_mul_le_self a d)]
  exact congrArg nI (by have := Nat.div_add_mod' a d; omega)
theorem pk_ix (x : Int32) {n : Nat} (hn : n < 2 ^ 31) : x < 0 ∨ nI n ≤ x ∨ ∃ j : Nat, j < n ∧ x = nI j := by
  by_cases h : x < 0
  · exact Or.inl h
  · obtain ⟨j, hj, rfl⟩ := nI_of h
    by_cases h2 : j < n
    · exact Or.inr (Or.inr ⟨j, h2, rfl⟩)
    · exact Or.inr (Or.inl (nI_le (by omega) hj))
theorem pk_le {x y : Int32} {A B : Prop} (a b : Nat) (f : a ≤ b → A) (g : b < a → B) (hx : x = nI a := by rfl) (hy : y = nI b := by rfl) (ha : a < 2 ^ 31 := by omega) (hb : b < 2 ^ 31 := by omega) : (x ≤ y → A) ∧ (¬ x ≤ y → B) := by
  subst hx hy
  rw [nI_leI ha hb]
  exact ⟨f, fun z => g (by omega)⟩
theorem pk_lt {x y : Int32} {A B : Prop} (a b : Nat) (f : a < b → A) (g : b ≤ a → B) (hx : x = nI a := by rfl) (hy : y = nI b := by rfl) (ha : a < 2 ^ 31 := by omega) (hb : b < 2 ^ 31 := by omega) : (x < y → A) ∧ (¬ x < y → B) := by
  subst hx hy
  rw [nI_ltI ha hb]
  exact ⟨f, fun z => g (by omega)⟩
theorem pk_eq {x y : Int32} {A B : Prop} (a b : Nat) (f : a = b → A) (g : a ≠ b → B) (hx : x = nI a := by rfl) (hy : y = nI b := by rfl) (ha : a < 2 ^ 31 := by omega) (hb : b < 2 ^ 31 := by omega) : (x = y → A) ∧ (¬ x = y → B) := by
  subst hx hy
  rw [nI_eq ha hb]
  exact ⟨f, g⟩
theorem pk_in {x : Int32} (n N : Nat) (h : n < N) (hx : x = nI n := by rfl) (hN : N < 2 ^ 31 := by omega) : vp_in x N := by
  subst hx
  exact vp_in_nI h hN
theorem pk_cl {x : Int32} (n : Nat) (hx : x = nI n := by rfl) (h : n < 2 ^ 31 := by omega) : x.toNatClampNeg = n := by
  subst hx
  exact nI_clamp h
/-- a Nat function as an array -/
def ts_F (g : Nat → Nat) : Nat → Int32 := fun i => nI (g i)
def ts_un (g : Nat → Nat) (k v : Nat) : Nat → Nat := fun j => if j = k then v else g j
theorem ts_un_s {g : Nat → Nat} {k v : Nat} : ts_un g k v k = v := if_pos rfl
theorem ts_un_n {g : Nat → Nat} {k v j : Nat} (h : j ≠ k) : ts_un g k v j = g j := if_neg h
theorem ts_F_up (g : Nat → Nat) (k v : Nat) : upd (ts_F g) k (nI v) = ts_F (ts_un g k v) := by
  funext j
  unfold upd ts_F ts_un
  by_cases h : j = k
  · rw [if_pos h, if_pos h]
  · rw [if_neg h, if_neg h]
theorem ts_un_all {P : Nat → Prop} {g : Nat → Nat} {k v : Nat} (h : ∀ i, P (g i)) (hv : P v) : ∀ i, P (ts_un g k v i) := by
  intro i
  unfold ts_un
  split
  · exact hv
  · exact h i
def ts_cp (a b : Nat → Int32) (n : Nat) : Nat → Int32 := fun j => if j < n then b j else a j
theorem ts_cp_0 (a b : Nat → Int32) : ts_cp a b 0 = a := by
  funext j
  exact if_neg (Nat.not_lt_zero j)
theorem ts_cp_s (a b : Nat → Int32) (n : Nat) : upd (ts_cp a b n) n (b n) = ts_cp a b (n + 1) := by
  funext j
  unfold upd ts_cp
  by_cases h : j = n
  · subst h
    rw [if_pos rfl, if_pos (Nat.lt_succ_self j)]
  · rw [if_neg h]
    by_cases h2 : j < n
    · rw [if_pos h2, if_pos (by omega)]
    · rw [if_neg h2, if_neg (by omega)]
theorem ts_cp_lt {a b : Nat → Int32} {n j : Nat} (h : j < n) : ts_cp a b n j = b j := if_pos h
theorem ts_cp_ge {a b : Nat → Int32} {n j : Nat} (h : n ≤ j) : ts_cp a b n j = a j := if_neg (by omega)
theorem ts_ncl {n : Nat} (h : n < 2 ^ 31) : (nI n).toNatClampNeg = n := nI_clamp h
/-- an array holds a list from its start -/
def ts_Hd (a : Nat → Int32) (l : List Nat) : Prop := ∀ i e, l[i]? = some e → a i = nI e
theorem ts_ix {x : Int32} {P : Prop} (N : Nat) (hN : N < 2 ^ 31) (f : x < 0 → P) (g : nI N ≤ x → ¬ x < 0 → P) (h : ∀ j, j < N → x = nI j → P) : P := by
  rcases pk_ix x hN with a | a | ⟨j, hj, e⟩
  · exact f a
  · by_cases z : x < 0
    · exact f z
    · exact g a z
  · exact h j hj e
theorem ts_upup (f : Nat → Int32) (k : Nat) (x y : Int32) : upd (upd f k x) k y = upd f k y := by
  funext j
  unfold upd
  by_cases h : j = k
  · rw [if_pos h, if_pos h]
  · rw [if_neg h, if_neg h, if_neg h]
theorem ts_unun (f : Nat → Nat) (k x y : Nat) : ts_un (ts_un f k x) k y = ts_un f k y := by
  funext j
  unfold ts_un
  by_cases h : j = k
  · rw [if_pos h, if_pos h]
  · rw [if_neg h, if_neg h, if_neg h]
theorem ts_neg1 : ((-1 : Int32) < 0) := by decide
theorem ts_m1 {d : Nat} (h : 0 < d) : nI d + (-1) = nI (d - 1) := by
  obtain ⟨q, rfl⟩ : ∃ q, d = q + 1 := ⟨d - 1, by omega⟩
  exact pk_m1 q
theorem ts_nn {n : Nat} (h : n < 2 ^ 31) : ¬ nI n < 0 := by
  have := nI_ltI (a := n) (b := 0) h (by decide)
  intro z
  exact absurd (this.mp z) (Nat.not_lt_zero n)
theorem ts_sub1 {d : Nat} (h : 0 < d) : nI d - 1 = nI (d - 1) := pk_sub (a := d) (b := 1) h
theorem ts_v {n N : Nat} (h : n < N) (hN : N < 2 ^ 31 := by decide) : vp_in (nI n) N := vp_in_nI h hN
theorem ts_ma (c w i : Nat) : nI w * nI c + nI i = nI (w * c + i) := by rw [pk_mul, nI_add]
theorem ts_mb (c w i : Nat) : nI c * nI w + nI i = nI (c * w + i) := by rw [pk_mul, nI_add]
theorem ts_Hd_snoc {a : Nat → Int32} {l : List Nat} {e : Nat} (h : ts_Hd a l) : ts_Hd (upd a l.length (nI e)) (l ++ [e]) := by
  intro i x hx
  by_cases hi : i < l.length
  · rw [List.getElem?_append_left hi] at hx
    rw [pk_un (by omega)]
    exact h i x hx
  · rw [List.getElem?_append_right (by omega)] at hx
    by_cases z : i = l.length
    · subst z
      rw [Nat.sub_self] at hx
      cases hx
      exact pk_us
    · obtain ⟨q, hq⟩ : ∃ q, i - l.length = q + 1 := ⟨i - l.length - 1, by omega⟩
      rw [hq, List.getElem?_cons_succ, List.getElem?_nil] at hx
      cases hx
theorem ts_Hd_nil (a : Nat → Int32) : ts_Hd a [] := fun i e h => by rw [List.getElem?_nil] at h; cases h
theorem ts_drop {l : List Nat} {i e : Nat} (h : l[i]? = some e) : l.drop i = e :: l.drop (i + 1) := by
  obtain ⟨h1, h2⟩ := List.getElem?_eq_some_iff.mp h
  rw [List.drop_eq_getElem_cons h1, h2]
theorem ts_get {l : List Nat} {i : Nat} (h : i < l.length) : ∃ e, l[i]? = some e := ⟨l[i], List.getElem?_eq_getElem h⟩
