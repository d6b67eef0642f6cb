theorem pk_us {f : Nat → Int32} {k : Nat} {x : Int32} : upd f k x k = x := if_pos rfl
theorem pk_un {f : Nat → Int32} {k j : Nat} {x : Int32} (h : j ≠ k) : upd f k x j = f j := if_neg h
theorem pk_sub {a b : Nat} (h : b ≤ a) : nI a - nI b = nI (a - b) := by
  obtain ⟨c, rfl⟩ : ∃ c, a = c + b := ⟨a - b, by omega⟩
  rw [← nI_add, Int32.add_sub_cancel, Nat.add_sub_cancel]
theorem pk_m1 (n : Nat) : nI (n + 1) + (-1) = nI n := by
  rw [← nI_1, Int32.add_assoc, show (1 : Int32) + (-1) = 0 from rfl, Int32.add_zero]
theorem pk_div {a d : Nat} (ha : a < 2 ^ 31) (h0 : 0 < d) (hd : d < 2 ^ 31) : nI a / nI d = nI (a / d) := by
  apply Int32.toInt_inj.mp
  rw [lg_idiv_nonneg (by rw [nI_toInt ha]; omega) (by rw [nI_toInt hd]; omega), nI_toInt ha, nI_toInt hd, nI_toInt (Nat.lt_of_le_of_lt (Nat.div_le_self a d) ha)]
  first | rfl | exact (Int.natCast_ediv _ _).symm
/-- both sides hold the same count, at most 40, and the same array of ints; the reference's second array is anything -/
def i_Rel (_ : Nat) (u : SX) (v : SY) : Prop := ∃ (n : Nat) (a b : Nat → Int32), n ≤ 40 ∧ u = (nI n, a) ∧ v = (nI n, a, b)
theorem i_up {k : Nat} {u : SX} {v : SY} (h : i_Rel k u v) : i_Rel (k + 4) u v := h
theorem i_vc0 : wpX_init (fun u => wpY_init (fun v => i_Rel 0 u v)) := ⟨0, fun _ => 0, fun _ => 0, by omega, rfl, rfl⟩
theorem ro_mk {k n : Nat} {a b : Nat → Int32} (h : n ≤ 40) : i_Rel k (nI n, a) (nI n, a, b) := ⟨n, a, b, h, rfl, rfl⟩
theorem ro_1 : ¬ (1 : Int32) = 0 := by decide
/-- a stretch that isn't there is refused on both sides; else its ends are naturals -/
theorem ro_there {n : Nat} (hn : n ≤ 40) (a b : Nat → Int32) (x y : Int32) :
    ((∀ post : Int32 → Prop, post 0 → wpX_isThere post (nI n, a) x y) ∧ (∀ post : Int32 → Prop, post 0 → wpY_isStretch post (nI n, a, b) x y))
    ∨ ∃ i j : Nat, i ≤ j ∧ j ≤ n ∧ x = nI i ∧ y = nI j ∧ (∀ post : Int32 → Prop, post 1 → wpX_isThere post (nI n, a) (nI i) (nI j)) ∧ (∀ post : Int32 → Prop, post 1 → wpY_isStretch post (nI n, a, b) (nI i) (nI j)) := by
  by_cases h0 : x < 0
  · exact Or.inl ⟨fun _ h => br_t h0 h, fun _ h => br_t h0 h⟩
  · by_cases h1 : y < x
    · exact Or.inl ⟨fun _ h => br_f h0 (br_t h1 h), fun _ h => br_f h0 (br_t h1 h)⟩
    · by_cases h2 : nI n < y
      · exact Or.inl ⟨fun _ h => br_f h0 (br_f h1 (br_t h2 h)), fun _ h => br_f h0 (br_f h1 (br_t h2 h))⟩
      · have hy : ¬ y < 0 := fun z => h1 (Int32.lt_of_lt_of_le z (Int32.not_lt.mp h0))
        obtain ⟨i, hi, rfl⟩ := nI_of h0
        obtain ⟨j, hj, rfl⟩ := nI_of hy
        have g1 : ¬ j < i := fun z => h1 (nI_lt z hi)
        have g2 : ¬ n < j := fun z => h2 (nI_lt z hj)
        exact Or.inr ⟨i, j, by omega, by omega, rfl, rfl, fun _ h => br_f h0 (br_f h1 (br_f h2 h)), fun _ h => br_f h0 (br_f h1 (br_f h2 h))⟩
/-- both sides judge an int by the same bounds -/
theorem ro_allow (u : SX) (v : SY) (w : Int64) :
    ((∀ post : Int32 → Prop, post 0 → wpX_isAllowed post u w) ∧ (∀ post : Int32 → Prop, post 0 → wpY_inRange post v w))
    ∨ ((∀ post : Int32 → Prop, post 1 → wpX_isAllowed post u w) ∧ (∀ post : Int32 → Prop, post 1 → wpY_inRange post v w)) := by
  by_cases h0 : w < (-1000000)
  · exact Or.inl ⟨fun _ h => br_t h0 h, fun _ h => br_t h0 h⟩
  · by_cases h1 : 1000000 < w
    · exact Or.inl ⟨fun _ h => br_f h0 (br_t h1 h), fun _ h => br_f h0 (br_t h1 h)⟩
    · exact Or.inr ⟨fun _ h => br_f h0 (br_f h1 h), fun _ h => br_f h0 (br_f h1 h)⟩
