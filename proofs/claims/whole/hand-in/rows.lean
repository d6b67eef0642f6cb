section
theorem pk_us {f : Nat → Int32} {k : Nat} {x : Int32} : upd f k x k = x := if_pos rfl
theorem pk_un {f : Nat → Int32} {k j : Nat} {x : Int32} (h : j ≠ k) : upd f k x j = f j := if_neg h
theorem pk_sub {a b : Nat} (h : b ≤ a) : nI a - nI b = nI (a - b) := by
  obtain ⟨c, rfl⟩ : ∃ c, a = c + b := ⟨a - b, by omega⟩
  rw [← nI_add, Int32.add_sub_cancel, Nat.add_sub_cancel]
theorem pk_m1 (n : Nat) : nI (n + 1) + (-1) = nI n := by
  rw [← nI_1, Int32.add_assoc, show (1 : Int32) + (-1) = 0 from rfl, Int32.add_zero]
theorem pk_div {a d : Nat} (ha : a < 2 ^ 31) (h0 : 0 < d) (hd : d < 2 ^ 31) : nI a / nI d = nI (a / d) := by
  apply Int32.toInt_inj.mp
  rw [lg_idiv_nonneg (by rw [nI_toInt ha]; omega) (by rw [nI_toInt hd]; omega), nI_toInt ha, nI_toInt hd, nI_toInt (Nat.lt_of_le_of_lt (Nat.div_le_self a d) ha)]
  first | rfl | exact (Int.natCast_ediv _ _).symm
/-- both sides hold the same count, at most 40, and the same array of ints; the reference's second array is anything -/
def i_Rel (_ : Nat) (u : SX) (v : SY) : Prop := ∃ (n : Nat) (a b : Nat → Int32), n ≤ 40 ∧ u = (nI n, a) ∧ v = (nI n, a, b)
theorem i_up {k : Nat} {u : SX} {v : SY} (h : i_Rel k u v) : i_Rel (k + 4) u v := h
theorem i_vc0 : wpX_init (fun u => wpY_init (fun v => i_Rel 0 u v)) := ⟨0, fun _ => 0, fun _ => 0, by omega, rfl, rfl⟩
theorem ro_mk {k n : Nat} {a b : Nat → Int32} (h : n ≤ 40) : i_Rel k (nI n, a) (nI n, a, b) := ⟨n, a, b, h, rfl, rfl⟩
theorem ro_1 : ¬ (1 : Int32) = 0 := by decide
/-- a stretch that isn't there is refused on both sides; else its ends are naturals -/
theorem ro_there {n : Nat} (hn : n ≤ 40) (a b : Nat → Int32) (x y : Int32) :
    ((∀ post : Int32 → Prop, post 0 → wpX_isThere post (nI n, a) x y) ∧ (∀ post : Int32 → Prop, post 0 → wpY_isStretch post (nI n, a, b) x y))
    ∨ ∃ i j : Nat, i ≤ j ∧ j ≤ n ∧ x = nI i ∧ y = nI j ∧ (∀ post : Int32 → Prop, post 1 → wpX_isThere post (nI n, a) (nI i) (nI j)) ∧ (∀ post : Int32 → Prop, post 1 → wpY_isStretch post (nI n, a, b) (nI i) (nI j)) := by
  by_cases h0 : x < 0
  · exact Or.inl ⟨fun _ h => br_t h0 h, fun _ h => br_t h0 h⟩
  · by_cases h1 : y < x
    · exact Or.inl ⟨fun _ h => br_f h0 (br_t h1 h), fun _ h => br_f h0 (br_t h1 h)⟩
    · by_cases h2 : nI n < y
      · exact Or.inl ⟨fun _ h => br_f h0 (br_f h1 (br_t h2 h)), fun _ h => br_f h0 (br_f h1 (br_t h2 h))⟩
      · have hy : ¬ y < 0 := fun z => h1 (Int32.lt_of_lt_of_le z (Int32.not_lt.mp h0))
        obtain ⟨i, hi, rfl⟩ := nI_of h0
        obtain ⟨j, hj, rfl⟩ := nI_of hy
        have g1 : ¬ j < i := fun z => h1 (nI_lt z hi)
        have g2 : ¬ n < j := fun z => h2 (nI_lt z hj)
        exact Or.inr ⟨i, j, by omega, by omega, rfl, rfl, fun _ h => br_f h0 (br_f h1 (br_f h2 h)), fun _ h => br_f h0 (br_f h1 (br_f h2 h))⟩
/-- both sides judge an int by the same bounds -/
theorem ro_allow (u : SX) (v : SY) (w : Int64) :
    ((∀ post : Int32 → Prop, post 0 → wpX_isAllowed post u w) ∧ (∀ post : Int32 → Prop, post 0 → wpY_inRange post v w))
    ∨ ((∀ post : Int32 → Prop, post 1 → wpX_isAllowed post u w) ∧ (∀ post : Int32 → Prop, post 1 → wpY_inRange post v w)) := by
  by_cases h0 : w < (-1000000)
  · exact Or.inl ⟨fun _ h => br_t h0 h, fun _ h => br_t h0 h⟩
  · by_cases h1 : 1000000 < w
    · exact Or.inl ⟨fun _ h => br_f h0 (br_t h1 h), fun _ h => br_f h0 (br_t h1 h)⟩
    · exact Or.inr ⟨fun _ h => br_f h0 (br_f h1 h), fun _ h => br_f h0 (br_f h1 h)⟩
end
section
/-- insert: the same loop on both sides -/
theorem ro_ins (x2 : Int32) (i c : Nat) (o : Nat → Int32) (hc : c < 40) : ∀ (d p : Nat) (a : Nat → Int32), p = i + d → p ≤ c →
    ∃ a' : Nat → Int32, (∀ post : Int32 → SX → Prop, post (nI (c + 1)) (nI (c + 1), a') → wX_insert_40 post (nI i) x2 (nI c) (d + 1) (nI p) a)
      ∧ (∀ post : Int32 → SY → Prop, post (nI (c + 1)) (nI (c + 1), a', o) → wY_insert_40 post (nI i) x2 (nI c) (d + 1) (nI p) a o) := by
  intro d
  induction d with
  | zero =>
    intro p a hp hpc
    have h : nI p ≤ nI i := nI_le (by omega) (by omega)
    have hi : vp_in (nI i) 40 := vp_in_nI (by omega) (by omega)
    exact ⟨upd a (nI i).toNatClampNeg x2, fun post z => br_t h ⟨hi, nm_e (nm_r (nI_1 c) z)⟩, fun post z => br_t h ⟨hi, nm_e (nm_r (nI_1 c) z)⟩⟩
  | succ d ih =>
    intro p a hp hpc
    obtain ⟨q, rfl⟩ : ∃ q, p = q + 1 := ⟨i + d, by omega⟩
    have h : ¬ nI (q + 1) ≤ nI i := nI_ge (by omega) (by omega)
    have h1 : vp_in (nI (q + 1) - 1) 40 := by rw [nI_pred]; exact vp_in_nI (by omega) (by omega)
    have h2 : vp_in (nI (q + 1)) 40 := vp_in_nI (by omega) (by omega)
    obtain ⟨a', hX, hY⟩ := ih q (upd a (nI (q + 1)).toNatClampNeg (a (nI (q + 1) - 1).toNatClampNeg)) (by omega) (by omega)
    exact ⟨a', fun post z => br_f h ⟨h1, h2, nm_e (nm_r (pk_m1 q) (hX post z))⟩, fun post z => br_f h ⟨h1, h2, nm_e (nm_r (pk_m1 q) (hY post z))⟩⟩
theorem i_vc_insert {k : Nat} {u : SX} {v : SY} (I : i_Rel k u v) (hk : k + 4 ≤ 2048) (v1 : Int32) (v2 : Int32) : wpX_insert (fun r u' => wpY_insert (fun r' v' => r' = r ∧ i_Rel (k + 4) u' v') v v1 v2) u v1 v2 := by
  obtain ⟨n, a, b, hn, rfl, rfl⟩ := I
  by_cases hf : n < 40
  · have hX : nI n < 40 := nI_lt (b := 40) hf (by decide)
    have hY : ¬ nI n = 40 := fun z => by
      have := (nI_eq (a := n) (b := 40) (by omega) (by omega)).mp z
      omega
    by_cases h0 : v1 < 0
    · exact br_t hX (br_t h0 (br_f hY (br_t h0 ⟨rfl, ro_mk hn⟩)))
    · by_cases h1 : nI n < v1
      · exact br_t hX (br_f h0 (br_t h1 (br_f hY (br_f h0 (br_t h1 ⟨rfl, ro_mk hn⟩)))))
      · rcases ro_allow (nI n, a) (nI n, a, b) v2.toInt64 with ⟨aX, aY⟩ | ⟨aX, aY⟩
        · exact br_t hX (br_f h0 (br_f h1 (aX _ (br_t rfl (br_f hY (br_f h0 (br_f h1 (aY _ (br_t rfl ⟨rfl, ro_mk hn⟩)))))))))
        · obtain ⟨i, hi, rfl⟩ := nI_of h0
          have g1 : ¬ n < i := fun z => h1 (nI_lt z hi)
          obtain ⟨a', lX, lY⟩ := ro_ins v2 i n b hf (n - i) n a (by omega) (by omega)
          exact br_t hX (br_f h0 (br_f h1 (aX _ (br_f ro_1 ⟨_, lX _ (br_f hY (br_f h0 (br_f h1 (aY _ (br_f ro_1 ⟨_, lY _ ⟨rfl, ro_mk hf⟩⟩)))))⟩))))
  · have hX : ¬ nI n < 40 := nI_nlt (b := 40) (by omega) (by omega)
    have hY : nI n = 40 := congrArg nI (show n = 40 by omega)
    exact br_f hX (br_t hY ⟨rfl, ro_mk hn⟩)
/-- remove: the same loop on both sides -/
theorem ro_rem (i j c : Nat) (o : Nat → Int32) (hij : i ≤ j) (hj : j ≤ c) (hc : c ≤ 40) : ∀ (d p : Nat) (a : Nat → Int32), p + d = c → j ≤ p →
    ∃ a' : Nat → Int32, (∀ post : Int32 → SX → Prop, post (nI (c - (j - i))) (nI (c - (j - i)), a') → wX_remove_18 post (nI (j - i)) (nI c) (d + 1) (nI p) a)
      ∧ (∀ post : Int32 → SY → Prop, post (nI (c - (j - i))) (nI (c - (j - i)), a', o) → wY_remove_13 post (nI i) (nI j) (nI c) (d + 1) (nI p) a o) := by
  have ex : nI c - nI (j - i) = nI (c - (j - i)) := pk_sub (by omega)
  have ey : nI c - (nI j - nI i) = nI (c - (j - i)) := by rw [pk_sub hij, ex]
  intro d
  induction d with
  | zero =>
    intro p a hp hpc
    have h : nI c ≤ nI p := nI_le (by omega) (by omega)
    exact ⟨a, fun post z => br_t h (nm_r ex z), fun post z => br_t h (nm_r ey z)⟩
  | succ d ih =>
    intro p a hp hpc
    have h : ¬ nI c ≤ nI p := nI_ge (by omega) (by omega)
    have e1 : nI p - nI (j - i) = nI (p - (j - i)) := pk_sub (by omega)
    have e2 : nI i + nI p - nI j = nI (p - (j - i)) := by rw [nI_add, pk_sub (by omega)]; exact congrArg nI (by omega)
    have h1 : vp_in (nI p) 40 := vp_in_nI (by omega) (by omega)
    have h2 : vp_in (nI p - nI (j - i)) 40 := by rw [e1]; exact vp_in_nI (by omega) (by omega)
    have h3 : vp_in (nI i + nI p - nI j) 40 := by rw [e2]; exact vp_in_nI (by omega) (by omega)
    obtain ⟨a', hX, hY⟩ := ih (p + 1) (upd a (nI (p - (j - i))).toNatClampNeg (a (nI p).toNatClampNeg)) (by omega) (by omega)
    exact ⟨a', fun post z => br_f h ⟨h1, h2, nm_r (by rw [e1]) (nm_r (nI_1 p) (hX post z))⟩, fun post z => br_f h ⟨h1, h3, nm_r (by rw [e2]) (nm_r (nI_1 p) (hY post z))⟩⟩
theorem i_vc_remove {k : Nat} {u : SX} {v : SY} (I : i_Rel k u v) (hk : k + 4 ≤ 2048) (v1 : Int32) (v2 : Int32) : wpX_remove (fun r u' => wpY_remove (fun r' v' => r' = r ∧ i_Rel (k + 4) u' v') v v1 v2) u v1 v2 := by
  obtain ⟨n, a, b, hn, rfl, rfl⟩ := I
  unfold wpX_remove wpY_remove
  dsimp only
  rcases ro_there hn a b v1 v2 with ⟨tX, tY⟩ | ⟨i, j, hij, hj, rfl, rfl, tX, tY⟩
  · refine tX _ (br_t rfl ?_)
    exact tY _ (br_t rfl ⟨rfl, ro_mk hn⟩)
  · obtain ⟨a', lX, lY⟩ := ro_rem i j n b hij hj hn (n - j) j a (by omega) (by omega)
    refine tX _ (br_f ro_1 (nm_r (pk_sub hij) ⟨_, lX _ ?_⟩))
    exact tY _ (br_f ro_1 ⟨_, lY _ ⟨rfl, ro_mk (by omega)⟩⟩)
theorem i_vc_get {k : Nat} {u : SX} {v : SY} (I : i_Rel k u v) (hk : k + 4 ≤ 2048) (v1 : Int32) : wpX_get (fun r => wpY_get (fun r' => r' = r ∧ i_Rel (k + 4) u v) v v1) u v1 := by
  obtain ⟨n, a, b, hn, rfl, rfl⟩ := I
  by_cases h0 : v1 < 0
  · exact br_t h0 (br_t h0 ⟨rfl, ro_mk hn⟩)
  · obtain ⟨i, hi, rfl⟩ := nI_of h0
    by_cases h1 : i < n
    · have h2 : vp_in (nI i) 40 := vp_in_nI (by omega) (by omega)
      exact br_f h0 (br_t (nI_lt h1 (by omega)) ⟨h2, br_f h0 (br_f (nI_ge h1 (by omega)) ⟨h2, rfl, ro_mk hn⟩)⟩)
    · exact br_f h0 (br_f (nI_nlt (by omega) hi) (br_f h0 (br_t (nI_le (by omega) hi) ⟨rfl, ro_mk hn⟩)))
/-- add: the same judging on both sides -/
theorem ro_can (x3 : Int32) (x1 : Int32) (j c : Nat) (a o : Nat → Int32) (hj : j ≤ 40) : ∀ (d p : Nat), p + d = j →
    ((∀ post : Int32 → Prop, post 0 → wX_canTake_3 post (nI j) x3 (nI c) a (d + 1) (nI p))
      ∧ (∀ post : Int32 → SY → Prop, post 0 (nI c, a, o) → wY_add_14 post x1 (nI j) x3 (nI c) a o (d + 1) (nI p)))
    ∨ ((∀ post : Int32 → Prop, post 1 → wX_canTake_3 post (nI j) x3 (nI c) a (d + 1) (nI p))
      ∧ (∀ post : Int32 → SY → Prop, (∃ m : Nat, wY_add_49 post (nI j) x3 (nI c) m x1 a o) → wY_add_14 post x1 (nI j) x3 (nI c) a o (d + 1) (nI p))) := by
  intro d
  induction d with
  | zero =>
    intro p hp
    have h : nI j ≤ nI p := nI_le (by omega) (by omega)
    exact Or.inr ⟨fun post z => br_t h z, fun post z => br_t h z⟩
  | succ d ih =>
    intro p hp
    have h : ¬ nI j ≤ nI p := nI_ge (by omega) (by omega)
    have h1 : vp_in (nI p) 40 := vp_in_nI (by omega) (by omega)
    rcases ro_allow (nI c, a) (nI c, a, o) ((a (nI p).toNatClampNeg).toInt64 + x3.toInt64) with ⟨aX, aY⟩ | ⟨aX, aY⟩
    · exact Or.inl ⟨fun post z => br_f h ⟨h1, nm_e (aX _ (br_t rfl z))⟩, fun post z => br_f h ⟨h1, aY _ (br_t rfl z)⟩⟩
    · rcases ih (p + 1) (by omega) with ⟨hX, hY⟩ | ⟨hX, hY⟩
      · exact Or.inl ⟨fun post z => br_f h ⟨h1, nm_e (aX _ (br_f ro_1 (nm_r (nI_1 p) (hX post z))))⟩, fun post z => br_f h ⟨h1, aY _ (br_f ro_1 (nm_r (nI_1 p) (hY post z)))⟩⟩
      · exact Or.inr ⟨fun post z => br_f h ⟨h1, nm_e (aX _ (br_f ro_1 (nm_r (nI_1 p) (hX post z))))⟩, fun post z => br_f h ⟨h1, aY _ (br_f ro_1 (nm_r (nI_1 p) (hY post z)))⟩⟩
theorem ro_add (x3 : Int32) (j c : Nat) (o : Nat → Int32) (hj : j ≤ 40) : ∀ (d p : Nat) (a : Nat → Int32), p + d = j →
    ∃ a' : Nat → Int32, (∀ post : Int32 → SX → Prop, post 1 (nI c, a') → wX_add_24 post (nI j) x3 (nI c) (d + 1) (nI p) a)
      ∧ (∀ post : Int32 → SY → Prop, post 1 (nI c, a', o) → wY_add_49 post (nI j) x3 (nI c) (d + 1) (nI p) a o) := by
  intro d
  induction d with
  | zero =>
    intro p a hp
    have h : nI j ≤ nI p := nI_le (by omega) (by omega)
    exact ⟨a, fun post z => br_t h z, fun post z => br_t h z⟩
  | succ d ih =>
    intro p a hp
    have h : ¬ nI j ≤ nI p := nI_ge (by omega) (by omega)
    have h1 : vp_in (nI p) 40 := vp_in_nI (by omega) (by omega)
    obtain ⟨a', hX, hY⟩ := ih (p + 1) (upd a (nI p).toNatClampNeg (a (nI p).toNatClampNeg + x3)) (by omega)
    exact ⟨a', fun post z => br_f h ⟨h1, h1, nm_e (nm_r (nI_1 p) (hX post z))⟩, fun post z => br_f h ⟨h1, h1, nm_e (nm_r (nI_1 p) (hY post z))⟩⟩
theorem i_vc_add {k : Nat} {u : SX} {v : SY} (I : i_Rel k u v) (hk : k + 4 ≤ 2048) (v1 : Int32) (v2 : Int32) (v3 : Int32) : wpX_add (fun r u' => wpY_add (fun r' v' => r' = r ∧ i_Rel (k + 4) u' v') v v1 v2 v3) u v1 v2 v3 := by
  obtain ⟨n, a, b, hn, rfl, rfl⟩ := I
  unfold wpX_add wpY_add
  dsimp only
  rcases ro_there hn a b v1 v2 with ⟨tX, tY⟩ | ⟨i, j, hij, hj, rfl, rfl, tX, tY⟩
  · refine tX _ (br_t rfl ?_)
    exact tY _ (br_t rfl ⟨rfl, ro_mk hn⟩)
  · refine tX _ (br_f ro_1 ?_)
    unfold wpX_canTake
    dsimp only
    rcases ro_can v3 (nI i) j n a b (by omega) (j - i) i (by omega) with ⟨cX, cY⟩ | ⟨cX, cY⟩
    · refine ⟨_, cX _ (br_t rfl ?_)⟩
      exact tY _ (br_f ro_1 ⟨_, cY _ ⟨rfl, ro_mk hn⟩⟩)
    · obtain ⟨a', lX, lY⟩ := ro_add v3 j n b (by omega) (j - i) i a (by omega)
      refine ⟨_, cX _ (br_f ro_1 ⟨_, lX _ ?_⟩)⟩
      exact tY _ (br_f ro_1 ⟨_, cY _ ⟨_, lY _ ⟨rfl, ro_mk hn⟩⟩⟩)
end
section
/-- sum: the same loop on both sides -/
theorem ro_sum (i j c : Nat) (a o : Nat → Int32) (hj : j ≤ 40) (tY : ∀ post : Int32 → Prop, post 1 → wpY_isStretch post (nI c, a, o) (nI i) (nI j)) : ∀ (d p : Nat) (t : Int32), p + d = j →
    ∃ r : Int32, (∀ post : Int32 → Prop, post r → wX_sum_16 post (nI j) (nI c) a (d + 1) t (nI p))
      ∧ (∀ post : Int32 → Prop, post r → wY_sum_5 post (nI i) (nI j) (nI c) a o (d + 1) t (nI p)) := by
  intro d
  induction d with
  | zero =>
    intro p t hp
    have h : nI j ≤ nI p := nI_le (by omega) (by omega)
    exact ⟨t, fun post z => br_t h z, fun post z => by rw [wY_sum_5]; exact tY _ (br_f ro_1 (br_t h z))⟩
  | succ d ih =>
    intro p t hp
    have h : ¬ nI j ≤ nI p := nI_ge (by omega) (by omega)
    have h1 : vp_in (nI p) 40 := vp_in_nI (by omega) (by omega)
    obtain ⟨r, hX, hY⟩ := ih (p + 1) (t + a (nI p).toNatClampNeg) (by omega)
    exact ⟨r, fun post z => br_f h ⟨h1, nm_e (nm_r (nI_1 p) (hX post z))⟩, fun post z => by rw [wY_sum_5]; exact tY _ (br_f ro_1 (br_f h ⟨h1, nm_e (nm_r (nI_1 p) (hY post z))⟩))⟩
theorem i_vc_sum {k : Nat} {u : SX} {v : SY} (I : i_Rel k u v) (hk : k + 4 ≤ 2048) (v1 : Int32) (v2 : Int32) : wpX_sum (fun r => wpY_sum (fun r' => r' = r ∧ i_Rel (k + 4) u v) v v1 v2) u v1 v2 := by
  obtain ⟨n, a, b, hn, rfl, rfl⟩ := I
  unfold wpX_sum wpY_sum
  dsimp only
  rcases ro_there hn a b v1 v2 with ⟨tX, tY⟩ | ⟨i, j, hij, hj, rfl, rfl, tX, tY⟩
  · refine tX _ (br_t rfl ⟨0 + 1, ?_⟩)
    rw [wY_sum_5]
    exact tY _ (br_t rfl ⟨rfl, ro_mk hn⟩)
  · obtain ⟨r, lX, lY⟩ := ro_sum i j n a b (by omega) tY (j - i) i 0 (by omega)
    exact tX _ (br_f ro_1 ⟨_, lX _ ⟨_, lY _ ⟨rfl, ro_mk hn⟩⟩⟩)
/-- greatest: the same loop on both sides; the reference looks at the first int once more -/
theorem ro_gr (j c : Nat) (a o : Nat → Int32) (hj : j ≤ 40) : ∀ (d p : Nat) (t : Int32), p + d = j →
    ∃ r : Int32, (∀ post : Int32 → Prop, post r → wX_greatest_28 post (nI j) (nI c) a (d + 1) t (nI p))
      ∧ (∀ post : Int32 → Prop, post r → wY_greatest_26 post (nI j) (nI c) a o (d + 1) t (nI p)) := by
  intro d
  induction d with
  | zero =>
    intro p t hp
    have h : nI j ≤ nI p := nI_le (by omega) (by omega)
    exact ⟨t, fun post z => br_t h z, fun post z => br_t h z⟩
  | succ d ih =>
    intro p t hp
    have h : ¬ nI j ≤ nI p := nI_ge (by omega) (by omega)
    have h1 : vp_in (nI p) 40 := vp_in_nI (by omega) (by omega)
    by_cases g : a (nI p).toNatClampNeg ≤ t
    · obtain ⟨r, hX, hY⟩ := ih (p + 1) t (by omega)
      exact ⟨r, fun post z => br_f h ⟨h1, br_t g (nm_r (nI_1 p) (hX post z))⟩, fun post z => br_f h ⟨h1, br_t g (nm_r (nI_1 p) (hY post z))⟩⟩
    · obtain ⟨r, hX, hY⟩ := ih (p + 1) (a (nI p).toNatClampNeg) (by omega)
      exact ⟨r, fun post z => br_f h ⟨h1, br_f g ⟨h1, nm_e (nm_r (nI_1 p) (hX post z))⟩⟩, fun post z => br_f h ⟨h1, br_f g ⟨h1, nm_e (nm_r (nI_1 p) (hY post z))⟩⟩⟩
theorem i_vc_greatest {k : Nat} {u : SX} {v : SY} (I : i_Rel k u v) (hk : k + 4 ≤ 2048) (v1 : Int32) (v2 : Int32) : wpX_greatest (fun r => wpY_greatest (fun r' => r' = r ∧ i_Rel (k + 4) u v) v v1 v2) u v1 v2 := by
  obtain ⟨n, a, b, hn, rfl, rfl⟩ := I
  unfold wpX_greatest wpY_greatest
  dsimp only
  rcases ro_there hn a b v1 v2 with ⟨tX, tY⟩ | ⟨i, j, hij, hj, rfl, rfl, tX, tY⟩
  · refine tX _ (br_t rfl ?_)
    exact tY _ (br_t rfl ⟨rfl, ro_mk hn⟩)
  · by_cases e : nI i = nI j
    · refine tX _ (br_f ro_1 (br_t e ?_))
      exact tY _ (br_f ro_1 (br_t e ⟨rfl, ro_mk hn⟩))
    · have hlt : i < j := by
        rcases Nat.lt_or_ge i j with q | q
        · exact q
        · exact absurd (congrArg nI (show i = j by omega)) e
      have h : ¬ nI j ≤ nI i := nI_ge hlt (by omega)
      have h1 : vp_in (nI i) 40 := vp_in_nI (by omega) (by omega)
      obtain ⟨r, lX, lY⟩ := ro_gr j n a b (by omega) (j - (i + 1)) (i + 1) (a (nI i).toNatClampNeg) (by omega)
      refine tX _ (br_f ro_1 (br_f e ⟨h1, nm_e (nm_r (nI_1 i) ⟨_, lX _ ?_⟩)⟩))
      refine tY _ (br_f ro_1 (br_f e ⟨h1, nm_e ⟨j - (i + 1) + 1 + 1, ?_⟩⟩))
      exact br_f h ⟨h1, br_t (Int32.le_refl _) (nm_r (nI_1 i) (lY _ ⟨rfl, ro_mk hn⟩))⟩
theorem ro_sm (j c : Nat) (a o : Nat → Int32) (hj : j ≤ 40) : ∀ (d p : Nat) (t : Int32), p + d = j →
    ∃ r : Int32, (∀ post : Int32 → Prop, post r → wX_smallest_28 post (nI j) (nI c) a (d + 1) t (nI p))
      ∧ (∀ post : Int32 → Prop, post r → wY_smallest_26 post (nI j) (nI c) a o (d + 1) t (nI p)) := by
  intro d
  induction d with
  | zero =>
    intro p t hp
    have h : nI j ≤ nI p := nI_le (by omega) (by omega)
    exact ⟨t, fun post z => br_t h z, fun post z => br_t h z⟩
  | succ d ih =>
    intro p t hp
    have h : ¬ nI j ≤ nI p := nI_ge (by omega) (by omega)
    have h1 : vp_in (nI p) 40 := vp_in_nI (by omega) (by omega)
    by_cases g : t ≤ a (nI p).toNatClampNeg
    · obtain ⟨r, hX, hY⟩ := ih (p + 1) t (by omega)
      exact ⟨r, fun post z => br_f h ⟨h1, br_t g (nm_r (nI_1 p) (hX post z))⟩, fun post z => br_f h ⟨h1, br_t g (nm_r (nI_1 p) (hY post z))⟩⟩
    · obtain ⟨r, hX, hY⟩ := ih (p + 1) (a (nI p).toNatClampNeg) (by omega)
      exact ⟨r, fun post z => br_f h ⟨h1, br_f g ⟨h1, nm_e (nm_r (nI_1 p) (hX post z))⟩⟩, fun post z => br_f h ⟨h1, br_f g ⟨h1, nm_e (nm_r (nI_1 p) (hY post z))⟩⟩⟩
theorem i_vc_smallest {k : Nat} {u : SX} {v : SY} (I : i_Rel k u v) (hk : k + 4 ≤ 2048) (v1 : Int32) (v2 : Int32) : wpX_smallest (fun r => wpY_smallest (fun r' => r' = r ∧ i_Rel (k + 4) u v) v v1 v2) u v1 v2 := by
  obtain ⟨n, a, b, hn, rfl, rfl⟩ := I
  unfold wpX_smallest wpY_smallest
  dsimp only
  rcases ro_there hn a b v1 v2 with ⟨tX, tY⟩ | ⟨i, j, hij, hj, rfl, rfl, tX, tY⟩
  · refine tX _ (br_t rfl ?_)
    exact tY _ (br_t rfl ⟨rfl, ro_mk hn⟩)
  · by_cases e : nI i = nI j
    · refine tX _ (br_f ro_1 (br_t e ?_))
      exact tY _ (br_f ro_1 (br_t e ⟨rfl, ro_mk hn⟩))
    · have hlt : i < j := by
        rcases Nat.lt_or_ge i j with q | q
        · exact q
        · exact absurd (congrArg nI (show i = j by omega)) e
      have h : ¬ nI j ≤ nI i := nI_ge hlt (by omega)
      have h1 : vp_in (nI i) 40 := vp_in_nI (by omega) (by omega)
      obtain ⟨r, lX, lY⟩ := ro_sm j n a b (by omega) (j - (i + 1)) (i + 1) (a (nI i).toNatClampNeg) (by omega)
      refine tX _ (br_f ro_1 (br_f e ⟨h1, nm_e (nm_r (nI_1 i) ⟨_, lX _ ?_⟩)⟩))
      refine tY _ (br_f ro_1 (br_f e ⟨h1, nm_e ⟨j - (i + 1) + 1 + 1, ?_⟩⟩))
      exact br_f h ⟨h1, br_t (Int32.le_refl _) (nm_r (nI_1 i) (lY _ ⟨rfl, ro_mk hn⟩))⟩
/-- firstAtLeast: from the place where the reference has left off skipping, the same loop on both sides -/
theorem ro_fal (x1 x2 : Int32) (s c : Nat) (a o : Nat → Int32) (hc : c ≤ 40) (hs : ∀ p : Nat, s ≤ p → p < c → ¬ nI p < x1) : ∀ (d p : Nat), p + d = c → s ≤ p →
    ∃ r : Int32, (∀ post : Int32 → Prop, post r → wX_firstAtLeast_13 post x2 (nI c) a (d + 1) (nI p))
      ∧ (∀ post : Int32 → Prop, post r → wY_firstAtLeast_2 post x1 x2 (nI c) a o (d + 1) (nI p)) := by
  intro d
  induction d with
  | zero =>
    intro p hp hsp
    have h : nI c ≤ nI p := nI_le (by omega) (by omega)
    exact ⟨-3, fun post z => br_t h z, fun post z => br_t h z⟩
  | succ d ih =>
    intro p hp hsp
    have h : ¬ nI c ≤ nI p := nI_ge (by omega) (by omega)
    have h1 : vp_in (nI p) 40 := vp_in_nI (by omega) (by omega)
    have h2 : ¬ nI p < x1 := hs p hsp (by omega)
    by_cases g : a (nI p).toNatClampNeg < x2
    · obtain ⟨r, hX, hY⟩ := ih (p + 1) (by omega) (by omega)
      exact ⟨r, fun post z => br_f h ⟨h1, br_t g (nm_r (nI_1 p) (hX post z))⟩, fun post z => br_f h (br_f h2 ⟨h1, br_t g (nm_r (nI_1 p) (hY post z))⟩)⟩
    · exact ⟨nI p, fun post z => br_f h ⟨h1, br_f g z⟩, fun post z => br_f h (br_f h2 ⟨h1, br_f g z⟩)⟩
theorem ro_skip (x2 : Int32) (i m c n0 : Nat) (a o : Nat → Int32) (hi : i < 2 ^ 31) (hm : m ≤ i) (hmc : m ≤ c) (hc : c ≤ 40) (post : Int32 → Prop) (h0 : wY_firstAtLeast_2 post (nI i) x2 (nI c) a o n0 (nI m)) : ∀ (d p : Nat), p + d = m →
    wY_firstAtLeast_2 post (nI i) x2 (nI c) a o (n0 + d) (nI p) := by
  intro d
  induction d with
  | zero =>
    intro p hp
    obtain rfl : p = m := by omega
    exact h0
  | succ d ih =>
    intro p hp
    have h : ¬ nI c ≤ nI p := nI_ge (by omega) (by omega)
    have h2 : nI p < nI i := nI_lt (by omega) hi
    exact br_f h (br_t h2 (nm_r (nI_1 p) (ih (p + 1) (by omega))))
theorem i_vc_firstAtLeast {k : Nat} {u : SX} {v : SY} (I : i_Rel k u v) (hk : k + 4 ≤ 2048) (v1 : Int32) (v2 : Int32) : wpX_firstAtLeast (fun r => wpY_firstAtLeast (fun r' => r' = r ∧ i_Rel (k + 4) u v) v v1 v2) u v1 v2 := by
  obtain ⟨n, a, b, hn, rfl, rfl⟩ := I
  unfold wpX_firstAtLeast wpY_firstAtLeast
  dsimp only
  by_cases h0 : 0 ≤ v1
  · refine br_t h0 ?_
    obtain ⟨i, hi, rfl⟩ := nI_of (x := v1) (Int32.not_lt.mpr h0)
    by_cases hin : i ≤ n
    · obtain ⟨r, lX, lY⟩ := ro_fal (nI i) v2 i n a b hn (fun p z z2 => nI_nlt z (by omega)) (n - i) i (by omega) (by omega)
      refine ⟨_, lX _ ⟨n - i + 1 + i, ?_⟩⟩
      have := ro_skip v2 i i n (n - i + 1) a b hi (by omega) hin hn (fun r' => r' = r ∧ i_Rel (k + 4) (nI n, a) (nI n, a, b)) (lY _ ⟨rfl, ro_mk hn⟩) i 0 (by omega)
      rw [nI_0] at this
      exact this
    · refine ⟨1, br_t (nI_le (by omega) hi) ⟨0 + 1 + n, ?_⟩⟩
      have := ro_skip v2 i n n (0 + 1) a b hi (by omega) (by omega) hn (fun r' => r' = (-3) ∧ i_Rel (k + 4) (nI n, a) (nI n, a, b)) (br_t (nI_le (by omega) (by omega)) ⟨rfl, ro_mk hn⟩) n 0 (by omega)
      rw [nI_0] at this
      exact this
  · refine br_f h0 ?_
    have hv : v1 < 0 := Int32.not_le.mp h0
    obtain ⟨r, lX, lY⟩ := ro_fal v1 v2 0 n a b hn (fun p z z2 h => by
      have h3 : nI p < 0 := Int32.lt_trans h hv
      exact nI_pos (by omega) h3) n 0 (by omega) (by omega)
    rw [nI_0] at lX lY
    exact ⟨_, lX _ ⟨_, lY _ ⟨rfl, ro_mk hn⟩⟩⟩
end
section
/-- the ints of i .. p - 1 taken from the turned stretch i .. j -/
def ro_ry (i j p : Nat) (a : Nat → Int32) : Nat → Int32 := fun q => if i ≤ q ∧ q < p then a (i + j - 1 - q) else a q
/-- the stretch i .. j turned round -/
def ro_rv (i j : Nat) (a : Nat → Int32) : Nat → Int32 := fun q => if i ≤ q ∧ q < j then a (i + j - 1 - q) else a q
/-- the outer t pairs of the stretch i .. j swapped -/
def ro_rt (i j t : Nat) (a : Nat → Int32) : Nat → Int32 := fun q => if (i ≤ q ∧ q < i + t) ∨ (j ≤ q + t ∧ q < j) then a (i + j - 1 - q) else a q
theorem ro_rt0 (i j : Nat) (a : Nat → Int32) : ro_rt i j 0 a = a := by
  funext q
  exact if_neg (by omega)
theorem ro_rtE (i j : Nat) (a : Nat → Int32) (h : i ≤ j) : ro_rt i j ((j - i) / 2) a = ro_rv i j a := by
  funext q
  unfold ro_rt ro_rv
  by_cases h1 : i ≤ q ∧ q < j
  · rw [if_pos h1]
    by_cases h2 : (i ≤ q ∧ q < i + (j - i) / 2) ∨ (j ≤ q + (j - i) / 2 ∧ q < j)
    · rw [if_pos h2]
    · rw [if_neg h2]
      exact congrArg a (by omega)
  · rw [if_neg h1, if_neg (by omega)]
theorem ro_rtS (i j t : Nat) (a : Nat → Int32) (h : i + t + t + 2 ≤ j) :
    upd (upd (ro_rt i j t a) (i + t) (ro_rt i j t a (j - 1 - t))) (j - 1 - t) (ro_rt i j t a (i + t)) = ro_rt i j (t + 1) a := by
  have e1 : ro_rt i j t a (i + t) = a (i + t) := if_neg (by omega)
  have e2 : ro_rt i j t a (j - 1 - t) = a (j - 1 - t) := if_neg (by omega)
  rw [e1, e2]
  funext q
  by_cases h1 : q = j - 1 - t
  · rw [h1, pk_us]
    unfold ro_rt
    rw [if_pos (by omega)]
    exact congrArg a (by omega)
  · rw [pk_un h1]
    by_cases h2 : q = i + t
    · rw [h2, pk_us]
      unfold ro_rt
      rw [if_pos (by omega)]
      exact congrArg a (by omega)
    · rw [pk_un h2]
      unfold ro_rt
      by_cases h3 : (i ≤ q ∧ q < i + t) ∨ (j ≤ q + t ∧ q < j)
      · rw [if_pos h3, if_pos (by omega)]
      · rw [if_neg h3, if_neg (by omega)]
theorem ro_turn9 (c i j : Nat) (a : Nat → Int32) (hij : i ≤ j) (hj : j ≤ 40) (post : SX → Prop) (hp : post (nI c, ro_rv i j a)) : ∀ (d t : Nat), t + d = (j - i) / 2 →
    wX_turn_9 post (nI i) (nI j) (nI ((j - i) / 2)) (nI c) (d + 1) (nI t) (ro_rt i j t a) := by
  intro d
  induction d with
  | zero =>
    intro t ht
    obtain rfl : t = (j - i) / 2 := by omega
    rw [ro_rtE i j a hij]
    exact br_t (nI_le (by omega) (by omega)) hp
  | succ d ih =>
    intro t ht
    have h : ¬ nI ((j - i) / 2) ≤ nI t := nI_ge (by omega) (by omega)
    have e1 : nI i + nI t = nI (i + t) := nI_add i t
    have e2 : nI j - 1 - nI t = nI (j - 1 - t) := by
      rw [show (1 : Int32) = nI 1 from rfl, pk_sub (by omega), pk_sub (by omega)]
    have h1 : vp_in (nI (i + t)) 40 := vp_in_nI (by omega) (by omega)
    have h2 : vp_in (nI (j - 1 - t)) 40 := vp_in_nI (by omega) (by omega)
    have c1 : (nI (i + t)).toNatClampNeg = i + t := nI_clamp (by omega)
    have c2 : (nI (j - 1 - t)).toNatClampNeg = j - 1 - t := nI_clamp (by omega)
    have g := ih (t + 1) (by omega)
    rw [← ro_rtS i j t a (by omega)] at g
    refine br_f h (nm_r e1 (nm_r e2 ⟨h1, nm_r (congrArg (ro_rt i j t a) c1) ⟨h2, h1, nm_r (by rw [c1, c2]) ⟨h2, nm_r (by rw [c2]) (nm_r (nI_1 t) g)⟩⟩⟩))
theorem ro_turn (c i j : Nat) (a : Nat → Int32) (hij : i ≤ j) (hj : j ≤ 40) (post : SX → Prop) (hp : post (nI c, ro_rv i j a)) : wpX_turn post (nI c, a) (nI i) (nI j) := by
  have e : (nI j - nI i) / 2 = nI ((j - i) / 2) := by
    rw [pk_sub hij]
    exact pk_div (d := 2) (by omega) (by omega) (by omega)
  have g := ro_turn9 c i j a hij hj post hp ((j - i) / 2) 0 (by omega)
  rw [nI_0, ro_rt0] at g
  exact ⟨by decide, nm_r e ⟨_, g⟩⟩
/-- the reference's second array behind keep -/
def ro_kp (t : Nat) (a b : Nat → Int32) : Nat → Int32 := fun q => if q < t then a q else b q
theorem ro_kpS (t : Nat) (a b : Nat → Int32) : upd (ro_kp t a b) t (a t) = ro_kp (t + 1) a b := by
  funext q
  by_cases h : q = t
  · rw [h, pk_us]
    exact (if_pos (by omega)).symm
  · rw [pk_un h]
    unfold ro_kp
    by_cases h1 : q < t
    · rw [if_pos h1, if_pos (by omega)]
    · rw [if_neg h1, if_neg (by omega)]
theorem ro_keep2 (c : Nat) (a b : Nat → Int32) (hc : c ≤ 40) (post : SY → Prop) (hp : post (nI c, a, ro_kp c a b)) : ∀ (d t : Nat), t + d = c →
    wY_keep_2 post (nI c) (d + 1) (nI t) a (ro_kp t a b) := by
  intro d
  induction d with
  | zero =>
    intro t ht
    obtain rfl : t = c := by omega
    exact br_t (nI_le (by omega) (by omega)) hp
  | succ d ih =>
    intro t ht
    have h : ¬ nI c ≤ nI t := nI_ge (by omega) (by omega)
    have h1 : vp_in (nI t) 40 := vp_in_nI (by omega) (by omega)
    have c1 : (nI t).toNatClampNeg = t := nI_clamp (by omega)
    have g := ih (t + 1) (by omega)
    rw [← ro_kpS] at g
    exact br_f h ⟨h1, h1, nm_r (by rw [c1]) (nm_r (nI_1 t) g)⟩
theorem ro_keep (c : Nat) (a b : Nat → Int32) (hc : c ≤ 40) (post : SY → Prop) (hp : post (nI c, a, ro_kp c a b)) : wpY_keep post (nI c, a, b) := by
  have g := ro_keep2 c a b hc post hp c 0 (by omega)
  have e : ro_kp 0 a b = b := by
    funext q
    exact if_neg (by omega)
  rw [nI_0, e] at g
  exact ⟨_, g⟩
theorem ro_ryS (i j p : Nat) (a : Nat → Int32) (h : i ≤ p) : upd (ro_ry i j p a) p (a (i + j - 1 - p)) = ro_ry i j (p + 1) a := by
  funext q
  by_cases h1 : q = p
  · rw [h1, pk_us]
    exact (if_pos (by omega)).symm
  · rw [pk_un h1]
    unfold ro_ry
    by_cases h2 : i ≤ q ∧ q < p
    · rw [if_pos h2, if_pos (by omega)]
    · rw [if_neg h2, if_neg (by omega)]
theorem ro_rev17 (c i j : Nat) (a b : Nat → Int32) (hij : i ≤ j) (hj : j ≤ c) (hc : c ≤ 40) (post : Int32 → SY → Prop) (hp : post 1 (nI c, ro_rv i j a, ro_kp c a b)) : ∀ (d p : Nat), p + d = j → i ≤ p →
    wY_reverse_17 post (nI i) (nI j) (nI c) (d + 1) (nI p) (ro_ry i j p a) (ro_kp c a b) := by
  intro d
  induction d with
  | zero =>
    intro p hpd hip
    obtain rfl : p = j := by omega
    exact br_t (nI_le (by omega) (by omega)) hp
  | succ d ih =>
    intro p hpd hip
    have h : ¬ nI j ≤ nI p := nI_ge (by omega) (by omega)
    have e1 : nI i + nI j - 1 - nI p = nI (i + j - 1 - p) := by
      rw [nI_add, show (1 : Int32) = nI 1 from rfl, pk_sub (by omega), pk_sub (by omega)]
    have h1 : vp_in (nI i + nI j - 1 - nI p) 40 := by rw [e1]; exact vp_in_nI (by omega) (by omega)
    have h2 : vp_in (nI p) 40 := vp_in_nI (by omega) (by omega)
    have c1 : (nI (i + j - 1 - p)).toNatClampNeg = i + j - 1 - p := nI_clamp (by omega)
    have c2 : (nI p).toNatClampNeg = p := nI_clamp (by omega)
    have ek : ro_kp c a b (i + j - 1 - p) = a (i + j - 1 - p) := if_pos (by omega)
    have g := ih (p + 1) (by omega) (by omega)
    rw [← ro_ryS i j p a hip] at g
    exact br_f h ⟨h1, h2, nm_r (by rw [e1, c1, c2, ek]) (nm_r (nI_1 p) g)⟩
theorem i_vc_reverse {k : Nat} {u : SX} {v : SY} (I : i_Rel k u v) (hk : k + 4 ≤ 2048) (v1 : Int32) (v2 : Int32) : wpX_reverse (fun r u' => wpY_reverse (fun r' v' => r' = r ∧ i_Rel (k + 4) u' v') v v1 v2) u v1 v2 := by
  obtain ⟨n, a, b, hn, rfl, rfl⟩ := I
  unfold wpX_reverse wpY_reverse
  dsimp only
  rcases ro_there hn a b v1 v2 with ⟨tX, tY⟩ | ⟨i, j, hij, hj, rfl, rfl, tX, tY⟩
  · refine tX _ (br_t rfl ?_)
    exact tY _ (br_t rfl ⟨rfl, ro_mk hn⟩)
  · refine tX _ (br_f ro_1 (ro_turn n i j a hij (by omega) _ ?_))
    dsimp only
    refine tY _ (br_f ro_1 (ro_keep n a b hn _ ?_))
    dsimp only
    have e : ro_ry i j i a = a := by
      funext q
      exact if_neg (by omega)
    have g := ro_rev17 n i j a b hij hj hn (fun r' v' => r' = 1 ∧ i_Rel (k + 4) (nI n, ro_rv i j a) v') ⟨rfl, ro_mk hn⟩ (j - i) i (by omega) (by omega)
    rw [e] at g
    exact ⟨_, g⟩
end
section
/-- the ints of lo .. hi - 1 taken from s places before -/
def ro_sh (lo hi s : Nat) (a : Nat → Int32) : Nat → Int32 := fun q => if lo ≤ q ∧ q < hi then a (q - s) else a q
theorem ro_sh0 (lo hi s : Nat) (a : Nat → Int32) (h : hi ≤ lo) : ro_sh lo hi s a = a := by
  funext q
  exact if_neg (by omega)
theorem ro_shU (lo hi s : Nat) (a : Nat → Int32) (h : lo ≤ hi) : upd (ro_sh lo hi s a) hi (a (hi - s)) = ro_sh lo (hi + 1) s a := by
  funext q
  by_cases h1 : q = hi
  · rw [h1, pk_us]
    exact (if_pos (by omega)).symm
  · rw [pk_un h1]
    unfold ro_sh
    by_cases h2 : lo ≤ q ∧ q < hi
    · rw [if_pos h2, if_pos (by omega)]
    · rw [if_neg h2, if_neg (by omega)]
theorem ro_shD (lo hi s : Nat) (a : Nat → Int32) (h : lo < hi) : upd (ro_sh (lo + 1) hi s a) lo (a (lo - s)) = ro_sh lo hi s a := by
  funext q
  by_cases h1 : q = lo
  · rw [h1, pk_us]
    exact (if_pos (by omega)).symm
  · rw [pk_un h1]
    unfold ro_sh
    by_cases h2 : lo + 1 ≤ q ∧ q < hi
    · rw [if_pos h2, if_pos (by omega)]
    · rw [if_neg h2, if_neg (by omega)]
/-- X: downwards; the counter is q - 1 -/
theorem ro_tw37 (c i s : Nat) (a : Nat → Int32) (hi : i ≤ c) (hs : c + s ≤ 40) (post : Int32 → SX → Prop) (hp : post (nI (c + s)) (nI (c + s), ro_sh (i + s) (c + s) s a)) : ∀ (d q : Nat), q = i + d → q ≤ c →
    wX_twice_37 post (nI i) (nI s) (nI c) (d + 1) (nI q + (-1)) (ro_sh (q + s) (c + s) s a) := by
  intro d
  induction d with
  | zero =>
    intro q hq hqc
    obtain rfl : q = i := by omega
    have h : nI q + (-1) < nI q := by
      cases q with
      | zero => rw [nI_0]; decide
      | succ q => rw [pk_m1]; exact nI_lt (by omega) (by omega)
    exact br_t h (nm_r (nI_add c s) hp)
  | succ d ih =>
    intro q hq hqc
    obtain ⟨p, rfl⟩ : ∃ p, q = p + 1 := ⟨i + d, by omega⟩
    rw [pk_m1]
    have h : ¬ nI p < nI i := nI_nlt (by omega) (by omega)
    have e1 : nI p + nI s = nI (p + s) := nI_add p s
    have h1 : vp_in (nI p) 40 := vp_in_nI (by omega) (by omega)
    have h2 : vp_in (nI p + nI s) 40 := by rw [e1]; exact vp_in_nI (by omega) (by omega)
    have c1 : (nI p).toNatClampNeg = p := nI_clamp (by omega)
    have c2 : (nI (p + s)).toNatClampNeg = p + s := nI_clamp (by omega)
    have ek : ro_sh (p + 1 + s) (c + s) s a p = a p := if_neg (by omega)
    have g := ih p (by omega) (by omega)
    have es := ro_shD (p + s) (c + s) s a (by omega)
    rw [Nat.add_sub_cancel, show p + s + 1 = p + 1 + s by omega] at es
    rw [← es] at g
    exact br_f h ⟨h1, h2, nm_r (by rw [e1, c1, c2, ek]) (nm_e g)⟩
/-- Y: the places behind the copy -/
theorem ro_tw69 (c j s : Nat) (a b : Nat → Int32) (hj : j ≤ c) (hs : c + s ≤ 40) (post : Int32 → SY → Prop) (hp : post (nI (c + s)) (nI (c + s), ro_sh j (c + s) s a, ro_kp c a b)) : ∀ (d p : Nat), p + d = c → j ≤ p →
    wY_twice_69 post (nI s) (nI c) (d + 1) (nI p) (ro_sh j (p + s) s a) (ro_kp c a b) := by
  intro d
  induction d with
  | zero =>
    intro p hpd hjp
    obtain rfl : p = c := by omega
    exact br_t (nI_le (by omega) (by omega)) (nm_r (nI_add p s) hp)
  | succ d ih =>
    intro p hpd hjp
    have h : ¬ nI c ≤ nI p := nI_ge (by omega) (by omega)
    have e1 : nI p + nI s = nI (p + s) := nI_add p s
    have h1 : vp_in (nI p) 40 := vp_in_nI (by omega) (by omega)
    have h2 : vp_in (nI p + nI s) 40 := by rw [e1]; exact vp_in_nI (by omega) (by omega)
    have c1 : (nI p).toNatClampNeg = p := nI_clamp (by omega)
    have c2 : (nI (p + s)).toNatClampNeg = p + s := nI_clamp (by omega)
    have ek : ro_kp c a b p = a p := if_pos (by omega)
    have g := ih (p + 1) (by omega) (by omega)
    have es := ro_shU j (p + s) s a (by omega)
    rw [Nat.add_sub_cancel, show p + s + 1 = p + 1 + s by omega] at es
    rw [← es] at g
    exact br_f h ⟨h1, h2, nm_r (by rw [e1, c1, c2, ek]) (nm_r (nI_1 p) g)⟩
/-- Y: the copy itself -/
theorem ro_tw36 (c j s : Nat) (a b : Nat → Int32) (hsj : s ≤ j) (hj : j ≤ c) (hs : c + s ≤ 40) (post : Int32 → SY → Prop) (hp : post (nI (c + s)) (nI (c + s), ro_sh j (c + s) s a, ro_kp c a b)) : ∀ (d p : Nat), p + d = j + s → j ≤ p →
    wY_twice_36 post (nI j) (nI s) (nI c) (d + 1) (nI p) (ro_sh j p s a) (ro_kp c a b) := by
  have e0 : nI j + nI s = nI (j + s) := nI_add j s
  intro d
  induction d with
  | zero =>
    intro p hpd hjp
    obtain rfl : p = j + s := by omega
    have h : nI j + nI s ≤ nI (j + s) := by rw [e0]; exact nI_le (by omega) (by omega)
    exact br_t h ⟨_, ro_tw69 c j s a b hj hs post hp (c - j) j (by omega) (by omega)⟩
  | succ d ih =>
    intro p hpd hjp
    have h : ¬ nI j + nI s ≤ nI p := by rw [e0]; exact nI_ge (by omega) (by omega)
    have e1 : nI p - nI s = nI (p - s) := pk_sub (by omega)
    have h1 : vp_in (nI p) 40 := vp_in_nI (by omega) (by omega)
    have h2 : vp_in (nI p - nI s) 40 := by rw [e1]; exact vp_in_nI (by omega) (by omega)
    have c1 : (nI p).toNatClampNeg = p := nI_clamp (by omega)
    have c2 : (nI (p - s)).toNatClampNeg = p - s := nI_clamp (by omega)
    have ek : ro_kp c a b (p - s) = a (p - s) := if_pos (by omega)
    have g := ih (p + 1) (by omega) (by omega)
    rw [← ro_shU j p s a (by omega)] at g
    exact br_f h ⟨h2, h1, nm_r (by rw [e1, c1, c2, ek]) (nm_r (nI_1 p) g)⟩
theorem i_vc_twice {k : Nat} {u : SX} {v : SY} (I : i_Rel k u v) (hk : k + 4 ≤ 2048) (v1 : Int32) (v2 : Int32) : wpX_twice (fun r u' => wpY_twice (fun r' v' => r' = r ∧ i_Rel (k + 4) u' v') v v1 v2) u v1 v2 := by
  obtain ⟨n, a, b, hn, rfl, rfl⟩ := I
  unfold wpX_twice wpY_twice
  dsimp only
  rcases ro_there hn a b v1 v2 with ⟨tX, tY⟩ | ⟨i, j, hij, hj, rfl, rfl, tX, tY⟩
  · refine tX _ (br_t rfl ?_)
    exact tY _ (br_t rfl ⟨rfl, ro_mk hn⟩)
  · refine tX _ (br_f ro_1 (nm_r (pk_sub hij) ?_))
    by_cases hs : n + (j - i) ≤ 40
    · have h : nI n + nI (j - i) ≤ 40 := by rw [nI_add]; exact nI_le (b := 40) hs (by decide)
      have e : nI n - 1 = nI n + (-1) := Int32.sub_eq_add_neg _ _
      have gx := fun post hp => ro_tw37 n i (j - i) a (by omega) hs post hp (n - i) n (by omega) (by omega)
      rw [ro_sh0 (n + (j - i)) (n + (j - i)) (j - i) a (by omega), show i + (j - i) = j by omega] at gx
      have gy := fun post hp => ro_tw36 n j (j - i) a b (by omega) hj hs post hp (j - i) j (by omega) (by omega)
      rw [ro_sh0 j j (j - i) a (by omega)] at gy
      refine br_t h (nm_r e ⟨_, gx _ ?_⟩)
      refine tY _ (br_f ro_1 (nm_r (pk_sub hij) (br_t h (ro_keep n a b hn _ ?_))))
      exact ⟨_, gy _ ⟨rfl, ro_mk hs⟩⟩
    · have h : ¬ nI n + nI (j - i) ≤ 40 := by rw [nI_add]; exact nI_ge (a := 40) (by omega) (by omega)
      refine br_f h ?_
      exact tY _ (br_f ro_1 (nm_r (pk_sub hij) (br_f h ⟨rfl, ro_mk hn⟩)))
end
section
/-- two neighbouring stretches f .. m and m .. t that change sides -/
theorem ro_rot (f m t : Nat) (a : Nat → Int32) (h1 : f ≤ m) (h2 : m ≤ t) (q : Nat) :
    ro_rv f t (ro_rv m t (ro_rv f m a)) q = if f ≤ q ∧ q < t then (if q < f + (t - m) then a (q + (m - f)) else a (q - (t - m))) else a q := by
  unfold ro_rv
  by_cases g1 : f ≤ q ∧ q < t
  · rw [if_pos g1, if_pos g1]
    by_cases g2 : q < f + (t - m)
    · rw [if_pos g2, if_pos (by omega), if_neg (by omega)]
      exact congrArg a (by omega)
    · rw [if_neg g2, if_neg (by omega), if_pos (by omega)]
      exact congrArg a (by omega)
  · rw [if_neg g1, if_neg g1, if_neg (by omega), if_neg (by omega)]
/-- the sequence behind a move of the s ints from i to place k -/
def ro_md (i s k : Nat) (a : Nat → Int32) : Nat → Int32 := fun q =>
  if q < k then (if q < i then a q else a (q + s)) else (if q < k + s then a (i + q - k) else (if q - s < i then a (q - s) else a q))
theorem ro_mdL (i s k : Nat) (a : Nat → Int32) (h : k < i) : ro_rv k (i + s) (ro_rv i (i + s) (ro_rv k i a)) = ro_md i s k a := by
  funext q
  rw [ro_rot k i (i + s) a (by omega) (by omega)]
  unfold ro_md
  by_cases g1 : q < k
  · rw [if_neg (by omega), if_pos g1, if_pos (by omega)]
  · rw [if_neg g1]
    by_cases g2 : q < k + s
    · rw [if_pos (by omega), if_pos (by omega), if_pos g2]
      exact congrArg a (by omega)
    · rw [if_neg g2]
      by_cases g3 : q - s < i
      · rw [if_pos (by omega), if_neg (by omega), if_pos g3]
        exact congrArg a (by omega)
      · rw [if_neg (by omega), if_neg g3]
theorem ro_mdR (i s k : Nat) (a : Nat → Int32) (h : i ≤ k) : ro_rv i (k + s) (ro_rv (i + s) (k + s) (ro_rv i (i + s) a)) = ro_md i s k a := by
  funext q
  rw [ro_rot i (i + s) (k + s) a (by omega) (by omega)]
  unfold ro_md
  by_cases g1 : q < k
  · rw [if_pos g1]
    by_cases g2 : q < i
    · rw [if_neg (by omega), if_pos g2]
    · rw [if_pos (by omega), if_pos (by omega), if_neg g2]
      exact congrArg a (by omega)
  · rw [if_neg g1]
    by_cases g2 : q < k + s
    · rw [if_pos (by omega), if_neg (by omega), if_pos g2]
      exact congrArg a (by omega)
    · rw [if_neg (by omega), if_neg g2, if_neg (by omega)]
theorem ro_mdE (i s k c : Nat) (a : Nat → Int32) (h1 : i + s ≤ c) (h2 : k + s ≤ c) (q : Nat) (h : c ≤ q) : ro_md i s k a q = a q := by
  unfold ro_md
  rw [if_neg (by omega), if_neg (by omega), if_neg (by omega)]
theorem ro_swap (c f m t : Nat) (a : Nat → Int32) (h1 : f ≤ m) (h2 : m ≤ t) (h3 : t ≤ 40) (post : SX → Prop) (hp : post (nI c, ro_rv f t (ro_rv m t (ro_rv f m a)))) : wpX_swapNeighbours post (nI c, a) (nI f) (nI m) (nI t) := by
  unfold wpX_swapNeighbours
  dsimp only
  refine ro_turn c f m a h1 (by omega) _ ?_
  dsimp only
  refine ro_turn c m t _ h2 h3 _ ?_
  dsimp only
  refine ro_turn c f t _ (by omega) h3 _ ?_
  exact hp
/-- what the reference's loop has written before place p -/
def ro_my (i s k p : Nat) (a : Nat → Int32) : Nat → Int32 := fun q => if q < p then ro_md i s k a q else a q
theorem ro_myS (i s k p : Nat) (a : Nat → Int32) : upd (ro_my i s k p a) p (ro_md i s k a p) = ro_my i s k (p + 1) a := by
  funext q
  by_cases h1 : q = p
  · rw [h1, pk_us]
    exact (if_pos (by omega)).symm
  · rw [pk_un h1]
    unfold ro_my
    by_cases h2 : q < p
    · rw [if_pos h2, if_pos (by omega)]
    · rw [if_neg h2, if_neg (by omega)]
/-- how many ints outside of the stretch lie before place p -/
def ro_nm (s k p : Nat) : Nat := if p < k then p else (if p < k + s then k else p - s)
/-- where the reference's rest stands behind m of them -/
def ro_rs (i s m : Nat) : Nat := if m ≤ i then m else m + s
theorem ro_nmO (s k p : Nat) (h : p < k ∨ k + s ≤ p) : ro_nm s k (p + 1) = ro_nm s k p + 1 := by
  unfold ro_nm
  rcases Nat.lt_or_ge p k with g | g
  · rw [if_pos g]
    by_cases g1 : p + 1 < k
    · rw [if_pos g1]
    · rw [if_neg g1]
      by_cases g2 : p + 1 < k + s
      · rw [if_pos g2]; omega
      · rw [if_neg g2]; omega
  · rw [if_neg (show ¬ p + 1 < k by omega), if_neg (show ¬ p + 1 < k + s by omega), if_neg (show ¬ p < k by omega), if_neg (show ¬ p < k + s by omega)]
    omega
theorem ro_nmI (s k p : Nat) (h1 : k ≤ p) (h2 : p < k + s) : ro_nm s k (p + 1) = ro_nm s k p := by
  unfold ro_nm
  rw [if_neg (show ¬ p + 1 < k by omega), if_neg (show ¬ p < k by omega), if_pos h2]
  by_cases g2 : p + 1 < k + s
  · rw [if_pos g2]
  · rw [if_neg g2]; omega
/-- the place that is read for a place outside of the moved stretch -/
def ro_src (i s m : Nat) : Nat := if m < i then m else m + s
theorem ro_rsS (i s m : Nat) : ro_rs i s (m + 1) = ro_src i s m + 1 := by
  unfold ro_rs ro_src
  by_cases h : m < i
  · rw [if_pos h, if_pos (by omega)]
  · rw [if_neg h, if_neg (by omega)]; omega
theorem ro_mdO (i s k p : Nat) (a : Nat → Int32) (h : p < k ∨ k + s ≤ p) : ro_md i s k a p = a (ro_src i s (ro_nm s k p)) := by
  unfold ro_md ro_nm ro_src
  rcases Nat.lt_or_ge p k with g | g
  · rw [if_pos g, if_pos g]
    by_cases g1 : p < i
    · rw [if_pos g1, if_pos g1]
    · rw [if_neg g1, if_neg g1]
  · rw [if_neg (show ¬ p < k by omega), if_neg (show ¬ p < k + s by omega), if_neg (show ¬ p < k by omega), if_neg (show ¬ p < k + s by omega)]
    by_cases g1 : p - s < i
    · rw [if_pos g1, if_pos g1]
    · rw [if_neg g1, if_neg g1]
      exact congrArg a (by omega)
theorem ro_nmB (s k p c : Nat) (hk : k + s ≤ c) (hp : p < c) (h : p < k ∨ k + s ≤ p) : ro_nm s k p + s < c := by
  unfold ro_nm
  rcases Nat.lt_or_ge p k with g | g
  · rw [if_pos g]; omega
  · rw [if_neg (show ¬ p < k by omega), if_neg (show ¬ p < k + s by omega)]; omega
theorem ro_mv88 (c i s k p : Nat) (a b A : Nat → Int32) (hi : i + s ≤ c) (hk : k + s ≤ c) (hc : c ≤ 40) (hp : p < c) (h : p < k ∨ k + s ≤ p) (post : Int32 → SY → Prop) (J : Int32 → Int32 → (Nat → Int32) → (Nat → Int32) → Prop)
    (g : J (nI (ro_rs i s (ro_nm s k (p + 1)))) (nI (p + 1)) (upd A p (ro_md i s k a p)) (ro_kp c a b)) :
    wY_move_88 post J (nI i) (nI (i + s)) (nI k) (nI s) (nI (ro_rs i s (ro_nm s k p))) (nI p) (nI c) A (ro_kp c a b) := by
  have hB := ro_nmB s k p c hk hp h
  rw [ro_nmO s k p h, ro_rsS, ro_mdO i s k p a h] at g
  generalize ro_nm s k p = m at g hB
  have hs : ro_src i s m < c := by
    unfold ro_src
    by_cases z : m < i
    · rw [if_pos z]; omega
    · rw [if_neg z]; omega
  have h1 : vp_in (nI p) 40 := vp_in_nI (by omega) (by omega)
  have h2 : vp_in (nI (ro_src i s m)) 40 := vp_in_nI (by omega) (by omega)
  have c1 : (nI p).toNatClampNeg = p := nI_clamp (by omega)
  have c2 : (nI (ro_src i s m)).toNatClampNeg = ro_src i s m := nI_clamp (by omega)
  have ek : ro_kp c a b (ro_src i s m) = a (ro_src i s m) := if_pos hs
  have key : wY_move_97 post J (nI i) (nI (i + s)) (nI k) (nI s) (nI (ro_src i s m)) (nI p) (nI c) A (ro_kp c a b) :=
    ⟨h2, h1, nm_r (by rw [c1, c2, ek]) (nm_r (nI_1 _) (nm_r (nI_1 p) g))⟩
  by_cases z : m = i
  · have e : ro_src i s m = i + s := by
      unfold ro_src
      rw [if_neg (by omega)]; omega
    have e2 : ro_rs i s m = i := by
      unfold ro_rs
      rw [if_pos (by omega)]; omega
    rw [e] at key
    rw [e2]
    exact br_t rfl key
  · have e : ro_rs i s m = ro_src i s m := by
      unfold ro_src ro_rs
      by_cases y : m < i
      · rw [if_pos y, if_pos (by omega)]
      · rw [if_neg y, if_neg (by omega)]
    have ne : ¬ nI (ro_rs i s m) = nI i := by
      rw [nI_eq (by omega) (by omega)]
      unfold ro_rs
      by_cases y : m ≤ i
      · rw [if_pos y]; omega
      · rw [if_neg y]; omega
    rw [e] at ne
    rw [e]
    exact br_f ne key
theorem ro_mv43 (c i s k : Nat) (a b : Nat → Int32) (hi : i + s ≤ c) (hk : k + s ≤ c) (hc : c ≤ 40) (post : Int32 → SY → Prop) (hp : post 1 (nI c, ro_md i s k a, ro_kp c a b)) : ∀ (d p : Nat), p + d = c →
    wY_move_43 post (nI i) (nI (i + s)) (nI k) (nI s) (nI c) (d + 1) (nI (ro_rs i s (ro_nm s k p))) (nI p) (ro_my i s k p a) (ro_kp c a b) := by
  intro d
  induction d with
  | zero =>
    intro p hpd
    obtain rfl : p = c := by omega
    have e : ro_my i s k p a = ro_md i s k a := by
      funext q
      unfold ro_my
      by_cases z : q < p
      · rw [if_pos z]
      · rw [if_neg z, ro_mdE i s k p a hi hk q (by omega)]
    rw [e]
    exact br_t (nI_le (by omega) (by omega)) hp
  | succ d ih =>
    intro p hpd
    have h : ¬ nI c ≤ nI p := nI_ge (by omega) (by omega)
    have g := ih (p + 1) (by omega)
    rw [← ro_myS] at g
    by_cases g1 : p < k
    · exact br_f h (br_t (nI_lt g1 (by omega)) (ro_mv88 c i s k p a b _ hi hk hc (by omega) (Or.inl g1) post _ g))
    · have h1 : ¬ nI p < nI k := nI_nlt (by omega) (by omega)
      by_cases g2 : k + s ≤ p
      · have h2 : nI k + nI s ≤ nI p := by rw [nI_add]; exact nI_le g2 (by omega)
        exact br_f h (br_f h1 (br_t h2 (ro_mv88 c i s k p a b _ hi hk hc (by omega) (Or.inr g2) post _ g)))
      · have h2 : ¬ nI k + nI s ≤ nI p := by rw [nI_add]; exact nI_ge (by omega) (by omega)
        have e1 : nI i + nI p - nI k = nI (i + p - k) := by rw [nI_add, pk_sub (by omega)]
        have h3 : vp_in (nI i + nI p - nI k) 40 := by rw [e1]; exact vp_in_nI (by omega) (by omega)
        have h4 : vp_in (nI p) 40 := vp_in_nI (by omega) (by omega)
        have c1 : (nI p).toNatClampNeg = p := nI_clamp (by omega)
        have c2 : (nI (i + p - k)).toNatClampNeg = i + p - k := nI_clamp (by omega)
        have ek : ro_kp c a b (i + p - k) = a (i + p - k) := if_pos (by omega)
        have em : ro_md i s k a p = a (i + p - k) := by
          unfold ro_md
          rw [if_neg g1, if_pos (by omega)]
        rw [ro_nmI s k p (by omega) (by omega), em] at g
        exact br_f h (br_f h1 (br_f h2 ⟨h3, h4, nm_r (by rw [e1, c1, c2, ek]) (nm_r (nI_1 p) g)⟩))
theorem i_vc_move {k : Nat} {u : SX} {v : SY} (I : i_Rel k u v) (hk : k + 4 ≤ 2048) (v1 : Int32) (v2 : Int32) (v3 : Int32) : wpX_move (fun r u' => wpY_move (fun r' v' => r' = r ∧ i_Rel (k + 4) u' v') v v1 v2 v3) u v1 v2 v3 := by
  obtain ⟨n, a, b, hn, rfl, rfl⟩ := I
  unfold wpX_move wpY_move
  dsimp only
  rcases ro_there hn a b v1 v2 with ⟨tX, tY⟩ | ⟨i, j, hij, hj, rfl, rfl, tX, tY⟩
  · refine tX _ (br_t rfl ?_)
    exact tY _ (br_t rfl ⟨rfl, ro_mk hn⟩)
  · obtain ⟨s, rfl⟩ : ∃ s, j = i + s := ⟨j - i, by omega⟩
    have es : nI (i + s) - nI i = nI s := by rw [pk_sub hij]; exact congrArg nI (by omega)
    refine tX _ (br_f ro_1 (nm_r es ?_))
    by_cases h0 : v3 < 0
    · refine br_t h0 ?_
      exact tY _ (br_f ro_1 (nm_r es (br_t h0 ⟨rfl, ro_mk hn⟩)))
    · refine br_f h0 ?_
      by_cases h1 : v3 ≤ nI n - nI s
      · refine br_t h1 ?_
        obtain ⟨m, hm, rfl⟩ := nI_of h0
        have h2 : m + s ≤ n := by
          have z := h1
          rw [pk_sub (by omega), nI_leI hm (by omega)] at z
          omega
        have gY : ∀ post : Int32 → SY → Prop, post 1 (nI n, ro_md i s m a, ro_kp n a b) → ∃ n43 : Nat, wY_move_43 post (nI i) (nI (i + s)) (nI m) (nI s) (nI n) n43 0 0 a (ro_kp n a b) := by
          intro post hp
          have g := ro_mv43 n i s m a b hj h2 hn post hp n 0 (by omega)
          have e1 : ro_my i s m 0 a = a := by
            funext q
            exact if_neg (by omega)
          have e2 : ro_rs i s (ro_nm s m 0) = 0 := by
            have z : ro_nm s m 0 = 0 := by
              unfold ro_nm
              by_cases y : 0 < m
              · rw [if_pos y]
              · rw [if_neg y]
                by_cases x : 0 < m + s
                · rw [if_pos x]; omega
                · rw [if_neg x]; omega
            rw [z]
            exact if_pos (by omega)
          rw [e1, e2, nI_0] at g
          exact ⟨_, g⟩
        by_cases h3 : i ≤ m
        · refine br_t (nI_le h3 hm) ?_
          rw [nI_add]
          refine ro_swap n i (i + s) (m + s) a (by omega) (by omega) (by omega) _ ?_
          rw [ro_mdR i s m a h3]
          dsimp only
          refine tY _ (br_f ro_1 (nm_r es (br_f h0 (br_t h1 (ro_keep n a b hn _ ?_)))))
          exact gY _ ⟨rfl, ro_mk hn⟩
        · refine br_f (nI_ge (by omega) (by omega)) ?_
          refine ro_swap n m i (i + s) a (by omega) (by omega) (by omega) _ ?_
          rw [ro_mdL i s m a (by omega)]
          dsimp only
          refine tY _ (br_f ro_1 (nm_r es (br_f h0 (br_t h1 (ro_keep n a b hn _ ?_)))))
          exact gY _ ⟨rfl, ro_mk hn⟩
      · refine br_f h1 ?_
        exact tY _ (br_f ro_1 (nm_r es (br_f h0 (br_f h1 ⟨rfl, ro_mk hn⟩))))
end
section
theorem i_vc_length {k : Nat} {u : SX} {v : SY} (I : i_Rel k u v) (hk : k + 4 ≤ 2048) : wpX_length (fun r => wpY_length (fun r' => r' = r ∧ i_Rel (k + 4) u v) v) u := by
  obtain ⟨n, a, b, hn, rfl, rfl⟩ := I
  exact ⟨rfl, ro_mk hn⟩
theorem i_vc_clear {k : Nat} {u : SX} {v : SY} (I : i_Rel k u v) (hk : k + 4 ≤ 2048) : wpX_clear (fun r u' => wpY_clear (fun r' v' => r' = r ∧ i_Rel (k + 4) u' v') v) u := by
  obtain ⟨n, a, b, hn, rfl, rfl⟩ := I
  exact ⟨rfl, 0, a, b, by omega, rfl, rfl⟩
end
