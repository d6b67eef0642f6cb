section
theorem pk_us {f : Nat → Int32} {k : Nat} {x : Int32} : upd f k x k = x := if_pos rfl
theorem pk_un {f : Nat → Int32} {k j : Nat} {x : Int32} (h : j ≠ k) : upd f k x j = f j := if_neg h
theorem pk_sub {a b : Nat} (h : b ≤ a) : nI a - nI b = nI (a - b) := by
  obtain ⟨c, rfl⟩ : ∃ c, a = c + b := ⟨a - b, by omega⟩
  rw [← nI_add, Int32.add_sub_cancel, Nat.add_sub_cancel]
theorem pk_m1 (n : Nat) : nI (n + 1) + (-1) = nI n := by
  rw [← nI_1, Int32.add_assoc, show (1 : Int32) + (-1) = 0 from rfl, Int32.add_zero]
theorem pk_div {a d : Nat} (ha : a < 2 ^ 31) (h0 : 0 < d) (hd : d < 2 ^ 31) : nI a / nI d = nI (a / d) := by
  apply Int32.toInt_inj.mp
  rw [lg_idiv_nonneg (by rw [nI_toInt ha]; omega) (by rw [nI_toInt hd]; omega), nI_toInt ha, nI_toInt hd, nI_toInt (Nat.lt_of_le_of_lt (Nat.div_le_self a d) ha)]
  first | rfl | exact (Int.natCast_ediv _ _).symm
/-- both sides hold the same count, at most 40, and the same array of ints; the reference's second array is anything -/
def i_Rel (_ : Nat) (u : SX) (v : SY) : Prop := ∃ (n : Nat) (a b : Nat → Int32), n ≤ 40 ∧ u = (nI n, a) ∧ v = (nI n, a, b)
theorem i_up {k : Nat} {u : SX} {v : SY} (h : i_Rel k u v) : i_Rel (k + 4) u v := h
theorem i_vc0 : wpX_init (fun u => wpY_init (fun v => i_Rel 0 u v)) := ⟨0, fun _ => 0, fun _ => 0, by omega, rfl, rfl⟩
theorem ro_mk {k n : Nat} {a b : Nat → Int32} (h : n ≤ 40) : i_Rel k (nI n, a) (nI n, a, b) := ⟨n, a, b, h, rfl, rfl⟩
theorem ro_1 : ¬ (1 : Int32) = 0 := by decide
/-- a stretch that isn't there is refused on both sides; else its ends are naturals -/
theorem ro_there {n : Nat} (hn : n ≤ 40) (a b : Nat → Int32) (x y : Int32) :
    ((∀ post : Int32 → Prop, post 0 → wpX_isThere post (nI n, a) x y) ∧ (∀ post : Int32 → Prop, post 0 → wpY_isStretch post (nI n, a, b) x y))
    ∨ ∃ i j : Nat, i ≤ j ∧ j ≤ n ∧ x = nI i ∧ y = nI j ∧ (∀ post : Int32 → Prop, post 1 → wpX_isThere post (nI n, a) (nI i) (nI j)) ∧ (∀ post : Int32 → Prop, post 1 → wpY_isStretch post (nI n, a, b) (nI i) (nI j)) := by
  by_cases h0 : x < 0
  · exact Or.inl ⟨fun _ h => br_t h0 h, fun _ h => br_t h0 h⟩
  · by_cases h1 : y < x
    · exact Or.inl ⟨fun _ h => br_f h0 (br_t h1 h), fun _ h => br_f h0 (br_t h1 h)⟩
    · by_cases h2 : nI n < y
      · exact Or.inl ⟨fun _ h => br_f h0 (br_f h1 (br_t h2 h)), fun _ h => br_f h0 (br_f h1 (br_t h2 h))⟩
      · have hy : ¬ y < 0 := fun z => h1 (Int32.lt_of_lt_of_le z (Int32.not_lt.mp h0))
        obtain ⟨i, hi, rfl⟩ := nI_of h0
        obtain ⟨j, hj, rfl⟩ := nI_of hy
        have g1 : ¬ j < i := fun z => h1 (nI_lt z hi)
        have g2 : ¬ n < j := fun z => h2 (nI_lt z hj)
        exact Or.inr ⟨i, j, by omega, by omega, rfl, rfl, fun _ h => br_f h0 (br_f h1 (br_f h2 h)), fun _ h => br_f h0 (br_f h1 (br_f h2 h))⟩
/-- both sides judge an int by the same bounds -/
theorem ro_allow (u : SX) (v : SY) (w : Int64) :
    ((∀ post : Int32 → Prop, post 0 → wpX_isAllowed post u w) ∧ (∀ post : Int32 → Prop, post 0 → wpY_inRange post v w))
    ∨ ((∀ post : Int32 → Prop, post 1 → wpX_isAllowed post u w) ∧ (∀ post : Int32 → Prop, post 1 → wpY_inRange post v w)) := by
  by_cases h0 : w < (-1000000)
  · exact Or.inl ⟨fun _ h => br_t h0 h, fun _ h => br_t h0 h⟩
  · by_cases h1 : 1000000 < w
    · exact Or.inl ⟨fun _ h => br_f h0 (br_t h1 h), fun _ h => br_f h0 (br_t h1 h)⟩
    · exact Or.inr ⟨fun _ h => br_f h0 (br_f h1 h), fun _ h => br_f h0 (br_f h1 h)⟩
end
section
/-- insert: the same loop on both sides -/
theorem ro_ins (x2 : Int32) (i c : Nat) (o : Nat → Int32) (hc : c < 40) : ∀ (d p : Nat) (a : Nat → Int32), p = i + d → p ≤ c →
    ∃ a' : Nat → Int32, (∀ post : Int32 → SX → Prop, post (nI (c + 1)) (nI (c + 1), a') → wX_insert_40 post (nI i) x2 (nI c) (d + 1) (nI p) a)
      ∧ (∀ post : Int32 → SY → Prop, post (nI (c + 1)) (nI (c + 1), a', o) → wY_insert_40 post (nI i) x2 (nI c) (d + 1) (nI p) a o) := by
  intro d
  induction d with
  | zero =>
    intro p a hp hpc
    have h : nI p ≤ nI i := nI_le (by omega) (by omega)
    have hi : vp_in (nI i) 40 := vp_in_nI (by omega) (by omega)
    exact ⟨upd a (nI i).toNatClampNeg x2, fun post z => br_t h ⟨hi, nm_e (nm_r (nI_1 c) z)⟩, fun post z => br_t h ⟨hi, nm_e (nm_r (nI_1 c) z)⟩⟩
  | succ d ih =>
    intro p a hp hpc
    obtain ⟨q, rfl⟩ : ∃ q, p = q + 1 := ⟨i + d, by omega⟩
    have h : ¬ nI (q + 1) ≤ nI i := nI_ge (by omega) (by omega)
    have h1 : vp_in (nI (q + 1) - 1) 40 := by rw [nI_pred]; exact vp_in_nI (by omega) (by omega)
    have h2 : vp_in (nI (q + 1)) 40 := vp_in_nI (by omega) (by omega)
    obtain ⟨a', hX, hY⟩ := ih q (upd a (nI (q + 1)).toNatClampNeg (a (nI (q + 1) - 1).toNatClampNeg)) (by omega) (by omega)
    exact ⟨a', fun post z => br_f h ⟨h1, h2, nm_e (nm_r (pk_m1 q) (hX post z))⟩, fun post z => br_f h ⟨h1, h2, nm_e (nm_r (pk_m1 q) (hY post z))⟩⟩
theorem i_vc_insert {k : Nat} {u : SX} {v : SY} (I : i_Rel k u v) (hk : k + 4 ≤ 2048) (v1 : Int32) (v2 : Int32) : wpX_insert (fun r u' => wpY_insert (fun r' v' => r' = r ∧ i_Rel (k + 4) u' v') v v1 v2) u v1 v2 := by
  obtain ⟨n, a, b, hn, rfl, rfl⟩ := I
  by_cases hf : n < 40
  · have hX : nI n < 40 := nI_lt (b := 40) hf (by decide)
    have hY : ¬ nI n = 40 := fun z => by
      have := (nI_eq (a := n) (b := 40) (by omega) (by omega)).mp z
      omega
    by_cases h0 : v1 < 0
    · exact br_t hX (br_t h0 (br_f hY (br_t h0 ⟨rfl, ro_mk hn⟩)))
    · by_cases h1 : nI n < v1
      · exact br_t hX (br_f h0 (br_t h1 (br_f hY (br_f h0 (br_t h1 ⟨rfl, ro_mk hn⟩)))))
      · rcases ro_allow (nI n, a) (nI n, a, b) v2.toInt64 with ⟨aX, aY⟩ | ⟨aX, aY⟩
        · exact br_t hX (br_f h0 (br_f h1 (aX _ (br_t rfl (br_f hY (br_f h0 (br_f h1 (aY _ (br_t rfl ⟨rfl, ro_mk hn⟩)))))))))
        · obtain ⟨i, hi, rfl⟩ := nI_of h0
          have g1 : ¬ n < i := fun z => h1 (nI_lt z hi)
          obtain ⟨a', lX, lY⟩ := ro_ins v2 i n b hf (n - i) n a (by omega) (by omega)
          exact br_t hX (br_f h0 (br_f h1 (aX _ (br_f ro_1 ⟨_, lX _ (br_f hY (br_f h0 (br_f h1 (aY _ (br_f ro_1 ⟨_, lY _ ⟨rfl, ro_mk hf⟩⟩)))))⟩))))
  · have hX : ¬ nI n < 40 := nI_nlt (b := 40) (by omega) (by omega)
    have hY : nI n = 40 := congrArg nI (show n = 40 by omega)
    exact br_f hX (br_t hY ⟨rfl, ro_mk hn⟩)
/-- remove: the same loop on both sides -/
theorem ro_rem (i j c : Nat) (o : Nat → Int32) (hij : i ≤ j) (hj : j ≤ c) (hc : c ≤ 40) : ∀ (d p : Nat) (a : Nat → Int32), p + d = c → j ≤ p →
    ∃ a' : Nat → Int32, (∀ post : Int32 → SX → Prop, post (nI (c - (j - i))) (nI (c - (j - i)), a') → wX_remove_18 post (nI (j - i)) (nI c) (d + 1) (nI p) a)
      ∧ (∀ post : Int32 → SY → Prop, post (nI (c - (j - i))) (nI (c - (j - i)), a', o) → wY_remove_13 post (nI i) (nI j) (nI c) (d + 1) (nI p) a o) := by
  have ex : nI c - nI (j - i) = nI (c - (j - i)) := pk_sub (by omega)
  have ey : nI c - (nI j - nI i) = nI (c - (j - i)) := by rw [pk_sub hij, ex]
  intro d
  induction d with
  | zero =>
    intro p a hp hpc
    have h : nI c ≤ nI p := nI_le (by omega) (by omega)
    exact ⟨a, fun post z => br_t h (nm_r ex z), fun post z => br_t h (nm_r ey z)⟩
  | succ d ih =>
    intro p a hp hpc
    have h : ¬ nI c ≤ nI p := nI_ge (by omega) (by omega)
    have e1 : nI p - nI (j - i) = nI (p - (j - i)) := pk_sub (by omega)
    have e2 : nI i + nI p - nI j = nI (p - (j - i)) := by rw [nI_add, pk_sub (by omega)]; exact congrArg nI (by omega)
    have h1 : vp_in (nI p) 40 := vp_in_nI (by omega) (by omega)
    have h2 : vp_in (nI p - nI (j - i)) 40 := by rw [e1]; exact vp_in_nI (by omega) (by omega)
    have h3 : vp_in (nI i + nI p - nI j) 40 := by rw [e2]; exact vp_in_nI (by omega) (by omega)
    obtain ⟨a', hX, hY⟩ := ih (p + 1) (upd a (nI (p - (j - i))).toNatClampNeg (a (nI p).toNatClampNeg)) (by omega) (by omega)
    exact ⟨a', fun post z => br_f h ⟨h1, h2, nm_r (by rw [e1]) (nm_r (nI_1 p) (hX post z))⟩, fun post z => br_f h ⟨h1, h3, nm_r (by rw [e2]) (nm_r (nI_1 p) (hY post z))⟩⟩
theorem i_vc_remove {k : Nat} {u : SX} {v : SY} (I : i_Rel k u v) (hk : k + 4 ≤ 2048) (v1 : Int32) (v2 : Int32) : wpX_remove (fun r u' => wpY_remove (fun r' v' => r' = r ∧ i_Rel (k + 4) u' v') v v1 v2) u v1 v2 := by
  obtain ⟨n, a, b, hn, rfl, rfl⟩ := I
  unfold wpX_remove wpY_remove
  dsimp only
  rcases ro_there hn a b v1 v2 with ⟨tX, tY⟩ | ⟨i, j, hij, hj, rfl, rfl, tX, tY⟩
  · refine tX _ (br_t rfl ?_)
    exact tY _ (br_t rfl ⟨rfl, ro_mk hn⟩)
  · obtain ⟨a', lX, lY⟩ := ro_rem i j n b hij hj hn (n - j) j a (by omega) (by omega)
    refine tX _ (br_f ro_1 (nm_r (pk_sub hij) ⟨_, lX _ ?_⟩))
    exact tY _ (br_f ro_1 ⟨_, lY _ ⟨rfl, ro_mk (by omega)⟩⟩)
theorem i_vc_get {k : Nat} {u : SX} {v : SY} (I : i_Rel k u v) (hk : k + 4 ≤ 2048) (v1 : Int32) : wpX_get (fun r => wpY_get (fun r' => r' = r ∧ i_Rel (k + 4) u v) v v1) u v1 := by
  obtain ⟨n, a, b, hn, rfl, rfl⟩ := I
  by_cases h0 : v1 < 0
  · exact br_t h0 (br_t h0 ⟨rfl, ro_mk hn⟩)
  · obtain ⟨i, hi, rfl⟩ := nI_of h0
    by_cases h1 : i < n
    · have h2 : vp_in (nI i) 40 := vp_in_nI (by omega) (by omega)
      exact br_f h0 (br_t (nI_lt h1 (by omega)) ⟨h2, br_f h0 (br_f (nI_ge h1 (by omega)) ⟨h2, rfl, ro_mk hn⟩)⟩)
    · exact br_f h0 (br_f (nI_nlt (by omega) hi) (br_f h0 (br_t (nI_le (by omega) hi) ⟨rfl, ro_mk hn⟩)))
/-- add: the same judging on both sides -/
theorem ro_can (x3 : Int32) (x1 : Int32) (j c : Nat) (a o : Nat → Int32) (hj : j ≤ 40) : ∀ (d p : Nat), p + d = j →
    ((∀ post : Int32 → Prop, post 0 → wX_canTake_3 post (nI j) x3 (nI c) a (d + 1) (nI p))
      ∧ (∀ post : Int32 → SY → Prop, post 0 (nI c, a, o) → wY_add_14 post x1 (nI j) x3 (nI c) a o (d + 1) (nI p)))
    ∨ ((∀ post : Int32 → Prop, post 1 → wX_canTake_3 post (nI j) x3 (nI c) a (d + 1) (nI p))
      ∧ (∀ post : Int32 → SY → Prop, (∃ m : Nat, wY_add_49 post (nI j) x3 (nI c) m x1 a o) → wY_add_14 post x1 (nI j) x3 (nI c) a o (d + 1) (nI p))) := by
  intro d
  induction d with
  | zero =>
    intro p hp
    have h : nI j ≤ nI p := nI_le (by omega) (by omega)
    exact Or.inr ⟨fun post z => br_t h z, fun post z => br_t h z⟩
  | succ d ih =>
    intro p hp
    have h : ¬ nI j ≤ nI p := nI_ge (by omega) (by omega)
    have h1 : vp_in (nI p) 40 := vp_in_nI (by omega) (by omega)
    rcases ro_allow (nI c, a) (nI c, a, o) ((a (nI p).toNatClampNeg).toInt64 + x3.toInt64) with ⟨aX, aY⟩ | ⟨aX, aY⟩
    · exact Or.inl ⟨fun post z => br_f h ⟨h1, nm_e (aX _ (br_t rfl z))⟩, fun post z => br_f h ⟨h1, aY _ (br_t rfl z)⟩⟩
    · rcases ih (p + 1) (by omega) with ⟨hX, hY⟩ | ⟨hX, hY⟩
      · exact Or.inl ⟨fun post z => br_f h ⟨h1, nm_e (aX _ (br_f ro_1 (nm_r (nI_1 p) (hX post z))))⟩, fun post z => br_f h ⟨h1, aY _ (br_f ro_1 (nm_r (nI_1 p) (hY post z)))⟩⟩
      · exact Or.inr ⟨fun post z => br_f h ⟨h1, nm_e (aX _ (br_f ro_1 (nm_r (nI_1 p) (hX post z))))⟩, fun post z => br_f h ⟨h1, aY _ (br_f ro_1 (nm_r (nI_1 p) (hY post z)))⟩⟩
theorem ro_add (x3 : Int32) (j c : Nat) (o : Nat → Int32) (hj : j ≤ 40) : ∀ (d p : Nat) (a : Nat → Int32), p + d = j →
    ∃ a' : Nat → Int32, (∀ post : Int32 → SX → Prop, post 1 (nI c, a') → wX_add_24 post (nI j) x3 (nI c) (d + 1) (nI p) a)
      ∧ (∀ post : Int32 → SY → Prop, post 1 (nI c, a', o) → wY_add_49 post (nI j) x3 (nI c) (d + 1) (nI p) a o) := by
  intro d
  induction d with
  | zero =>
    intro p a hp
    have h : nI j ≤ nI p := nI_le (by omega) (by omega)
    exact ⟨a, fun post z => br_t h z, fun post z => br_t h z⟩
  | succ d ih =>
    intro p a hp
    have h : ¬ nI j ≤ nI p := nI_ge (by omega) (by omega)
    have h1 : vp_in (nI p) 40 := vp_in_nI (by omega) (by omega)
    obtain ⟨a', hX, hY⟩ := ih (p + 1) (upd a (nI p).toNatClampNeg (a (nI p).toNatClampNeg + x3)) (by omega)
    exact ⟨a', fun post z => br_f h ⟨h1, h1, nm_e (nm_r (nI_1 p) (hX post z))⟩, fun post z => br_f h ⟨h1, h1, nm_e (nm_r (nI_1 p) (hY post z))⟩⟩
theorem i_vc_add {k : Nat} {u : SX} {v : SY} (I : i_Rel k u v) (hk : k + 4 ≤ 2048) (v1 : Int32) (v2 : Int32) (v3 : Int32) : wpX_add (fun r u' => wpY_add (fun r' v' => r' = r ∧ i_Rel (k + 4) u' v') v v1 v2 v3) u v1 v2 v3 := by
  obtain ⟨n, a, b, hn, rfl, rfl⟩ := I
  unfold wpX_add wpY_add
  dsimp only
  rcases ro_there hn a b v1 v2 with ⟨tX, tY⟩ | ⟨i, j, hij, hj, rfl, rfl, tX, tY⟩
  · refine tX _ (br_t rfl ?_)
    exact tY _ (br_t rfl ⟨rfl, ro_mk hn⟩)
  · refine tX _ (br_f ro_1 ?_)
    unfold wpX_canTake
    dsimp only
    rcases ro_can v3 (nI i) j n a b (by omega) (j - i) i (by omega) with ⟨cX, cY⟩ | ⟨cX, cY⟩
    · refine ⟨_, cX _ (br_t rfl ?_)⟩
      exact tY _ (br_f ro_1 ⟨_, cY _ ⟨rfl, ro_mk hn⟩⟩)
    · obtain ⟨a', lX, lY⟩ := ro_add v3 j n b (by omega) (j - i) i a (by omega)
      refine ⟨_, cX _ (br_f ro_1 ⟨_, lX _ ?_⟩)⟩
      exact tY _ (br_f ro_1 ⟨_, cY _ ⟨_, lY _ ⟨rfl, ro_mk hn⟩⟩⟩)
end
section
/-- sum: the same loop on both sides -/
theorem ro_sum (i j c : Nat) (a o : Nat → Int32) (hj : j ≤ 40) (tY : ∀ post : Int32 → Prop, post 1 → wpY_isStretch post (nI c, a, o) (nI i) (nI j)) : ∀ (d p : Nat) (t : Int32), p + d = j →
    ∃ r : Int32, (∀ post : Int32 → Prop, post r → wX_sum_16 post (nI j) (nI c) a (d + 1) t (nI p))
      ∧ (∀ post : Int32 → Prop, post r → wY_sum_5 post (nI i) (nI j) (nI c) a o (d + 1) t (nI p)) := by
  intro d
  induction d with
  | zero =>
    intro p t hp
    have h : nI j ≤ nI p := nI_le (by omega) (by omega)
    exact ⟨t, fun post z => br_t h z, fun post z => by rw [wY_sum_5]; exact tY _ (br_f ro_1 (br_t h z))⟩
  | succ d ih =>
    intro p t hp
    have h : ¬ nI j ≤ nI p := nI_ge (by omega) (by omega)
    have h1 : vp_in (nI p) 40 := vp_in_nI (by omega) (by omega)
    obtain ⟨r, hX, hY⟩ := ih (p + 1) (t + a (nI p).toNatClampNeg) (by omega)
    exact ⟨r, fun post z => br_f h ⟨h1, nm_e (nm_r (nI_1 p) (hX post z))⟩, fun post z => by rw [wY_sum_5]; exact tY _ (br_f ro_1 (br_f h ⟨h1, nm_e (nm_r (nI_1 p) (hY post z))⟩))⟩
theorem i_vc_sum {k : Nat} {u : SX} {v : SY} (I : i_Rel k u v) (hk : k + 4 ≤ 2048) (v1 : Int32) (v2 : Int32) : wpX_sum (fun r => wpY_sum (fun r' => r' = r ∧ i_Rel (k + 4) u v) v v1 v2) u v1 v2 := by
  obtain ⟨n, a, b, hn, rfl, rfl⟩ := I
  unfold wpX_sum wpY_sum
  dsimp only
  rcases ro_there hn a b v1 v2 with ⟨tX, tY⟩ | ⟨i, j, hij, hj, rfl, rfl, tX, tY⟩
  · refine tX _ (br_t rfl ⟨0 + 1, ?_⟩)
    rw [wY_sum_5]
    exact tY _ (br_t rfl ⟨rfl, ro_mk hn⟩)
  · obtain ⟨r, lX, lY⟩ := ro_sum i j n a b (by omega) tY (j - i) i 0 (by omega)
    exact tX _ (br_f ro_1 ⟨_, lX _ ⟨_, lY _ ⟨rfl, ro_mk hn⟩⟩⟩)
/-- greatest: the same loop on both sides; the reference looks at the first int once more -/
theorem ro_gr (j c : Nat) (a o : Nat → Int32) (hj : j ≤ 40) : ∀ (d p : Nat) (t : Int32), p + d = j →
    ∃ r : Int32, (∀ post : Int32 → Prop, post r → wX_greatest_28 post (nI j) (nI c) a (d + 1) t (nI p))
      ∧ (∀ post : Int32 → Prop, post r → wY_greatest_26 post (nI j) (nI c) a o (d + 1) t (nI p)) := by
  intro d
  induction d with
  | zero =>
    intro p t hp
    have h : nI j ≤ nI p := nI_le (by omega) (by omega)
    exact ⟨t, fun post z => br_t h z, fun post z => br_t h z⟩
  | succ d ih =>
    intro p t hp
    have h : ¬ nI j ≤ nI p := nI_ge (by omega) (by omega)
    have h1 : vp_in (nI p) 40 := vp_in_nI (by omega) (by omega)
    by_cases g : a (nI p).toNatClampNeg ≤ t
    · obtain ⟨r, hX, hY⟩ := ih (p + 1) t (by omega)
      exact ⟨r, fun post z => br_f h ⟨h1, br_t g (nm_r (nI_1 p) (hX post z))⟩, fun post z => br_f h ⟨h1, br_t g (nm_r (nI_1 p) (hY post z))⟩⟩
    · obtain ⟨r, hX, hY⟩ := ih (p + 1) (a (nI p).toNatClampNeg) (by omega)
      exact ⟨r, fun post z => br_f h ⟨h1, br_f g ⟨h1, nm_e (nm_r (nI_1 p) (hX post z))⟩⟩, fun post z => br_f h ⟨h1, br_f g ⟨h1, nm_e (nm_r (nI_1 p) (hY post z))⟩⟩⟩
theorem i_vc_greatest {k : Nat} {u : SX} {v : SY} (I : i_Rel k u v) (hk : k + 4 ≤ 2048) (v1 : Int32) (v2 : Int32) : wpX_greatest (fun r => wpY_greatest (fun r' => r' = r ∧ i_Rel (k + 4) u v) v v1 v2) u v1 v2 := by
  obtain ⟨n, a, b, hn, rfl, rfl⟩ := I
  unfold wpX_greatest wpY_greatest
  dsimp only
  rcases ro_there hn a b v1 v2 with ⟨tX, tY⟩ | ⟨i, j, hij, hj, rfl, rfl, tX, tY⟩
  · refine tX _ (br_t rfl ?_)
    exact tY _ (br_t rfl ⟨rfl, ro_mk hn⟩)
  · by_cases e : nI i = nI j
    · refine tX _ (br_f ro_1 (br_t e ?_))
      exact tY _ (br_f ro_1 (br_t e ⟨rfl, ro_mk hn⟩))
    · have hlt : i < j := by
        rcases Nat.lt_or_ge i j with q | q
        · exact q
        · exact absurd (congrArg nI (show i = j by omega)) e
      have h : ¬ nI j ≤ nI i := nI_ge hlt (by omega)
      have h1 : vp_in (nI i) 40 := vp_in_nI (by omega) (by omega)
      obtain ⟨r, lX, lY⟩ := ro_gr j n a b (by omega) (j - (i + 1)) (i + 1) (a (nI i).toNatClampNeg) (by omega)
      refine tX _ (br_f ro_1 (br_f e ⟨h1, nm_e (nm_r (nI_1 i) ⟨_, lX _ ?_⟩)⟩))
      refine tY _ (br_f ro_1 (br_f e ⟨h1, nm_e ⟨j - (i + 1) + 1 + 1, ?_⟩⟩))
      exact br_f h ⟨h1, br_t (Int32.le_refl _) (nm_r (nI_1 i) (lY _ ⟨rfl, ro_mk hn⟩))⟩
theorem ro_sm (j c : Nat) (a o : Nat → Int32) (hj : j ≤ 40) : ∀ (d p : Nat) (t : Int32), p + d = j →
    ∃ r : Int32, (∀ post : Int32 → Prop, post r → wX_smallest_28 post (nI j) (nI c) a (d + 1) t (nI p))
      ∧ (∀ post : Int32 → Prop, post r → wY_smallest_26 post (nI j) (nI c) a o (d + 1) t (nI p)) := by
  intro d
  induction d with
  | zero =>
    intro p t hp
    have h : nI j ≤ nI p := nI_le (by omega) (by omega)
    exact ⟨t, fun post z => br_t h z, fun post z => br_t h z⟩
  | succ d ih =>
    intro p t hp
    have h : ¬ nI j ≤ nI p := nI_ge (by omega) (by omega)
    have h1 : vp_in (nI p) 40 := vp_in_nI (by omega) (by omega)
    by_cases g : t ≤ a (nI p).toNatClampNeg
    · obtain ⟨r, hX, hY⟩ := ih (p + 1) t (by omega)
      exact ⟨r, fun post z => br_f h ⟨h1, br_t g (nm_r (nI_1 p) (hX post z))⟩, fun post z => br_f h ⟨h1, br_t g (nm_r (nI_1 p) (hY post z))⟩⟩
    · obtain ⟨r, hX, hY⟩ := ih (p + 1) (a (nI p).toNatClampNeg) (by omega)
      exact ⟨r, fun post z => br_f h ⟨h1, br_f g ⟨h1, nm_e (nm_r (nI_1 p) (hX post z))⟩⟩, fun post z => br_f h ⟨h1, br_f g ⟨h1, nm_e (nm_r (nI_1 p) (hY post z))⟩⟩⟩
theorem i_vc_smallest {k : Nat} {u : SX} {v : SY} (I : i_Rel k u v) (hk : k + 4 ≤ 2048) (v1 : Int32) (v2 : Int32) : wpX_smallest (fun r => wpY_smallest (fun r' => r' = r ∧ i_Rel (k + 4) u v) v v1 v2) u v1 v2 := by
  obtain ⟨n, a, b, hn, rfl, rfl⟩ := I
  unfold wpX_smallest wpY_smallest
  dsimp only
  rcases ro_there hn a b v1 v2 with ⟨tX, tY⟩ | ⟨i, j, hij, hj, rfl, rfl, tX, tY⟩
  · refine tX _ (br_t rfl ?_)
    exact tY _ (br_t rfl ⟨rfl, ro_mk hn⟩)
  · by_cases e : nI i = nI j
    · refine tX _ (br_f ro_1 (br_t e ?_))
      exact tY _ (br_f ro_1 (br_t e ⟨rfl, ro_mk hn⟩))
    · have hlt : i < j := by
        rcases Nat.lt_or_ge i j with q | q
        · exact q
        · exact absurd (congrArg nI (show i = j by omega)) e
      have h : ¬ nI j ≤ nI i := nI_ge hlt (by omega)
      have h1 : vp_in (nI i) 40 := vp_in_nI (by omega) (by omega)
      obtain ⟨r, lX, lY⟩ := ro_sm j n a b (by omega) (j - (i + 1)) (i + 1) (a (nI i).toNatClampNeg) (by omega)
      refine tX _ (br_f ro_1 (br_f e ⟨h1, nm_e (nm_r (nI_1 i) ⟨_, lX _ ?_⟩)⟩))
      refine tY _ (br_f ro_1 (br_f e ⟨h1, nm_e ⟨j - (i + 1) + 1 + 1, ?_⟩⟩))
      exact br_f h ⟨h1, br_t (Int32.le_refl _) (nm_r (nI_1 i) (lY _ ⟨rfl, ro_mk hn⟩))⟩
/-- firstAtLeast: from the place where the reference has left off skipping, the same loop on both sides -/
theorem ro_fal (x1 x2 : Int32) (s c : Nat) (a o : Nat → Int32) (hc : c ≤ 40) (hs : ∀ p : Nat, s ≤ p → p < c → ¬ nI p < x1) : ∀ (d p : Nat), p + d = c → s ≤ p →
    ∃ r : Int32, (∀ post : Int32 → Prop, post r → wX_firstAtLeast_13 post x2 (nI c) a (d + 1) (nI p))
      ∧ (∀ post : Int32 → Prop, post r → wY_firstAtLeast_2 post x1 x2 (nI c) a o (d + 1) (nI p)) := by
  intro d
  induction d with
  | zero =>
    intro p hp hsp
    have h : nI c ≤ nI p := nI_le (by omega) (by omega)
    exact ⟨-3, fun post z => br_t h z, fun post z => br_t h z⟩
  | succ d ih =>
    intro p hp hsp
    have h : ¬ nI c ≤ nI p := nI_ge (by omega) (by omega)
    have h1 : vp_in (nI p) 40 := vp_in_nI (by omega) (by omega)
    have h2 : ¬ nI p < x1 := hs p hsp (by omega)
    by_cases g : a (nI p).toNatClampNeg < x2
    · obtain ⟨r, hX, hY⟩ := ih (p + 1) (by omega) (by omega)
      exact ⟨r, fun post z => br_f h ⟨h1, br_t g (nm_r (nI_1 p) (hX post z))⟩, fun post z => br_f h (br_f h2 ⟨h1, br_t g (nm_r (nI_1 p) (hY post z))⟩)⟩
    · exact ⟨nI p, fun post z => br_f h ⟨h1, br_f g z⟩, fun post z => br_f h (br_f h2 ⟨h1, br_f g z⟩)⟩
theorem ro_skip (x2 : Int32) (i m c n0 : Nat) (a o : Nat → Int32) (hi : i < 2 ^ 31) (hm : m ≤ i) (hmc : m ≤ c) (hc : c ≤ 40) (post : Int32 → Prop) (h0 : wY_firstAtLeast_2 post (nI i) x2 (nI c) a o n0 (nI m)) : ∀ (d p : Nat), p + d = m →
    wY_firstAtLeast_2 post (nI i) x2 (nI c) a o (n0 + d) (nI p) := by
  intro d
  induction d with
  | zero =>
    intro p hp
    obtain rfl : p = m := by omega
    exact h0
  | succ d ih =>
    intro p hp
    have h : ¬ nI c ≤ nI p := nI_ge (by omega) (by omega)
    have h2 : nI p < nI i := nI_lt (by omega) hi
    exact br_f h (br_t h2 (nm_r (nI_1 p) (ih (p + 1) (by omega))))
theorem i_vc_firstAtLeast {k : Nat} {u : SX} {v : SY} (I : i_Rel k u v) (hk : k + 4 ≤ 2048) (v1 : Int32) (v2 : Int32) : wpX_firstAtLeast (fun r => wpY_firstAtLeast (fun r' => r' = r ∧ i_Rel (k + 4) u v) v v1 v2) u v1 v2 := by
  obtain ⟨n, a, b, hn, rfl, rfl⟩ := I
  unfold wpX_firstAtLeast wpY_firstAtLeast
  dsimp only
  by_cases h0 : 0 ≤ v1
  · refine br_t h0 ?_
    obtain ⟨i, hi, rfl⟩ := nI_of (x := v1) (Int32.not_lt.mpr h0)
    by_cases hin : i ≤ n
    · obtain ⟨r, lX, lY⟩ := ro_fal (nI i) v2 i n a b hn (fun p z z2 => nI_nlt z (by omega)) (n - i) i (by omega) (by omega)
      refine ⟨_, lX _ ⟨n - i + 1 + i, ?_⟩⟩
      have := ro_skip v2 i i n (n - i + 1) a b hi (by omega) hin hn (fun r' => r' = r ∧ i_Rel (k + 4) (nI n, a) (nI n, a, b)) (lY _ ⟨rfl, ro_mk hn⟩) i 0 (by omega)
      rw [nI_0] at this
      exact this
    · refine ⟨1, br_t (nI_le (by omega) hi) ⟨0 + 1 + n, ?_⟩⟩
      have := ro_skip v2 i n n (0 + 1) a b hi (by omega) (by omega) hn (fun r' => r' = (-3) ∧ i_Rel (k + 4) (nI n, a) (nI n, a, b)) (br_t (nI_le (by omega) (by omega)) ⟨rfl, ro_mk hn⟩) n 0 (by omega)
      rw [nI_0] at this
      exact this
  · refine br_f h0 ?_
    have hv : v1 < 0 := Int32.not_le.mp h0
    obtain ⟨r, lX, lY⟩ := ro_fal v1 v2 0 n a b hn (fun p z z2 h => by
      have h3 : nI p < 0 := Int32.lt_trans h hv
      exact nI_pos (by omega) h3) n 0 (by omega) (by omega)
    rw [nI_0] at lX lY
    exact ⟨_, lX _ ⟨_, lY _ ⟨rfl, ro_mk hn⟩⟩⟩
end
section
theorem i_vc_length {k : Nat} {u : SX} {v : SY} (I : i_Rel k u v) (hk : k + 4 ≤ 2048) : wpX_length (fun r => wpY_length (fun r' => r' = r ∧ i_Rel (k + 4) u v) v) u := by
  obtain ⟨n, a, b, hn, rfl, rfl⟩ := I
  exact ⟨rfl, ro_mk hn⟩
theorem i_vc_clear {k : Nat} {u : SX} {v : SY} (I : i_Rel k u v) (hk : k + 4 ≤ 2048) : wpX_clear (fun r u' => wpY_clear (fun r' v' => r' = r ∧ i_Rel (k + 4) u' v') v) u := by
  obtain ⟨n, a, b, hn, rfl, rfl⟩ := I
  exact ⟨rfl, 0, a, b, by omega, rfl, rfl⟩
end
