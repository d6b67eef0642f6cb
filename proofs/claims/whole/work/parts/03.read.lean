/-- sum: the same loop on both sides -/
theorem ro_sum (i j c : Nat) (a o : Nat → Int32) (hj : j ≤ 40) (tY : ∀ post : Int32 → Prop, post 1 → wpY_isStretch post (nI c, a, o) (nI i) (nI j)) : ∀ (d p : Nat) (t : Int32), p + d = j →
    ∃ r : Int32, (∀ post : Int32 → Prop, post r → wX_sum_16 post (nI j) (nI c) a (d + 1) t (nI p))
      ∧ (∀ post : Int32 → Prop, post r → wY_sum_5 post (nI i) (nI j) (nI c) a o (d + 1) t (nI p)) := by
  intro d
  induction d with
  | zero =>
    intro p t hp
    have h : nI j ≤ nI p := nI_le (by omega) (by omega)
    exact ⟨t, fun post z => br_t h z, fun post z => by rw [wY_sum_5]; exact tY _ (br_f ro_1 (br_t h z))⟩
  | succ d ih =>
    intro p t hp
    have h : ¬ nI j ≤ nI p := nI_ge (by omega) (by omega)
    have h1 : vp_in (nI p) 40 := vp_in_nI (by omega) (by omega)
    obtain ⟨r, hX, hY⟩ := ih (p + 1) (t + a (nI p).toNatClampNeg) (by omega)
    exact ⟨r, fun post z => br_f h ⟨h1, nm_e (nm_r (nI_1 p) (hX post z))⟩, fun post z => by rw [wY_sum_5]; exact tY _ (br_f ro_1 (br_f h ⟨h1, nm_e (nm_r (nI_1 p) (hY post z))⟩))⟩
theorem i_vc_sum {k : Nat} {u : SX} {v : SY} (I : i_Rel k u v) (hk : k + 4 ≤ 2048) (v1 : Int32) (v2 : Int32) : wpX_sum (fun r => wpY_sum (fun r' => r' = r ∧ i_Rel (k + 4) u v) v v1 v2) u v1 v2 := by
  obtain ⟨n, a, b, hn, rfl, rfl⟩ := I
  unfold wpX_sum wpY_sum
  dsimp only
  rcases ro_there hn a b v1 v2 with ⟨tX, tY⟩ | ⟨i, j, hij, hj, rfl, rfl, tX, tY⟩
  · refine tX _ (br_t rfl ⟨0 + 1, ?_⟩)
    rw [wY_sum_5]
    exact tY _ (br_t rfl ⟨rfl, ro_mk hn⟩)
  · obtain ⟨r, lX, lY⟩ := ro_sum i j n a b (by omega) tY (j - i) i 0 (by omega)
    exact tX _ (br_f ro_1 ⟨_, lX _ ⟨_, lY _ ⟨rfl, ro_mk hn⟩⟩⟩)
/-- greatest: the same loop on both sides; the reference looks at the first int once more -/
theorem ro_gr (j c : Nat) (a o : Nat → Int32) (hj : j ≤ 40) : ∀ (d p : Nat) (t : Int32), p + d = j →
    ∃ r : Int32, (∀ post : Int32 → Prop, post r → wX_greatest_28 post (nI j) (nI c) a (d + 1) t (nI p))
      ∧ (∀ post : Int32 → Prop, post r → wY_greatest_26 post (nI j) (nI c) a o (d + 1) t (nI p)) := by
  intro d
  induction d with
  | zero =>
    intro p t hp
    have h : nI j ≤ nI p := nI_le (by omega) (by omega)
    exact ⟨t, fun post z => br_t h z, fun post z => br_t h z⟩
  | succ d ih =>
    intro p t hp
    have h : ¬ nI j ≤ nI p := nI_ge (by omega) (by omega)
    have h1 : vp_in (nI p) 40 := vp_in_nI (by omega) (by omega)
    by_cases g : a (nI p).toNatClampNeg ≤ t
    · obtain ⟨r, hX, hY⟩ := ih (p + 1) t (by omega)
      exact ⟨r, fun post z => br_f h ⟨h1, br_t g (nm_r (nI_1 p) (hX post z))⟩, fun post z => br_f h ⟨h1, br_t g (nm_r (nI_1 p) (hY post z))⟩⟩
    · obtain ⟨r, hX, hY⟩ := ih (p + 1) (a (nI p).toNatClampNeg) (by omega)
      exact ⟨r, fun post z => br_f h ⟨h1, br_f g ⟨h1, nm_e (nm_r (nI_1 p) (hX post z))⟩⟩, fun post z => br_f h ⟨h1, br_f g ⟨h1, nm_e (nm_r (nI_1 p) (hY post z))⟩⟩⟩
theorem i_vc_greatest {k : Nat} {u : SX} {v : SY} (I : i_Rel k u v) (hk : k + 4 ≤ 2048) (v1 : Int32) (v2 : Int32) : wpX_greatest (fun r => wpY_greatest (fun r' => r' = r ∧ i_Rel (k + 4) u v) v v1 v2) u v1 v2 := by
  obtain ⟨n, a, b, hn, rfl, rfl⟩ := I
  unfold wpX_greatest wpY_greatest
  dsimp only
  rcases ro_there hn a b v1 v2 with ⟨tX, tY⟩ | ⟨i, j, hij, hj, rfl, rfl, tX, tY⟩
  · refine tX _ (br_t rfl ?_)
    exact tY _ (br_t rfl ⟨rfl, ro_mk hn⟩)
  · by_cases e : nI i = nI j
    · refine tX _ (br_f ro_1 (br_t e ?_))
      exact tY _ (br_f ro_1 (br_t e ⟨rfl, ro_mk hn⟩))
    · have hlt : i < j := by
        rcases Nat.lt_or_ge i j with q | q
        · exact q
        · exact absurd (congrArg nI (show i = j by omega)) e
      have h : ¬ nI j ≤ nI i := nI_ge hlt (by omega)
      have h1 : vp_in (nI i) 40 := vp_in_nI (by omega) (by omega)
      obtain ⟨r, lX, lY⟩ := ro_gr j n a b (by omega) (j - (i + 1)) (i + 1) (a (nI i).toNatClampNeg) (by omega)
      refine tX _ (br_f ro_1 (br_f e ⟨h1, nm_e (nm_r (nI_1 i) ⟨_, lX _ ?_⟩)⟩))
      refine tY _ (br_f ro_1 (br_f e ⟨h1, nm_e ⟨j - (i + 1) + 1 + 1, ?_⟩⟩))
      exact br_f h ⟨h1, br_t (Int32.le_refl _) (nm_r (nI_1 i) (lY _ ⟨rfl, ro_mk hn⟩))⟩
theorem ro_sm (j c : Nat) (a o : Nat → Int32) (hj : j ≤ 40) : ∀ (d p : Nat) (t : Int32), p + d = j →
    ∃ r : Int32, (∀ post : Int32 → Prop, post r → wX_smallest_28 post (nI j) (nI c) a (d + 1) t (nI p))
      ∧ (∀ post : Int32 → Prop, post r → wY_smallest_26 post (nI j) (nI c) a o (d + 1) t (nI p)) := by
  intro d
  induction d with
  | zero =>
    intro p t hp
    have h : nI j ≤ nI p := nI_le (by omega) (by omega)
    exact ⟨t, fun post z => br_t h z, fun post z => br_t h z⟩
  | succ d ih =>
    intro p t hp
    have h : ¬ nI j ≤ nI p := nI_ge (by omega) (by omega)
    have h1 : vp_in (nI p) 40 := vp_in_nI (by omega) (by omega)
    by_cases g : t ≤ a (nI p).toNatClampNeg
    · obtain ⟨r, hX, hY⟩ := ih (p + 1) t (by omega)
      exact ⟨r, fun post z => br_f h ⟨h1, br_t g (nm_r (nI_1 p) (hX post z))⟩, fun post z => br_f h ⟨h1, br_t g (nm_r (nI_1 p) (hY post z))⟩⟩
    · obtain ⟨r, hX, hY⟩ := ih (p + 1) (a (nI p).toNatClampNeg) (by omega)
      exact ⟨r, fun post z => br_f h ⟨h1, br_f g ⟨h1, nm_e (nm_r (nI_1 p) (hX post z))⟩⟩, fun post z => br_f h ⟨h1, br_f g ⟨h1, nm_e (nm_r (nI_1 p) (hY post z))⟩⟩⟩
theorem i_vc_smallest {k : Nat} {u : SX} {v : SY} (I : i_Rel k u v) (hk : k + 4 ≤ 2048) (v1 : Int32) (v2 : Int32) : wpX_smallest (fun r => wpY_smallest (fun r' => r' = r ∧ i_Rel (k + 4) u v) v v1 v2) u v1 v2 := by
  obtain ⟨n, a, b, hn, rfl, rfl⟩ := I
  unfold wpX_smallest wpY_smallest
  dsimp only
  rcases ro_there hn a b v1 v2 with ⟨tX, tY⟩ | ⟨i, j, hij, hj, rfl, rfl, tX, tY⟩
  · refine tX _ (br_t rfl ?_)
    exact tY _ (br_t rfl ⟨rfl, ro_mk hn⟩)
  · by_cases e : nI i = nI j
    · refine tX _ (br_f ro_1 (br_t e ?_))
      exact tY _ (br_f ro_1 (br_t e ⟨rfl, ro_mk hn⟩))
    · have hlt : i < j := by
        rcases Nat.lt_or_ge i j with q | q
        · exact q
        · exact absurd (congrArg nI (show i = j by omega)) e
      have h : ¬ nI j ≤ nI i := nI_ge hlt (by omega)
      have h1 : vp_in (nI i) 40 := vp_in_nI (by omega) (by omega)
      obtain ⟨r, lX, lY⟩ := ro_sm j n a b (by omega) (j - (i + 1)) (i + 1) (a (nI i).toNatClampNeg) (by omega)
      refine tX _ (br_f ro_1 (br_f e ⟨h1, nm_e (nm_r (nI_1 i) ⟨_, lX _ ?_⟩)⟩))
      refine tY _ (br_f ro_1 (br_f e ⟨h1, nm_e ⟨j - (i + 1) + 1 + 1, ?_⟩⟩))
      exact br_f h ⟨h1, br_t (Int32.le_refl _) (nm_r (nI_1 i) (lY _ ⟨rfl, ro_mk hn⟩))⟩
/-- firstAtLeast: from the place where the reference has left off skipping, the same loop on both sides -/
theorem ro_fal (x1 x2 : Int32) (s c : Nat) (a o : Nat → Int32) (hc : c ≤ 40) (hs : ∀ p : Nat, s ≤ p → p < c → ¬ nI p < x1) : ∀ (d p : Nat), p + d = c → s ≤ p →
    ∃ r : Int32, (∀ post : Int32 → Prop, post r → wX_firstAtLeast_13 post x2 (nI c) a (d + 1) (nI p))
      ∧ (∀ post : Int32 → Prop, post r → wY_firstAtLeast_2 post x1 x2 (nI c) a o (d + 1) (nI p)) := by
  intro d
  induction d with
  | zero =>
    intro p hp hsp
    have h : nI c ≤ nI p := nI_le (by omega) (by omega)
    exact ⟨-3, fun post z => br_t h z, fun post z => br_t h z⟩
  | succ d ih =>
    intro p hp hsp
    have h : ¬ nI c ≤ nI p := nI_ge (by omega) (by omega)
    have h1 : vp_in (nI p) 40 := vp_in_nI (by omega) (by omega)
    have h2 : ¬ nI p < x1 := hs p hsp (by omega)
    by_cases g : a (nI p).toNatClampNeg < x2
    · obtain ⟨r, hX, hY⟩ := ih (p + 1) (by omega) (by omega)
      exact ⟨r, fun post z => br_f h ⟨h1, br_t g (nm_r (nI_1 p) (hX post z))⟩, fun post z => br_f h (br_f h2 ⟨h1, br_t g (nm_r (nI_1 p) (hY post z))⟩)⟩
    · exact ⟨nI p, fun post z => br_f h ⟨h1, br_f g z⟩, fun post z => br_f h (br_f h2 ⟨h1, br_f g z⟩)⟩
theorem ro_skip (x2 : Int32) (i m c n0 : Nat) (a o : Nat → Int32) (hi : i < 2 ^ 31) (hm : m ≤ i) (hmc : m ≤ c) (hc : c ≤ 40) (post : Int32 → Prop) (h0 : wY_firstAtLeast_2 post (nI i) x2 (nI c) a o n0 (nI m)) : ∀ (d p : Nat), p + d = m →
    wY_firstAtLeast_2 post (nI i) x2 (nI c) a o (n0 + d) (nI p) := by
  intro d
  induction d with
  | zero =>
    intro p hp
    obtain rfl : p = m := by omega
    exact h0
  | succ d ih =>
    intro p hp
    have h : ¬ nI c ≤ nI p := nI_ge (by omega) (by omega)
    have h2 : nI p < nI i := nI_lt (by omega) hi
    exact br_f h (br_t h2 (nm_r (nI_1 p) (ih (p + 1) (by omega))))
theorem i_vc_firstAtLeast {k : Nat} {u : SX} {v : SY} (I : i_Rel k u v) (hk : k + 4 ≤ 2048) (v1 : Int32) (v2 : Int32) : wpX_firstAtLeast (fun r => wpY_firstAtLeast (fun r' => r' = r ∧ i_Rel (k + 4) u v) v v1 v2) u v1 v2 := by
  obtain ⟨n, a, b, hn, rfl, rfl⟩ := I
  unfold wpX_firstAtLeast wpY_firstAtLeast
  dsimp only
  by_cases h0 : 0 ≤ v1
  · refine br_t h0 ?_
    obtain ⟨i, hi, rfl⟩ := nI_of (x := v1) (Int32.not_lt.mpr h0)
    by_cases hin : i ≤ n
    · obtain ⟨r, lX, lY⟩ := ro_fal (nI i) v2 i n a b hn (fun p z z2 => nI_nlt z (by omega)) (n - i) i (by omega) (by omega)
      refine ⟨_, lX _ ⟨n - i + 1 + i, ?_⟩⟩
      have := ro_skip v2 i i n (n - i + 1) a b hi (by omega) hin hn (fun r' => r' = r ∧ i_Rel (k + 4) (nI n, a) (nI n, a, b)) (lY _ ⟨rfl, ro_mk hn⟩) i 0 (by omega)
      rw [nI_0] at this
      exact this
    · refine ⟨1, br_t (nI_le (by omega) hi) ⟨0 + 1 + n, ?_⟩⟩
      have := ro_skip v2 i n n (0 + 1) a b hi (by omega) (by omega) hn (fun r' => r' = (-3) ∧ i_Rel (k + 4) (nI n, a) (nI n, a, b)) (br_t (nI_le (by omega) (by omega)) ⟨rfl, ro_mk hn⟩) n 0 (by omega)
      rw [nI_0] at this
      exact this
  · refine br_f h0 ?_
    have hv : v1 < 0 := Int32.not_le.mp h0
    obtain ⟨r, lX, lY⟩ := ro_fal v1 v2 0 n a b hn (fun p z z2 h => by
      have h3 : nI p < 0 := Int32.lt_trans h hv
      exact nI_pos (by omega) h3) n 0 (by omega) (by omega)
    rw [nI_0] at lX lY
    exact ⟨_, lX _ ⟨_, lY _ ⟨rfl, ro_mk hn⟩⟩⟩
