/-- two neighbouring stretches f .. m and m .. t that change sides -/
theorem ro_rot (f m t : Nat) (a : Nat → Int32) (h1 : f ≤ m) (h2 : m ≤ t) (q : Nat) :
    ro_rv f t (ro_rv m t (ro_rv f m a)) q = if f ≤ q ∧ q < t then (if q < f + (t - m) then a (q + (m - f)) else a (q - (t - m))) else a q := by
  unfold ro_rv
  by_cases g1 : f ≤ q ∧ q < t
  · rw [if_pos g1, if_pos g1]
    by_cases g2 : q < f + (t - m)
    · rw [if_pos g2, if_pos (by omega), if_neg (by omega)]
      exact congrArg a (by omega)
    · rw [if_neg g2, if_neg (by omega), if_pos (by omega)]
      exact congrArg a (by omega)
  · rw [if_neg g1, if_neg g1, if_neg (by omega), if_neg (by omega)]
/-- the sequence behind a move of the s ints from i to place k -/
def ro_md (i s k : Nat) (a : Nat → Int32) : Nat → Int32 := fun q =>
  if q < k then (if q < i then a q else a (q + s)) else (if q < k + s then a (i + q - k) else (if q - s < i then a (q - s) else a q))
theorem ro_mdL (i s k : Nat) (a : Nat → Int32) (h : k < i) : ro_rv k (i + s) (ro_rv i (i + s) (ro_rv k i a)) = ro_md i s k a := by
  funext q
  rw [ro_rot k i (i + s) a (by omega) (by omega)]
  unfold ro_md
  by_cases g1 : q < k
  · rw [if_neg (by omega), if_pos g1, if_pos (by omega)]
  · rw [if_neg g1]
    by_cases g2 : q < k + s
    · rw [if_pos (by omega), if_pos (by omega), if_pos g2]
      exact congrArg a (by omega)
    · rw [if_neg g2]
      by_cases g3 : q - s < i
      · rw [if_pos (by omega), if_neg (by omega), if_pos g3]
        exact congrArg a (by omega)
      · rw [if_neg (by omega), if_neg g3]
theorem ro_mdR (i s k : Nat) (a : Nat → Int32) (h : i ≤ k) : ro_rv i (k + s) (ro_rv (i + s) (k + s) (ro_rv i (i + s) a)) = ro_md i s k a := by
  funext q
  rw [ro_rot i (i + s) (k + s) a (by omega) (by omega)]
  unfold ro_md
  by_cases g1 : q < k
  · rw [if_pos g1]
    by_cases g2 : q < i
    · rw [if_neg (by omega), if_pos g2]
    · rw [if_pos (by omega), if_pos (by omega), if_neg g2]
      exact congrArg a (by omega)
  · rw [if_neg g1]
    by_cases g2 : q < k + s
    · rw [if_pos (by omega), if_neg (by omega), if_pos g2]
      exact congrArg a (by omega)
    · rw [if_neg (by omega), if_neg g2, if_neg (by omega)]
theorem ro_mdE (i s k c : Nat) (a : Nat → Int32) (h1 : i + s ≤ c) (h2 : k + s ≤ c) (q : Nat) (h : c ≤ q) : ro_md i s k a q = a q := by
  unfold ro_md
  rw [if_neg (by omega), if_neg (by omega), if_neg (by omega)]
theorem ro_swap (c f m t : Nat) (a : Nat → Int32) (h1 : f ≤ m) (h2 : m ≤ t) (h3 : t ≤ 40) (post : SX → Prop) (hp : post (nI c, ro_rv f t (ro_rv m t (ro_rv f m a)))) : wpX_swapNeighbours post (nI c, a) (nI f) (nI m) (nI t) := by
  unfold wpX_swapNeighbours
  dsimp only
  refine ro_turn c f m a h1 (by omega) _ ?_
  dsimp only
  refine ro_turn c m t _ h2 h3 _ ?_
  dsimp only
  refine ro_turn c f t _ (by omega) h3 _ ?_
  exact hp
/-- what the reference's loop has written before place p -/
def ro_my (i s k p : Nat) (a : Nat → Int32) : Nat → Int32 := fun q => if q < p then ro_md i s k a q else a q
theorem ro_myS (i s k p : Nat) (a : Nat → Int32) : upd (ro_my i s k p a) p (ro_md i s k a p) = ro_my i s k (p + 1) a := by
  funext q
  by_cases h1 : q = p
  · rw [h1, pk_us]
    exact (if_pos (by omega)).symm
  · rw [pk_un h1]
    unfold ro_my
    by_cases h2 : q < p
    · rw [if_pos h2, if_pos (by omega)]
    · rw [if_neg h2, if_neg (by omega)]
/-- how many ints outside of the stretch lie before place p -/
def ro_nm (s k p : Nat) : Nat := if p < k then p else (if p < k + s then k else p - s)
/-- where the reference's rest stands behind m of them -/
def ro_rs (i s m : Nat) : Nat := if m ≤ i then m else m + s
theorem ro_nmO (s k p : Nat) (h : p < k ∨ k + s ≤ p) : ro_nm s k (p + 1) = ro_nm s k p + 1 := by
  unfold ro_nm
  rcases Nat.lt_or_ge p k with g | g
  · rw [if_pos g]
    by_cases g1 : p + 1 < k
    · rw [if_pos g1]
    · rw [if_neg g1]
      by_cases g2 : p + 1 < k + s
      · rw [if_pos g2]; omega
      · rw [if_neg g2]; omega
  · rw [if_neg (show ¬ p + 1 < k by omega), if_neg (show ¬ p + 1 < k + s by omega), if_neg (show ¬ p < k by omega), if_neg (show ¬ p < k + s by omega)]
    omega
theorem ro_nmI (s k p : Nat) (h1 : k ≤ p) (h2 : p < k + s) : ro_nm s k (p + 1) = ro_nm s k p := by
  unfold ro_nm
  rw [if_neg (show ¬ p + 1 < k by omega), if_neg (show ¬ p < k by omega), if_pos h2]
  by_cases g2 : p + 1 < k + s
  · rw [if_pos g2]
  · rw [if_neg g2]; omega
/-- the place that is read for a place outside of the moved stretch -/
def ro_src (i s m : Nat) : Nat := if m < i then m else m + s
theorem ro_rsS (i s m : Nat) : ro_rs i s (m + 1) = ro_src i s m + 1 := by
  unfold ro_rs ro_src
  by_cases h : m < i
  · rw [if_pos h, if_pos (by omega)]
  · rw [if_neg h, if_neg (by omega)]; omega
theorem ro_mdO (i s k p : Nat) (a : Nat → Int32) (h : p < k ∨ k + s ≤ p) : ro_md i s k a p = a (ro_src i s (ro_nm s k p)) := by
  unfold ro_md ro_nm ro_src
  rcases Nat.lt_or_ge p k with g | g
  · rw [if_pos g, if_pos g]
    by_cases g1 : p < i
    · rw [if_pos g1, if_pos g1]
    · rw [if_neg g1, if_neg g1]
  · rw [if_neg (show ¬ p < k by omega), if_neg (show ¬ p < k + s by omega), if_neg (show ¬ p < k by omega), if_neg (show ¬ p < k + s by omega)]
    by_cases g1 : p - s < i
    · rw [if_pos g1, if_pos g1]
    · rw [if_neg g1, if_neg g1]
      exact congrArg a (by omega)
theorem ro_nmB (s k p c : Nat) (hk : k + s ≤ c) (hp : p < c) (h : p < k ∨ k + s ≤ p) : ro_nm s k p + s < c := by
  unfold ro_nm
  rcases Nat.lt_or_ge p k with g | g
  · rw [if_pos g]; omega
  · rw [if_neg (show ¬ p < k by omega), if_neg (show ¬ p < k + s by omega)]; omega
theorem ro_mv88 (c i s k p : Nat) (a b A : Nat → Int32) (hi : i + s ≤ c) (hk : k + s ≤ c) (hc : c ≤ 40) (hp : p < c) (h : p < k ∨ k + s ≤ p) (post : Int32 → SY → Prop) (J : Int32 → Int32 → (Nat → Int32) → (Nat → Int32) → Prop)
    (g : J (nI (ro_rs i s (ro_nm s k (p + 1)))) (nI (p + 1)) (upd A p (ro_md i s k a p)) (ro_kp c a b)) :
    wY_move_88 post J (nI i) (nI (i + s)) (nI k) (nI s) (nI (ro_rs i s (ro_nm s k p))) (nI p) (nI c) A (ro_kp c a b) := by
  have hB := ro_nmB s k p c hk hp h
  rw [ro_nmO s k p h, ro_rsS, ro_mdO i s k p a h] at g
  generalize ro_nm s k p = m at g hB
  have hs : ro_src i s m < c := by
    unfold ro_src
    by_cases z : m < i
    · rw [if_pos z]; omega
    · rw [if_neg z]; omega
  have h1 : vp_in (nI p) 40 := vp_in_nI (by omega) (by omega)
  have h2 : vp_in (nI (ro_src i s m)) 40 := vp_in_nI (by omega) (by omega)
  have c1 : (nI p).toNatClampNeg = p := nI_clamp (by omega)
  have c2 : (nI (ro_src i s m)).toNatClampNeg = ro_src i s m := nI_clamp (by omega)
  have ek : ro_kp c a b (ro_src i s m) = a (ro_src i s m) := if_pos hs
  have key : wY_move_97 post J (nI i) (nI (i + s)) (nI k) (nI s) (nI (ro_src i s m)) (nI p) (nI c) A (ro_kp c a b) :=
    ⟨h2, h1, nm_r (by rw [c1, c2, ek]) (nm_r (nI_1 _) (nm_r (nI_1 p) g))⟩
  by_cases z : m = i
  · have e : ro_src i s m = i + s := by
      unfold ro_src
      rw [if_neg (by omega)]; omega
    have e2 : ro_rs i s m = i := by
      unfold ro_rs
      rw [if_pos (by omega)]; omega
    rw [e] at key
    rw [e2]
    exact br_t rfl key
  · have e : ro_rs i s m = ro_src i s m := by
      unfold ro_src ro_rs
      by_cases y : m < i
      · rw [if_pos y, if_pos (by omega)]
      · rw [if_neg y, if_neg (by omega)]
    have ne : ¬ nI (ro_rs i s m) = nI i := by
      rw [nI_eq (by omega) (by omega)]
      unfold ro_rs
      by_cases y : m ≤ i
      · rw [if_pos y]; omega
      · rw [if_neg y]; omega
    rw [e] at ne
    rw [e]
    exact br_f ne key
theorem ro_mv43 (c i s k : Nat) (a b : Nat → Int32) (hi : i + s ≤ c) (hk : k + s ≤ c) (hc : c ≤ 40) (post : Int32 → SY → Prop) (hp : post 1 (nI c, ro_md i s k a, ro_kp c a b)) : ∀ (d p : Nat), p + d = c →
    wY_move_43 post (nI i) (nI (i + s)) (nI k) (nI s) (nI c) (d + 1) (nI (ro_rs i s (ro_nm s k p))) (nI p) (ro_my i s k p a) (ro_kp c a b) := by
  intro d
  induction d with
  | zero =>
    intro p hpd
    obtain rfl : p = c := by omega
    have e : ro_my i s k p a = ro_md i s k a := by
      funext q
      unfold ro_my
      by_cases z : q < p
      · rw [if_pos z]
      · rw [if_neg z, ro_mdE i s k p a hi hk q (by omega)]
    rw [e]
    exact br_t (nI_le (by omega) (by omega)) hp
  | succ d ih =>
    intro p hpd
    have h : ¬ nI c ≤ nI p := nI_ge (by omega) (by omega)
    have g := ih (p + 1) (by omega)
    rw [← ro_myS] at g
    by_cases g1 : p < k
    · exact br_f h (br_t (nI_lt g1 (by omega)) (ro_mv88 c i s k p a b _ hi hk hc (by omega) (Or.inl g1) post _ g))
    · have h1 : ¬ nI p < nI k := nI_nlt (by omega) (by omega)
      by_cases g2 : k + s ≤ p
      · have h2 : nI k + nI s ≤ nI p := by rw [nI_add]; exact nI_le g2 (by omega)
        exact br_f h (br_f h1 (br_t h2 (ro_mv88 c i s k p a b _ hi hk hc (by omega) (Or.inr g2) post _ g)))
      · have h2 : ¬ nI k + nI s ≤ nI p := by rw [nI_add]; exact nI_ge (by omega) (by omega)
        have e1 : nI i + nI p - nI k = nI (i + p - k) := by rw [nI_add, pk_sub (by omega)]
        have h3 : vp_in (nI i + nI p - nI k) 40 := by rw [e1]; exact vp_in_nI (by omega) (by omega)
        have h4 : vp_in (nI p) 40 := vp_in_nI (by omega) (by omega)
        have c1 : (nI p).toNatClampNeg = p := nI_clamp (by omega)
        have c2 : (nI (i + p - k)).toNatClampNeg = i + p - k := nI_clamp (by omega)
        have ek : ro_kp c a b (i + p - k) = a (i + p - k) := if_pos (by omega)
        have em : ro_md i s k a p = a (i + p - k) := by
          unfold ro_md
          rw [if_neg g1, if_pos (by omega)]
        rw [ro_nmI s k p (by omega) (by omega), em] at g
        exact br_f h (br_f h1 (br_f h2 ⟨h3, h4, nm_r (by rw [e1, c1, c2, ek]) (nm_r (nI_1 p) g)⟩))
theorem i_vc_move {k : Nat} {u : SX} {v : SY} (I : i_Rel k u v) (hk : k + 4 ≤ 2048) (v1 : Int32) (v2 : Int32) (v3 : Int32) : wpX_move (fun r u' => wpY_move (fun r' v' => r' = r ∧ i_Rel (k + 4) u' v') v v1 v2 v3) u v1 v2 v3 := by
  obtain ⟨n, a, b, hn, rfl, rfl⟩ := I
  unfold wpX_move wpY_move
  dsimp only
  rcases ro_there hn a b v1 v2 with ⟨tX, tY⟩ | ⟨i, j, hij, hj, rfl, rfl, tX, tY⟩
  · refine tX _ (br_t rfl ?_)
    exact tY _ (br_t rfl ⟨rfl, ro_mk hn⟩)
  · obtain ⟨s, rfl⟩ : ∃ s, j = i + s := ⟨j - i, by omega⟩
    have es : nI (i + s) - nI i = nI s := by rw [pk_sub hij]; exact congrArg nI (by omega)
    refine tX _ (br_f ro_1 (nm_r es ?_))
    by_cases h0 : v3 < 0
    · refine br_t h0 ?_
      exact tY _ (br_f ro_1 (nm_r es (br_t h0 ⟨rfl, ro_mk hn⟩)))
    · refine br_f h0 ?_
      by_cases h1 : v3 ≤ nI n - nI s
      · refine br_t h1 ?_
        obtain ⟨m, hm, rfl⟩ := nI_of h0
        have h2 : m + s ≤ n := by
          have z := h1
          rw [pk_sub (by omega), nI_leI hm (by omega)] at z
          omega
        have gY : ∀ post : Int32 → SY → Prop, post 1 (nI n, ro_md i s m a, ro_kp n a b) → ∃ n43 : Nat, wY_move_43 post (nI i) (nI (i + s)) (nI m) (nI s) (nI n) n43 0 0 a (ro_kp n a b) := by
          intro post hp
          have g := ro_mv43 n i s m a b hj h2 hn post hp n 0 (by omega)
          have e1 : ro_my i s m 0 a = a := by
            funext q
            exact if_neg (by omega)
          have e2 : ro_rs i s (ro_nm s m 0) = 0 := by
            have z : ro_nm s m 0 = 0 := by
              unfold ro_nm
              by_cases y : 0 < m
              · rw [if_pos y]
              · rw [if_neg y]
                by_cases x : 0 < m + s
                · rw [if_pos x]; omega
                · rw [if_neg x]; omega
            rw [z]
            exact if_pos (by omega)
          rw [e1, e2, nI_0] at g
          exact ⟨_, g⟩
        by_cases h3 : i ≤ m
        · refine br_t (nI_le h3 hm) ?_
          rw [nI_add]
          refine ro_swap n i (i + s) (m + s) a (by omega) (by omega) (by omega) _ ?_
          rw [ro_mdR i s m a h3]
          dsimp only
          refine tY _ (br_f ro_1 (nm_r es (br_f h0 (br_t h1 (ro_keep n a b hn _ ?_)))))
          exact gY _ ⟨rfl, ro_mk hn⟩
        · refine br_f (nI_ge (by omega) (by omega)) ?_
          refine ro_swap n m i (i + s) a (by omega) (by omega) (by omega) _ ?_
          rw [ro_mdL i s m a (by omega)]
          dsimp only
          refine tY _ (br_f ro_1 (nm_r es (br_f h0 (br_t h1 (ro_keep n a b hn _ ?_)))))
          exact gY _ ⟨rfl, ro_mk hn⟩
      · refine br_f h1 ?_
        exact tY _ (br_f ro_1 (nm_r es (br_f h0 (br_f h1 ⟨rfl, ro_mk hn⟩))))
