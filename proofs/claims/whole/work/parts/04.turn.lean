/-- the ints of i .. p - 1 taken from the turned stretch i .. j -/
def ro_ry (i j p : Nat) (a : Nat → Int32) : Nat → Int32 := fun q => if i ≤ q ∧ q < p then a (i + j - 1 - q) else a q
/-- the stretch i .. j turned round -/
def ro_rv (i j : Nat) (a : Nat → Int32) : Nat → Int32 := fun q => if i ≤ q ∧ q < j then a (i + j - 1 - q) else a q
/-- the outer t pairs of the stretch i .. j swapped -/
def ro_rt (i j t : Nat) (a : Nat → Int32) : Nat → Int32 := fun q => if (i ≤ q ∧ q < i + t) ∨ (j ≤ q + t ∧ q < j) then a (i + j - 1 - q) else a q
theorem ro_rt0 (i j : Nat) (a : Nat → Int32) : ro_rt i j 0 a = a := by
  funext q
  exact if_neg (by omega)
theorem ro_rtE (i j : Nat) (a : Nat → Int32) (h : i ≤ j) : ro_rt i j ((j - i) / 2) a = ro_rv i j a := by
  funext q
  unfold ro_rt ro_rv
  by_cases h1 : i ≤ q ∧ q < j
  · rw [if_pos h1]
    by_cases h2 : (i ≤ q ∧ q < i + (j - i) / 2) ∨ (j ≤ q + (j - i) / 2 ∧ q < j)
    · rw [if_pos h2]
    · rw [if_neg h2]
      exact congrArg a (by omega)
  · rw [if_neg h1, if_neg (by omega)]
theorem ro_rtS (i j t : Nat) (a : Nat → Int32) (h : i + t + t + 2 ≤ j) :
    upd (upd (ro_rt i j t a) (i + t) (ro_rt i j t a (j - 1 - t))) (j - 1 - t) (ro_rt i j t a (i + t)) = ro_rt i j (t + 1) a := by
  have e1 : ro_rt i j t a (i + t) = a (i + t) := if_neg (by omega)
  have e2 : ro_rt i j t a (j - 1 - t) = a (j - 1 - t) := if_neg (by omega)
  rw [e1, e2]
  funext q
  by_cases h1 : q = j - 1 - t
  · rw [h1, pk_us]
    unfold ro_rt
    rw [if_pos (by omega)]
    exact congrArg a (by omega)
  · rw [pk_un h1]
    by_cases h2 : q = i + t
    · rw [h2, pk_us]
      unfold ro_rt
      rw [if_pos (by omega)]
      exact congrArg a (by omega)
    · rw [pk_un h2]
      unfold ro_rt
      by_cases h3 : (i ≤ q ∧ q < i + t) ∨ (j ≤ q + t ∧ q < j)
      · rw [if_pos h3, if_pos (by omega)]
      · rw [if_neg h3, if_neg (by omega)]
theorem ro_turn9 (c i j : Nat) (a : Nat → Int32) (hij : i ≤ j) (hj : j ≤ 40) (post : SX → Prop) (hp : post (nI c, ro_rv i j a)) : ∀ (d t : Nat), t + d = (j - i) / 2 →
    wX_turn_9 post (nI i) (nI j) (nI ((j - i) / 2)) (nI c) (d + 1) (nI t) (ro_rt i j t a) := by
  intro d
  induction d with
  | zero =>
    intro t ht
    obtain rfl : t = (j - i) / 2 := by omega
    rw [ro_rtE i j a hij]
    exact br_t (nI_le (by omega) (by omega)) hp
  | succ d ih =>
    intro t ht
    have h : ¬ nI ((j - i) / 2) ≤ nI t := nI_ge (by omega) (by omega)
    have e1 : nI i + nI t = nI (i + t) := nI_add i t
    have e2 : nI j - 1 - nI t = nI (j - 1 - t) := by
      rw [show (1 : Int32) = nI 1 from rfl, pk_sub (by omega), pk_sub (by omega)]
    have h1 : vp_in (nI (i + t)) 40 := vp_in_nI (by omega) (by omega)
    have h2 : vp_in (nI (j - 1 - t)) 40 := vp_in_nI (by omega) (by omega)
    have c1 : (nI (i + t)).toNatClampNeg = i + t := nI_clamp (by omega)
    have c2 : (nI (j - 1 - t)).toNatClampNeg = j - 1 - t := nI_clamp (by omega)
    have g := ih (t + 1) (by omega)
    rw [← ro_rtS i j t a (by omega)] at g
    refine br_f h (nm_r e1 (nm_r e2 ⟨h1, nm_r (congrArg (ro_rt i j t a) c1) ⟨h2, h1, nm_r (by rw [c1, c2]) ⟨h2, nm_r (by rw [c2]) (nm_r (nI_1 t) g)⟩⟩⟩))
theorem ro_turn (c i j : Nat) (a : Nat → Int32) (hij : i ≤ j) (hj : j ≤ 40) (post : SX → Prop) (hp : post (nI c, ro_rv i j a)) : wpX_turn post (nI c, a) (nI i) (nI j) := by
  have e : (nI j - nI i) / 2 = nI ((j - i) / 2) := by
    rw [pk_sub hij]
    exact pk_div (d := 2) (by omega) (by omega) (by omega)
  have g := ro_turn9 c i j a hij hj post hp ((j - i) / 2) 0 (by omega)
  rw [nI_0, ro_rt0] at g
  exact ⟨by decide, nm_r e ⟨_, g⟩⟩
/-- the reference's second array behind keep -/
def ro_kp (t : Nat) (a b : Nat → Int32) : Nat → Int32 := fun q => if q < t then a q else b q
theorem ro_kpS (t : Nat) (a b : Nat → Int32) : upd (ro_kp t a b) t (a t) = ro_kp (t + 1) a b := by
  funext q
  by_cases h : q = t
  · rw [h, pk_us]
    exact (if_pos (by omega)).symm
  · rw [pk_un h]
    unfold ro_kp
    by_cases h1 : q < t
    · rw [if_pos h1, if_pos (by omega)]
    · rw [if_neg h1, if_neg (by omega)]
theorem ro_keep2 (c : Nat) (a b : Nat → Int32) (hc : c ≤ 40) (post : SY → Prop) (hp : post (nI c, a, ro_kp c a b)) : ∀ (d t : Nat), t + d = c →
    wY_keep_2 post (nI c) (d + 1) (nI t) a (ro_kp t a b) := by
  intro d
  induction d with
  | zero =>
    intro t ht
    obtain rfl : t = c := by omega
    exact br_t (nI_le (by omega) (by omega)) hp
  | succ d ih =>
    intro t ht
    have h : ¬ nI c ≤ nI t := nI_ge (by omega) (by omega)
    have h1 : vp_in (nI t) 40 := vp_in_nI (by omega) (by omega)
    have c1 : (nI t).toNatClampNeg = t := nI_clamp (by omega)
    have g := ih (t + 1) (by omega)
    rw [← ro_kpS] at g
    exact br_f h ⟨h1, h1, nm_r (by rw [c1]) (nm_r (nI_1 t) g)⟩
theorem ro_keep (c : Nat) (a b : Nat → Int32) (hc : c ≤ 40) (post : SY → Prop) (hp : post (nI c, a, ro_kp c a b)) : wpY_keep post (nI c, a, b) := by
  have g := ro_keep2 c a b hc post hp c 0 (by omega)
  have e : ro_kp 0 a b = b := by
    funext q
    exact if_neg (by omega)
  rw [nI_0, e] at g
  exact ⟨_, g⟩
theorem ro_ryS (i j p : Nat) (a : Nat → Int32) (h : i ≤ p) : upd (ro_ry i j p a) p (a (i + j - 1 - p)) = ro_ry i j (p + 1) a := by
  funext q
  by_cases h1 : q = p
  · rw [h1, pk_us]
    exact (if_pos (by omega)).symm
  · rw [pk_un h1]
    unfold ro_ry
    by_cases h2 : i ≤ q ∧ q < p
    · rw [if_pos h2, if_pos (by omega)]
    · rw [if_neg h2, if_neg (by omega)]
theorem ro_rev17 (c i j : Nat) (a b : Nat → Int32) (hij : i ≤ j) (hj : j ≤ c) (hc : c ≤ 40) (post : Int32 → SY → Prop) (hp : post 1 (nI c, ro_rv i j a, ro_kp c a b)) : ∀ (d p : Nat), p + d = j → i ≤ p →
    wY_reverse_17 post (nI i) (nI j) (nI c) (d + 1) (nI p) (ro_ry i j p a) (ro_kp c a b) := by
  intro d
  induction d with
  | zero =>
    intro p hpd hip
    obtain rfl : p = j := by omega
    exact br_t (nI_le (by omega) (by omega)) hp
  | succ d ih =>
    intro p hpd hip
    have h : ¬ nI j ≤ nI p := nI_ge (by omega) (by omega)
    have e1 : nI i + nI j - 1 - nI p = nI (i + j - 1 - p) := by
      rw [nI_add, show (1 : Int32) = nI 1 from rfl, pk_sub (by omega), pk_sub (by omega)]
    have h1 : vp_in (nI i + nI j - 1 - nI p) 40 := by rw [e1]; exact vp_in_nI (by omega) (by omega)
    have h2 : vp_in (nI p) 40 := vp_in_nI (by omega) (by omega)
    have c1 : (nI (i + j - 1 - p)).toNatClampNeg = i + j - 1 - p := nI_clamp (by omega)
    have c2 : (nI p).toNatClampNeg = p := nI_clamp (by omega)
    have ek : ro_kp c a b (i + j - 1 - p) = a (i + j - 1 - p) := if_pos (by omega)
    have g := ih (p + 1) (by omega) (by omega)
    rw [← ro_ryS i j p a hip] at g
    exact br_f h ⟨h1, h2, nm_r (by rw [e1, c1, c2, ek]) (nm_r (nI_1 p) g)⟩
theorem i_vc_reverse {k : Nat} {u : SX} {v : SY} (I : i_Rel k u v) (hk : k + 4 ≤ 2048) (v1 : Int32) (v2 : Int32) : wpX_reverse (fun r u' => wpY_reverse (fun r' v' => r' = r ∧ i_Rel (k + 4) u' v') v v1 v2) u v1 v2 := by
  obtain ⟨n, a, b, hn, rfl, rfl⟩ := I
  unfold wpX_reverse wpY_reverse
  dsimp only
  rcases ro_there hn a b v1 v2 with ⟨tX, tY⟩ | ⟨i, j, hij, hj, rfl, rfl, tX, tY⟩
  · refine tX _ (br_t rfl ?_)
    exact tY _ (br_t rfl ⟨rfl, ro_mk hn⟩)
  · refine tX _ (br_f ro_1 (ro_turn n i j a hij (by omega) _ ?_))
    dsimp only
    refine tY _ (br_f ro_1 (ro_keep n a b hn _ ?_))
    dsimp only
    have e : ro_ry i j i a = a := by
      funext q
      exact if_neg (by omega)
    have g := ro_rev17 n i j a b hij hj hn (fun r' v' => r' = 1 ∧ i_Rel (k + 4) (nI n, ro_rv i j a) v') ⟨rfl, ro_mk hn⟩ (j - i) i (by omega) (by omega)
    rw [e] at g
    exact ⟨_, g⟩
