/-- the ints of lo .. hi - 1 taken from s places before -/
def ro_sh (lo hi s : Nat) (a : Nat → Int32) : Nat → Int32 := fun q => if lo ≤ q ∧ q < hi then a (q - s) else a q
theorem ro_sh0 (lo hi s : Nat) (a : Nat → Int32) (h : hi ≤ lo) : ro_sh lo hi s a = a := by
  funext q
  exact if_neg (by omega)
theorem ro_shU (lo hi s : Nat) (a : Nat → Int32) (h : lo ≤ hi) : upd (ro_sh lo hi s a) hi (a (hi - s)) = ro_sh lo (hi + 1) s a := by
  funext q
  by_cases h1 : q = hi
  · rw [h1, pk_us]
    exact (if_pos (by omega)).symm
  · rw [pk_un h1]
    unfold ro_sh
    by_cases h2 : lo ≤ q ∧ q < hi
    · rw [if_pos h2, if_pos (by omega)]
    · rw [if_neg h2, if_neg (by omega)]
theorem ro_shD (lo hi s : Nat) (a : Nat → Int32) (h : lo < hi) : upd (ro_sh (lo + 1) hi s a) lo (a (lo - s)) = ro_sh lo hi s a := by
  funext q
  by_cases h1 : q = lo
  · rw [h1, pk_us]
    exact (if_pos (by omega)).symm
  · rw [pk_un h1]
    unfold ro_sh
    by_cases h2 : lo + 1 ≤ q ∧ q < hi
    · rw [if_pos h2, if_pos (by omega)]
    · rw [if_neg h2, if_neg (by omega)]
/-- X: downwards; the counter is q - 1 -/
theorem ro_tw37 (c i s : Nat) (a : Nat → Int32) (hi : i ≤ c) (hs : c + s ≤ 40) (post : Int32 → SX → Prop) (hp : post (nI (c + s)) (nI (c + s), ro_sh (i + s) (c + s) s a)) : ∀ (d q : Nat), q = i + d → q ≤ c →
    wX_twice_37 post (nI i) (nI s) (nI c) (d + 1) (nI q + (-1)) (ro_sh (q + s) (c + s) s a) := by
  intro d
  induction d with
  | zero =>
    intro q hq hqc
    obtain rfl : q = i := by omega
    have h : nI q + (-1) < nI q := by
      cases q with
      | zero => rw [nI_0]; decide
      | succ q => rw [pk_m1]; exact nI_lt (by omega) (by omega)
    exact br_t h (nm_r (nI_add c s) hp)
  | succ d ih =>
    intro q hq hqc
    obtain ⟨p, rfl⟩ : ∃ p, q = p + 1 := ⟨i + d, by omega⟩
    rw [pk_m1]
    have h : ¬ nI p < nI i := nI_nlt (by omega) (by omega)
    have e1 : nI p + nI s = nI (p + s) := nI_add p s
    have h1 : vp_in (nI p) 40 := vp_in_nI (by omega) (by omega)
    have h2 : vp_in (nI p + nI s) 40 := by rw [e1]; exact vp_in_nI (by omega) (by omega)
    have c1 : (nI p).toNatClampNeg = p := nI_clamp (by omega)
    have c2 : (nI (p + s)).toNatClampNeg = p + s := nI_clamp (by omega)
    have ek : ro_sh (p + 1 + s) (c + s) s a p = a p := if_neg (by omega)
    have g := ih p (by omega) (by omega)
    have es := ro_shD (p + s) (c + s) s a (by omega)
    rw [Nat.add_sub_cancel, show p + s + 1 = p + 1 + s by omega] at es
    rw [← es] at g
    exact br_f h ⟨h1, h2, nm_r (by rw [e1, c1, c2, ek]) (nm_e g)⟩
/-- Y: the places behind the copy -/
theorem ro_tw69 (c j s : Nat) (a b : Nat → Int32) (hj : j ≤ c) (hs : c + s ≤ 40) (post : Int32 → SY → Prop) (hp : post (nI (c + s)) (nI (c + s), ro_sh j (c + s) s a, ro_kp c a b)) : ∀ (d p : Nat), p + d = c → j ≤ p →
    wY_twice_69 post (nI s) (nI c) (d + 1) (nI p) (ro_sh j (p + s) s a) (ro_kp c a b) := by
  intro d
  induction d with
  | zero =>
    intro p hpd hjp
    obtain rfl : p = c := by omega
    exact br_t (nI_le (by omega) (by omega)) (nm_r (nI_add p s) hp)
  | succ d ih =>
    intro p hpd hjp
    have h : ¬ nI c ≤ nI p := nI_ge (by omega) (by omega)
    have e1 : nI p + nI s = nI (p + s) := nI_add p s
    have h1 : vp_in (nI p) 40 := vp_in_nI (by omega) (by omega)
    have h2 : vp_in (nI p + nI s) 40 := by rw [e1]; exact vp_in_nI (by omega) (by omega)
    have c1 : (nI p).toNatClampNeg = p := nI_clamp (by omega)
    have c2 : (nI (p + s)).toNatClampNeg = p + s := nI_clamp (by omega)
    have ek : ro_kp c a b p = a p := if_pos (by omega)
    have g := ih (p + 1) (by omega) (by omega)
    have es := ro_shU j (p + s) s a (by omega)
    rw [Nat.add_sub_cancel, show p + s + 1 = p + 1 + s by omega] at es
    rw [← es] at g
    exact br_f h ⟨h1, h2, nm_r (by rw [e1, c1, c2, ek]) (nm_r (nI_1 p) g)⟩
/-- Y: the copy itself -/
theorem ro_tw36 (c j s : Nat) (a b : Nat → Int32) (hsj : s ≤ j) (hj : j ≤ c) (hs : c + s ≤ 40) (post : Int32 → SY → Prop) (hp : post (nI (c + s)) (nI (c + s), ro_sh j (c + s) s a, ro_kp c a b)) : ∀ (d p : Nat), p + d = j + s → j ≤ p →
    wY_twice_36 post (nI j) (nI s) (nI c) (d + 1) (nI p) (ro_sh j p s a) (ro_kp c a b) := by
  have e0 : nI j + nI s = nI (j + s) := nI_add j s
  intro d
  induction d with
  | zero =>
    intro p hpd hjp
    obtain rfl : p = j + s := by omega
    have h : nI j + nI s ≤ nI (j + s) := by rw [e0]; exact nI_le (by omega) (by omega)
    exact br_t h ⟨_, ro_tw69 c j s a b hj hs post hp (c - j) j (by omega) (by omega)⟩
  | succ d ih =>
    intro p hpd hjp
    have h : ¬ nI j + nI s ≤ nI p := by rw [e0]; exact nI_ge (by omega) (by omega)
    have e1 : nI p - nI s = nI (p - s) := pk_sub (by omega)
    have h1 : vp_in (nI p) 40 := vp_in_nI (by omega) (by omega)
    have h2 : vp_in (nI p - nI s) 40 := by rw [e1]; exact vp_in_nI (by omega) (by omega)
    have c1 : (nI p).toNatClampNeg = p := nI_clamp (by omega)
    have c2 : (nI (p - s)).toNatClampNeg = p - s := nI_clamp (by omega)
    have ek : ro_kp c a b (p - s) = a (p - s) := if_pos (by omega)
    have g := ih (p + 1) (by omega) (by omega)
    rw [← ro_shU j p s a (by omega)] at g
    exact br_f h ⟨h2, h1, nm_r (by rw [e1, c1, c2, ek]) (nm_r (nI_1 p) g)⟩
theorem i_vc_twice {k : Nat} {u : SX} {v : SY} (I : i_Rel k u v) (hk : k + 4 ≤ 2048) (v1 : Int32) (v2 : Int32) : wpX_twice (fun r u' => wpY_twice (fun r' v' => r' = r ∧ i_Rel (k + 4) u' v') v v1 v2) u v1 v2 := by
  obtain ⟨n, a, b, hn, rfl, rfl⟩ := I
  unfold wpX_twice wpY_twice
  dsimp only
  rcases ro_there hn a b v1 v2 with ⟨tX, tY⟩ | ⟨i, j, hij, hj, rfl, rfl, tX, tY⟩
  · refine tX _ (br_t rfl ?_)
    exact tY _ (br_t rfl ⟨rfl, ro_mk hn⟩)
  · refine tX _ (br_f ro_1 (nm_r (pk_sub hij) ?_))
    by_cases hs : n + (j - i) ≤ 40
    · have h : nI n + nI (j - i) ≤ 40 := by rw [nI_add]; exact nI_le (b := 40) hs (by decide)
      have e : nI n - 1 = nI n + (-1) := Int32.sub_eq_add_neg _ _
      have gx := fun post hp => ro_tw37 n i (j - i) a (by omega) hs post hp (n - i) n (by omega) (by omega)
      rw [ro_sh0 (n + (j - i)) (n + (j - i)) (j - i) a (by omega), show i + (j - i) = j by omega] at gx
      have gy := fun post hp => ro_tw36 n j (j - i) a b (by omega) hj hs post hp (j - i) j (by omega) (by omega)
      rw [ro_sh0 j j (j - i) a (by omega)] at gy
      refine br_t h (nm_r e ⟨_, gx _ ?_⟩)
      refine tY _ (br_f ro_1 (nm_r (pk_sub hij) (br_t h (ro_keep n a b hn _ ?_))))
      exact ⟨_, gy _ ⟨rfl, ro_mk hs⟩⟩
    · have h : ¬ nI n + nI (j - i) ≤ 40 := by rw [nI_add]; exact nI_ge (a := 40) (by omega) (by omega)
      refine br_f h ?_
      exact tY _ (br_f ro_1 (nm_r (pk_sub hij) (br_f h ⟨rfl, ro_mk hn⟩)))
