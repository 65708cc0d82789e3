section
/-! rows of kit/rows, pasted -/
theorem pk_us {f : Nat → Int32} {k : Nat} {x : Int32} : upd f k x k = x := if_pos rfl
theorem pk_un {f : Nat → Int32} {k j : Nat} {x : Int32} (h : j ≠ k) : upd f k x j = f j := if_neg h
theorem pk_sub {a b : Nat} (h : b ≤ a) : nI a - nI b = nI (a - b) := by
  obtain ⟨c, rfl⟩ : ∃ c, a = c + b := ⟨a - b, by omega⟩
  rw [← nI_add, Int32.add_sub_cancel, Nat.add_sub_cancel]
theorem pk_mul (a b : Nat) : nI a * nI b = nI (a * b) := (Int32.ofNat_mul a b).symm
theorem pk_ix (x : Int32) {n : Nat} (hn : n < 2 ^ 31) : x < 0 ∨ nI n ≤ x ∨ ∃ j : Nat, j < n ∧ x = nI j := by
  by_cases h : x < 0
  · exact Or.inl h
  · obtain ⟨j, hj, rfl⟩ := nI_of h
    by_cases h2 : j < n
    · exact Or.inr (Or.inr ⟨j, h2, rfl⟩)
    · exact Or.inr (Or.inl (nI_le (by omega) hj))
theorem pk_le {x y : Int32} {A B : Prop} (a b : Nat) (f : a ≤ b → A) (g : b < a → B) (hx : x = nI a := by rfl) (hy : y = nI b := by rfl) (ha : a < 2 ^ 31 := by omega) (hb : b < 2 ^ 31 := by omega) : (x ≤ y → A) ∧ (¬ x ≤ y → B) := by
  subst hx hy
  rw [nI_leI ha hb]
  exact ⟨f, fun z => g (by omega)⟩
theorem pk_lt {x y : Int32} {A B : Prop} (a b : Nat) (f : a < b → A) (g : b ≤ a → B) (hx : x = nI a := by rfl) (hy : y = nI b := by rfl) (ha : a < 2 ^ 31 := by omega) (hb : b < 2 ^ 31 := by omega) : (x < y → A) ∧ (¬ x < y → B) := by
  subst hx hy
  rw [nI_ltI ha hb]
  exact ⟨f, fun z => g (by omega)⟩
theorem pk_eq {x y : Int32} {A B : Prop} (a b : Nat) (f : a = b → A) (g : a ≠ b → B) (hx : x = nI a := by rfl) (hy : y = nI b := by rfl) (ha : a < 2 ^ 31 := by omega) (hb : b < 2 ^ 31 := by omega) : (x = y → A) ∧ (¬ x = y → B) := by
  subst hx hy
  rw [nI_eq ha hb]
  exact ⟨f, g⟩
theorem pk_in {x : Int32} (n N : Nat) (h : n < N) (hx : x = nI n := by rfl) (hN : N < 2 ^ 31 := by omega) : vp_in x N := by
  subst hx
  exact vp_in_nI h hN
theorem pk_cl {x : Int32} (n : Nat) (hx : x = nI n := by rfl) (h : n < 2 ^ 31 := by omega) : x.toNatClampNeg = n := by
  subst hx
  exact nI_clamp h
theorem pk_tn {n : Nat} (h : n < 2 ^ 32) : (nI n).toBitVec.toNat = n := Nat.mod_eq_of_lt h
theorem pk_and (x : Int32) {m : Int32} (k : Nat) (hm : m.toBitVec.toNat = 2 ^ k - 1) : x &&& m = nI (x.toBitVec.toNat % 2 ^ k) := by
  apply Int32.toBitVec_inj.mp
  apply BitVec.eq_of_toNat_eq
  rw [Int32.toBitVec_and, BitVec.toNat_and, hm, Nat.and_two_pow_sub_one_eq_mod]
  show _ = (BitVec.ofNat 32 _).toNat
  rw [BitVec.toNat_ofNat]
  exact (Nat.mod_eq_of_lt (Nat.lt_of_le_of_lt (Nat.mod_le _ _) x.toBitVec.isLt)).symm
theorem pk_andE (x : Int32) {m : Int32} (k : Nat) (hm : m.toBitVec.toNat = 2 ^ k - 1) : ∃ j : Nat, j < 2 ^ k ∧ x &&& m = nI j := ⟨_, Nat.mod_lt _ (Nat.two_pow_pos k), pk_and x k hm⟩
def bt (x : Int32) (i : Nat) : Bool := x.toBitVec.getLsbD i
theorem b_ext {x y : Int32} (h : ∀ i, i < 32 → bt x i = bt y i) : x = y := Int32.toBitVec_inj.mp (BitVec.eq_of_getLsbD_eq (fun i hi => h i hi))
theorem b_or (x y : Int32) (i : Nat) : bt (x ||| y) i = (bt x i || bt y i) := by unfold bt; rw [Int32.toBitVec_or, BitVec.getLsbD_or]
theorem b_and (x y : Int32) (i : Nat) : bt (x &&& y) i = (bt x i && bt y i) := by unfold bt; rw [Int32.toBitVec_and, BitVec.getLsbD_and]
theorem b_big {x : Int32} {i : Nat} (h : 32 ≤ i) : bt x i = false := BitVec.getLsbD_of_ge _ _ h
theorem b_65535 (i : Nat) : bt 65535 i = decide (i < 16) := by
  rcases Nat.lt_or_ge i 32 with h | h
  · exact (by decide +kernel : ∀ i, i < 32 → bt 65535 i = decide (i < 16)) i h
  · rw [b_big h, decide_eq_false (by omega)]
theorem b_0 (i : Nat) : bt 0 i = false := BitVec.getLsbD_zero
theorem s_l : ∀ n, n < 32 → ((nI n &&& 31).toBitVec.smod 32).toNat = n := by decide +kernel
theorem b_shl (n : Nat) (hn : n < 32) (x : Int32) {i : Nat} (hi : i < 32) : bt (x <<< (nI n &&& 31)) i = (decide (n ≤ i) && bt x (i - n)) := by
  unfold bt
  rw [Int32.toBitVec_shiftLeft]
  show (x.toBitVec <<< ((nI n &&& 31).toBitVec.smod 32).toNat).getLsbD i = _
  rw [s_l n hn, BitVec.getLsbD_shiftLeft]
  rcases Nat.lt_or_ge i n with h | h
  · simp [h, Nat.not_le.mpr h]
  · simp [hi, h, Nat.not_lt.mpr h]
theorem b_sshr (n : Nat) (hn : n < 32) (x : Int32) {i : Nat} (hi : i < 32) : bt (x >>> (nI n &&& 31)) i = if n + i < 32 then bt x (n + i) else bt x 31 := by
  unfold bt
  rw [Int32.toBitVec_shiftRight]
  show (x.toBitVec.sshiftRight ((nI n &&& 31).toBitVec.smod 32).toNat).getLsbD i = _
  rw [s_l n hn, BitVec.getLsbD_sshiftRight, BitVec.msb_eq_getLsbD_last]
  simp [hi]
end
section
/-! the component's private methods, each with a general post -/
theorem dc_10 : (10 : Int32) = nI 10 := rfl
theorem dc_ix (s d : Nat) : nI s * 10 + nI d = nI (s * 10 + d) := by rw [dc_10, pk_mul, nI_add]
theorem dc_ix0 (s : Nat) : nI s * 10 = nI (s * 10) := by rw [dc_10, pk_mul]
theorem dc_n0 : vp_nar .boolean 0 = 0 := by decide
theorem dc_n1 : vp_nar .boolean 1 = 1 := by decide
/-- the pending flags once the slots s*10+d .. s*10+9 are emptied -/
def dc_out (a : Nat → Int32) (s d : Nat) : Nat → Int32 := fun k => if s * 10 + d ≤ k ∧ k < s * 10 + 10 then 0 else a k
theorem dc_out10 (a : Nat → Int32) (s : Nat) : dc_out a s 10 = a := by
  funext k
  exact if_neg (by omega)
theorem dc_outS (a : Nat → Int32) (s d : Nat) (hd : d < 10) : dc_out (upd a (s * 10 + d) 0) s (d + 1) = dc_out a s d := by
  funext k
  unfold dc_out upd
  by_cases h1 : s * 10 + (d + 1) ≤ k ∧ k < s * 10 + 10
  · rw [if_pos h1, if_pos (by omega)]
  · rw [if_neg h1]
    by_cases h2 : k = s * 10 + d
    · rw [if_pos h2, if_pos (by omega)]
    · rw [if_neg h2, if_neg (by omega)]
theorem dc_take {post : SX → Prop} {s : Nat} (hs : s < 12) (cP nX cD : Int32) (aV aS aN aK aD aX aY aZ aT aC aW : Nat → Int32) : ∀ (e d : Nat) (aE : Nat → Int32), d + e = 10 → post (cP, nX, cD, dc_out aE s d, aV, aS, aN, aK, aD, aX, aY, aZ, aT, aC, aW) → wX_takeOutFrom_2 post (nI s) cP nX cD (e + 1) (nI d) aE aV aS aN aK aD aX aY aZ aT aC aW := by
  intro e
  induction e with
  | zero =>
    intro d aE hd hp
    obtain rfl : d = 10 := by omega
    rw [dc_out10] at hp
    exact br_t (nI_le (a := 10) (b := 10) (by omega) (by decide)) hp
  | succ e ih =>
    intro d aE hd hp
    refine br_f (nI_ge (a := d) (b := 10) (by omega) (by decide)) ⟨pk_in (s * 10 + d) 120 (by omega) (dc_ix s d), nm_r (e' := upd aE (s * 10 + d) 0) (by rw [dc_ix, nI_clamp (by omega), dc_n0]) (nm_r (nI_1 d) (ih (d + 1) _ (by omega) ?_))⟩
    rw [dc_outS _ _ _ (by omega)]
    exact hp
theorem dc_takeW {post : SX → Prop} {s d : Nat} (hs : s < 12) (hd : d < 10) (cP nX cD : Int32) (aE aV aS aN aK aD aX aY aZ aT aC aW : Nat → Int32) (hp : post (cP, nX, cD, dc_out aE s d, aV, aS, aN, aK, aD, aX, aY, aZ, aT, aC, aW)) : wpX_takeOutFrom post (cP, nX, cD, aE, aV, aS, aN, aK, aD, aX, aY, aZ, aT, aC, aW) (nI s) (nI d) := ⟨_, dc_take hs cP nX cD aV aS aN aK aD aX aY aZ aT aC aW (10 - d) d aE (by omega) hp⟩
theorem dc_putX {post : SX → Prop} {s d : Nat} {v : Int32} (hs : s < 12) (hd : d < 10) (cP nX cD : Int32) (aE aV aS aN aK aD aX aY aZ aT aC aW : Nat → Int32) (hp : post (cP, nX, cD, upd (dc_out aE s d) (s * 10 + d) 1, upd aV (s * 10 + d) v, aS, aN, aK, aD, aX, aY, aZ, aT, aC, aW)) : wpX_putDown post (cP, nX, cD, aE, aV, aS, aN, aK, aD, aX, aY, aZ, aT, aC, aW) (nI s) v (nI d) := by
  unfold wpX_putDown
  refine dc_takeW hs hd cP nX cD aE aV aS aN aK aD aX aY aZ aT aC aW ?_
  refine nm_r (dc_ix s d) ⟨pk_in (s * 10 + d) 120 (by omega), nm_r (e' := upd (dc_out aE s d) (s * 10 + d) 1) (by rw [nI_clamp (by omega), dc_n1]) ⟨pk_in (s * 10 + d) 120 (by omega), nm_r (e' := upd aV (s * 10 + d) v) (by rw [nI_clamp (by omega)]) hp⟩⟩
/-- how many of the first n flags are set -/
def dc_cnt (a : Nat → Int32) : Nat → Nat
  | 0 => 0
  | n + 1 => dc_cnt a n + if a n = 0 then 0 else 1
theorem dc_cntW {post : Int32 → Prop} (cP nX cD : Int32) (aE aV aS aN aK aD aX aY aZ aT aC aW : Nat → Int32) (hp : post (nI (dc_cnt aE 120))) : ∀ (e i : Nat), i + e = 120 → wX_countPending_4 post cP nX cD aE aV aS aN aK aD aX aY aZ aT aC aW (e + 1) (nI (dc_cnt aE i)) (nI i) := by
  intro e
  induction e with
  | zero =>
    intro i hi
    obtain rfl : i = 120 := by omega
    exact br_t (nI_le (a := 120) (b := 120) (by omega) (by decide)) hp
  | succ e ih =>
    intro i hi
    refine br_f (nI_ge (a := i) (b := 120) (by omega) (by decide)) ⟨vp_in_nI (by omega) (by omega), ?_⟩
    have hc : (nI i).toNatClampNeg = i := nI_clamp (by omega)
    have h1 := ih (i + 1) (by omega)
    by_cases z : aE i = 0
    · have e1 : dc_cnt aE (i + 1) = dc_cnt aE i := by show _ + _ = _; rw [if_pos z, Nat.add_zero]
      rw [e1] at h1
      exact br_t (by rw [hc]; exact z) (nm_r (nI_1 i) h1)
    · have e1 : dc_cnt aE (i + 1) = dc_cnt aE i + 1 := by show _ + _ = _; rw [if_neg z]
      rw [e1] at h1
      exact br_f (by rw [hc]; exact z) (nm_r (nI_1 _) (nm_r (nI_1 i) h1))
theorem dc_count {post : Int32 → Prop} (cP nX cD : Int32) (aE aV aS aN aK aD aX aY aZ aT aC aW : Nat → Int32) (hp : post (nI (dc_cnt aE 120))) : wpX_countPending post (cP, nX, cD, aE, aV, aS, aN, aK, aD, aX, aY, aZ, aT, aC, aW) := ⟨_, dc_cntW cP nX cD aE aV aS aN aK aD aX aY aZ aT aC aW hp 120 0 rfl⟩
theorem dc_un10 {post : Int32 → Prop} {J : Int32 → Prop} {d : Nat} (hd : d < 10) (cP nX cD : Int32) (aE aV aS aN aK aD aX aY aZ aT aC aW : Nat → Int32) : ∀ (e s : Nat), s + e = 12 → (∀ s', s ≤ s' → s' < 12 → aE (s' * 10 + d) ≠ 0 → post (nI d)) → ((∀ s', s ≤ s' → s' < 12 → aE (s' * 10 + d) = 0) → J (nI (d + 1))) → wX_unitsToNextChange_10 post J (nI d) cP nX cD aE aV aS aN aK aD aX aY aZ aT aC aW (e + 1) (nI s) := by
  intro e
  induction e with
  | zero =>
    intro s hs _ hj
    obtain rfl : s = 12 := by omega
    exact br_t (nI_le (a := 12) (b := 12) (by omega) (by decide)) (nm_r (nI_1 d) (hj (fun s' h1 h2 => absurd h1 (by omega))))
  | succ e ih =>
    intro s hs hp hj
    refine br_f (nI_ge (a := s) (b := 12) (by omega) (by decide)) ⟨pk_in (s * 10 + d) 120 (by omega) (dc_ix s d), ?_⟩
    have hc : (nI s * 10 + nI d).toNatClampNeg = s * 10 + d := by rw [dc_ix, nI_clamp (by omega)]
    by_cases z : aE (s * 10 + d) = 0
    · refine br_t (by rw [hc]; exact z) (nm_r (nI_1 s) (ih (s + 1) (by omega) (fun s' h1 h2 h3 => hp s' (by omega) h2 h3) (fun h => hj (fun s' h1 h2 => ?_))))
      by_cases h4 : s' = s
      · rw [h4]; exact z
      · exact h s' (by omega) h2
    · exact br_f (by rw [hc]; exact z) (hp s (by omega) (by omega) z)
theorem dc_un2 {post : Int32 → Prop} (cP nX cD : Int32) (aE aV aS aN aK aD aX aY aZ aT aC aW : Nat → Int32) : ∀ (e d : Nat), d + e = 10 → (∀ w s, d ≤ w → w < 10 → s < 12 → aE (s * 10 + w) ≠ 0 → (∀ d' s', d ≤ d' → d' < w → s' < 12 → aE (s' * 10 + d') = 0) → post (nI w)) → ((∀ d' s', d ≤ d' → d' < 10 → s' < 12 → aE (s' * 10 + d') = 0) → post (-5)) → wX_unitsToNextChange_2 post cP nX cD aE aV aS aN aK aD aX aY aZ aT aC aW (e + 1) (nI d) := by
  intro e
  induction e with
  | zero =>
    intro d hd _ hn
    obtain rfl : d = 10 := by omega
    exact br_t (nI_le (a := 10) (b := 10) (by omega) (by decide)) (hn (fun d' s' h1 h2 => absurd h1 (by omega)))
  | succ e ih =>
    intro d hd hp hn
    refine br_f (nI_ge (a := d) (b := 10) (by omega) (by decide)) ⟨13, ?_⟩
    refine dc_un10 (by omega) cP nX cD aE aV aS aN aK aD aX aY aZ aT aC aW 12 0 rfl (fun s' _ h2 h3 => hp d s' (by omega) (by omega) h2 h3 (fun d' _ h4 h5 => absurd h4 (by omega))) (fun hz => ?_)
    refine ih (d + 1) (by omega) (fun w s h1 h2 h3 h4 h5 => hp w s (by omega) h2 h3 h4 (fun d' s' g1 g2 g3 => ?_)) (fun h => hn (fun d' s' g1 g2 g3 => ?_))
    · by_cases g : d' = d
      · rw [g]; exact hz s' (by omega) g3
      · exact h5 d' s' (by omega) g2 g3
    · by_cases g : d' = d
      · rw [g]; exact hz s' (by omega) g3
      · exact h d' s' (by omega) g2 g3
theorem dc_unitsN {post : Int32 → Prop} (cP nX cD : Int32) (aE aV aS aN aK aD aX aY aZ aT aC aW : Nat → Int32) (h : ∀ k, k < 120 → aE k = 0) (hp : post (-5)) : wpX_unitsToNextChange post (cP, nX, cD, aE, aV, aS, aN, aK, aD, aX, aY, aZ, aT, aC, aW) :=
  ⟨11, dc_un2 cP nX cD aE aV aS aN aK aD aX aY aZ aT aC aW 10 0 rfl (fun w s _ h2 h3 h4 _ => absurd (h (s * 10 + w) (by omega)) h4) (fun _ => hp)⟩
theorem dc_units {post : Int32 → Prop} (cP nX cD : Int32) (aE aV aS aN aK aD aX aY aZ aT aC aW : Nat → Int32) {w s : Nat} (hw : w < 10) (hs : s < 12) (h : aE (s * 10 + w) ≠ 0) (hm : ∀ d s', d < w → s' < 12 → aE (s' * 10 + d) = 0) (hp : post (nI w)) : wpX_unitsToNextChange post (cP, nX, cD, aE, aV, aS, aN, aK, aD, aX, aY, aZ, aT, aC, aW) := by
  refine ⟨11, dc_un2 cP nX cD aE aV aS aN aK aD aX aY aZ aT aC aW 10 0 rfl (fun w' s' _ h2 h3 h4 h5 => ?_) (fun h0 => absurd (h0 w s (by omega) hw hs) h)⟩
  rcases Nat.lt_trichotomy w' w with g | g | g
  · exact absurd (hm w' s' g h3) h4
  · rw [g]; exact hp
  · exact absurd (h5 w s (by omega) g hs) h
end
section
/-! goForward, takeNewValues, workOut, carryOut of the component -/
/-- the flags while goForward has done the slots below K -/
def dc_gE (a : Nat → Int32) (w K : Nat) : Nat → Int32 := fun k => if k < K then (if k % 10 + w < 10 ∧ a (k + w) ≠ 0 then 1 else 0) else a k
def dc_gV (a v : Nat → Int32) (w K : Nat) : Nat → Int32 := fun k => if k < K ∧ k % 10 + w < 10 ∧ a (k + w) ≠ 0 then v (k + w) else v k
theorem dc_gE0 (a : Nat → Int32) (w : Nat) : dc_gE a w 0 = a := by
  funext k
  exact if_neg (by omega)
theorem dc_gV0 (a v : Nat → Int32) (w : Nat) : dc_gV a v w 0 = v := by
  funext k
  exact if_neg (by omega)
theorem dc_gEn {a : Nat → Int32} {w K : Nat} (h : ¬ (K % 10 + w < 10 ∧ a (K + w) ≠ 0)) : upd (dc_gE a w K) K 0 = dc_gE a w (K + 1) := by
  funext k
  unfold upd dc_gE
  by_cases h1 : k = K
  · rw [if_pos h1, h1, if_pos (by omega), if_neg h]
  · rw [if_neg h1]
    by_cases h2 : k < K
    · rw [if_pos h2, if_pos (show k < K + 1 by omega)]
    · rw [if_neg h2, if_neg (show ¬ k < K + 1 by omega)]
theorem dc_gEy {a : Nat → Int32} {w K : Nat} (h : K % 10 + w < 10 ∧ a (K + w) ≠ 0) : upd (dc_gE a w K) K 1 = dc_gE a w (K + 1) := by
  funext k
  unfold upd dc_gE
  by_cases h1 : k = K
  · rw [if_pos h1, h1, if_pos (by omega), if_pos h]
  · rw [if_neg h1]
    by_cases h2 : k < K
    · rw [if_pos h2, if_pos (show k < K + 1 by omega)]
    · rw [if_neg h2, if_neg (show ¬ k < K + 1 by omega)]
theorem dc_gVn {a v : Nat → Int32} {w K : Nat} (h : ¬ (K % 10 + w < 10 ∧ a (K + w) ≠ 0)) : dc_gV a v w K = dc_gV a v w (K + 1) := by
  funext k
  unfold dc_gV
  by_cases h1 : k = K
  · rw [h1, if_neg (fun z => absurd z.1 (by omega)), if_neg (fun z => h z.2)]
  · by_cases h2 : k % 10 + w < 10 ∧ a (k + w) ≠ 0
    · by_cases h3 : k < K
      · rw [if_pos ⟨h3, h2⟩, if_pos ⟨by omega, h2⟩]
      · rw [if_neg (fun z => h3 z.1), if_neg (fun z => absurd z.1 (by omega))]
    · rw [if_neg (fun z => h2 z.2), if_neg (fun z => h2 z.2)]
theorem dc_gVy {a v : Nat → Int32} {w K : Nat} (h : K % 10 + w < 10 ∧ a (K + w) ≠ 0) : upd (dc_gV a v w K) K (dc_gV a v w K (K + w)) = dc_gV a v w (K + 1) := by
  have e : dc_gV a v w K (K + w) = v (K + w) := if_neg (fun z => absurd z.1 (by omega))
  rw [e]
  funext k
  unfold upd dc_gV
  by_cases h1 : k = K
  · rw [if_pos h1, h1, if_pos ⟨by omega, h⟩]
  · rw [if_neg h1]
    by_cases h2 : k % 10 + w < 10 ∧ a (k + w) ≠ 0
    · by_cases h3 : k < K
      · rw [if_pos ⟨h3, h2⟩, if_pos ⟨by omega, h2⟩]
      · rw [if_neg (fun z => h3 z.1), if_neg (fun z => absurd z.1 (by omega))]
    · rw [if_neg (fun z => h2 z.2), if_neg (fun z => h2 z.2)]
theorem dc_go20 {post : SX → Prop} {J : Int32 → (Nat → Int32) → (Nat → Int32) → (Nat → Int32) → (Nat → Int32) → (Nat → Int32) → (Nat → Int32) → (Nat → Int32) → (Nat → Int32) → (Nat → Int32) → (Nat → Int32) → (Nat → Int32) → (Nat → Int32) → Prop} {s w : Nat} (hs : s < 12) (hw : w < 10) (cP nX cD : Int32) (aE aV aS aN aK aD aX aY aZ aT aC aW : Nat → Int32) (hj : J (nI (s + 1)) (dc_gE aE w (s * 10 + 10)) (dc_gV aE aV w (s * 10 + 10)) aS aN aK aD aX aY aZ aT aC aW) : ∀ (e d : Nat), d + e = 10 → wX_goForward_20 post J (nI w) (nI s) cP nX cD (e + 1) (nI d) (dc_gE aE w (s * 10 + d)) (dc_gV aE aV w (s * 10 + d)) aS aN aK aD aX aY aZ aT aC aW := by
  intro e
  induction e with
  | zero =>
    intro d hd
    obtain rfl : d = 10 := by omega
    exact br_t (nI_le (a := 10) (b := 10) (by omega) (by decide)) (nm_r (nI_1 s) hj)
  | succ e ih =>
    intro d hd
    have hn := ih (d + 1) (by omega)
    have hm : (s * 10 + d) % 10 = d := by omega
    have hcl : (nI (s * 10 + d)).toNatClampNeg = s * 10 + d := nI_clamp (by omega)
    have hcw : (nI (s * 10 + d) + nI w).toNatClampNeg = s * 10 + d + w := by rw [nI_add, nI_clamp (by omega)]
    have hrd : dc_gE aE w (s * 10 + d) (s * 10 + d + w) = aE (s * 10 + d + w) := if_neg (by omega)
    have K0 : ¬ ((s * 10 + d) % 10 + w < 10 ∧ aE (s * 10 + d + w) ≠ 0) → wX_goForward_58 post J (wX_goForward_20 post J (nI w) (nI s) cP nX cD (e + 1)) (nI w) (nI s) (nI d) (nI (s * 10 + d)) cP nX cD (dc_gE aE w (s * 10 + d)) (dc_gV aE aV w (s * 10 + d)) aS aN aK aD aX aY aZ aT aC aW := by
      intro h
      refine ⟨vp_in_nI (by omega) (by omega), nm_r (e' := dc_gE aE w (s * 10 + d + 1)) (by rw [hcl, dc_n0, dc_gEn h]) (br_t rfl (nm_r (nI_1 d) ?_))⟩
      rw [dc_gVn h]
      exact hn
    refine br_f (nI_ge (a := d) (b := 10) (by omega) (by decide)) (nm_r (dc_ix s d) (pk_le 10 (d + w) (fun h => K0 (fun z => absurd z.1 (by omega))) (fun h => ?_) rfl (nI_add d w)))
    refine ⟨pk_in (s * 10 + d + w) 120 (by omega) (nI_add _ _), ?_⟩
    by_cases z : aE (s * 10 + d + w) = 0
    · exact br_t (by rw [hcw, hrd]; exact z) (K0 (fun q => q.2 z))
    · have hy : (s * 10 + d) % 10 + w < 10 ∧ aE (s * 10 + d + w) ≠ 0 := ⟨by omega, z⟩
      refine br_f (by rw [hcw, hrd]; exact z) ⟨vp_in_nI (by omega) (by omega), nm_r (e' := dc_gE aE w (s * 10 + d + 1)) (by rw [hcl, dc_n1, dc_gEy hy]) (br_f (by decide) ⟨pk_in (s * 10 + d + w) 120 (by omega) (nI_add _ _), vp_in_nI (by omega) (by omega), nm_r (e' := dc_gV aE aV w (s * 10 + d + 1)) (by rw [hcl, hcw, dc_gVy hy]) (nm_r (nI_1 d) hn)⟩)⟩
theorem dc_go12 {post : SX → Prop} {w : Nat} (hw : w < 10) (cP nX cD : Int32) (aE aV aS aN aK aD aX aY aZ aT aC aW : Nat → Int32) (hp : post (cP, nX, cD, dc_gE aE w 120, dc_gV aE aV w 120, aS, aN, aK, aD, aX, aY, aZ, aT, aC, aW)) : ∀ (e s : Nat), s + e = 12 → wX_goForward_12 post (nI w) cP nX cD (e + 1) (nI s) (dc_gE aE w (s * 10)) (dc_gV aE aV w (s * 10)) aS aN aK aD aX aY aZ aT aC aW := by
  intro e
  induction e with
  | zero =>
    intro s hs
    obtain rfl : s = 12 := by omega
    exact br_t (nI_le (a := 12) (b := 12) (by omega) (by decide)) hp
  | succ e ih =>
    intro s hs
    have h := ih (s + 1) (by omega)
    rw [show (s + 1) * 10 = s * 10 + 10 by omega] at h
    exact br_f (nI_ge (a := s) (b := 12) (by omega) (by decide)) ⟨11, dc_go20 (by omega) hw cP nX cD aE aV aS aN aK aD aX aY aZ aT aC aW h 10 0 rfl⟩
theorem dc_goX {post : SX → Prop} {w t : Nat} (hw : w < 10) (cP cD : Int32) (aE aV aS aN aK aD aX aY aZ aT aC aW : Nat → Int32) (hp : post (cP, nI (t + w), cD, dc_gE aE w 120, dc_gV aE aV w 120, aS, aN, aK, aD, aX, aY, aZ, aT, aC, aW)) : wpX_goForward post (cP, nI t, cD, aE, aV, aS, aN, aK, aD, aX, aY, aZ, aT, aC, aW) (nI w) := by
  unfold wpX_goForward
  refine nm_r (nI_add t w) ⟨13, ?_⟩
  have h := dc_go12 hw cP (nI (t + w)) cD aE aV aS aN aK aD aX aY aZ aT aC aW hp 12 0 rfl
  rw [Nat.zero_mul, dc_gE0, dc_gV0] at h
  exact h
/-! takeNewValues: what is left and what is new while n signals are done -/
def dc_tE (a : Nat → Int32) (n : Nat) : Nat → Int32 := fun k => if k < n * 10 ∧ k % 10 = 0 then 0 else a k
def dc_tS (a v s : Nat → Int32) (n : Nat) : Nat → Int32 := fun j => if j < n ∧ a (j * 10) ≠ 0 then v (j * 10) else s j
def dc_tN (a v s g : Nat → Int32) (n : Nat) : Nat → Int32 := fun j => if j < n ∧ a (j * 10) ≠ 0 ∧ s j ≠ v (j * 10) then g j + 1 else g j
def dc_tC (a v s : Nat → Int32) : Nat → Int32
  | 0 => 0
  | n + 1 => if a (n * 10) ≠ 0 ∧ s n ≠ v (n * 10) then dc_tC a v s n ||| ((1 : Int32) <<< (nI n &&& 31)) else dc_tC a v s n
theorem dc_tE0 (a : Nat → Int32) : dc_tE a 0 = a := by
  funext k
  exact if_neg (by omega)
theorem dc_tS0 (a v s : Nat → Int32) : dc_tS a v s 0 = s := by
  funext k
  exact if_neg (by omega)
theorem dc_tN0 (a v s g : Nat → Int32) : dc_tN a v s g 0 = g := by
  funext k
  exact if_neg (by omega)
theorem dc_tEn {a : Nat → Int32} {n : Nat} (h : a (n * 10) = 0) : dc_tE a n = dc_tE a (n + 1) := by
  funext k
  unfold dc_tE
  by_cases h1 : k = n * 10
  · rw [h1, if_neg (by omega), if_pos (by omega), h]
  · by_cases h2 : k < n * 10 ∧ k % 10 = 0
    · rw [if_pos h2, if_pos (by omega)]
    · rw [if_neg h2, if_neg (by omega)]
theorem dc_tEy (a : Nat → Int32) (n : Nat) : upd (dc_tE a n) (n * 10) 0 = dc_tE a (n + 1) := by
  funext k
  simp only [dc_tE, upd]
  by_cases h1 : k = n * 10
  · rw [if_pos h1, if_pos (by omega)]
  · rw [if_neg h1]
    by_cases h2 : k < n * 10 ∧ k % 10 = 0
    · rw [if_pos h2, if_pos (by omega)]
    · rw [if_neg h2, if_neg (by omega)]
theorem dc_ltS {j n : Nat} (h : j ≠ n) : j < n + 1 ↔ j < n := by omega
theorem dc_tSk {a v s : Nat → Int32} {n : Nat} (h : a (n * 10) ≠ 0 → s n = v (n * 10)) : dc_tS a v s n = dc_tS a v s (n + 1) := by
  funext j
  simp only [dc_tS]
  by_cases h1 : j = n
  · subst h1
    rw [if_neg (fun z => absurd z.1 (by omega))]
    by_cases h2 : a (j * 10) ≠ 0
    · rw [if_pos ⟨by omega, h2⟩, h h2]
    · rw [if_neg (fun z => h2 z.2)]
  · simp only [dc_ltS h1]
theorem dc_tSy {a v s : Nat → Int32} {n : Nat} (h : a (n * 10) ≠ 0) : upd (dc_tS a v s n) n (v (n * 10)) = dc_tS a v s (n + 1) := by
  funext j
  simp only [dc_tS, upd]
  by_cases h1 : j = n
  · subst h1
    rw [if_pos rfl, if_pos ⟨by omega, h⟩]
  · rw [if_neg h1]; simp only [dc_ltS h1]
theorem dc_tNk {a v s g : Nat → Int32} {n : Nat} (h : ¬ (a (n * 10) ≠ 0 ∧ s n ≠ v (n * 10))) : dc_tN a v s g n = dc_tN a v s g (n + 1) := by
  funext j
  simp only [dc_tN]
  by_cases h1 : j = n
  · subst h1
    rw [if_neg (fun z => h z.2), if_neg (fun z => h z.2)]
  · simp only [dc_ltS h1]
theorem dc_tNy {a v s g : Nat → Int32} {n : Nat} (h : a (n * 10) ≠ 0 ∧ s n ≠ v (n * 10)) : upd (dc_tN a v s g n) n (dc_tN a v s g n n + 1) = dc_tN a v s g (n + 1) := by
  have e : dc_tN a v s g n n = g n := if_neg (fun z => absurd z.1 (by omega))
  rw [e]
  funext j
  simp only [dc_tN, upd]
  by_cases h1 : j = n
  · subst h1
    rw [if_pos rfl, if_pos ⟨by omega, h⟩]
  · rw [if_neg h1]; simp only [dc_ltS h1]
theorem dc_tk4 {post : Int32 → SX → Prop} (cP nX cD : Int32) (aE aV aS aN aK aD aX aY aZ aT aC aW : Nat → Int32) (hp : post (dc_tC aE aV aS 12) (cP, nX, cD, dc_tE aE 12, aV, dc_tS aE aV aS 12, dc_tN aE aV aS aN 12, aK, aD, aX, aY, aZ, aT, aC, aW)) : ∀ (e n : Nat), n + e = 12 → wX_takeNewValues_4 post cP nX cD (e + 1) (dc_tC aE aV aS n) (nI n) (dc_tE aE n) aV (dc_tS aE aV aS n) (dc_tN aE aV aS aN n) aK aD aX aY aZ aT aC aW := by
  intro e
  induction e with
  | zero =>
    intro n hn
    obtain rfl : n = 12 := by omega
    exact br_t (nI_le (a := 12) (b := 12) (by omega) (by decide)) hp
  | succ e ih =>
    intro n hn
    have h := ih (n + 1) (by omega)
    have hc : (nI n).toNatClampNeg = n := nI_clamp (by omega)
    have hc10 : (nI (n * 10)).toNatClampNeg = n * 10 := nI_clamp (by omega)
    have hi : vp_in (nI n) 12 := vp_in_nI (by omega) (by omega)
    have hi10 : vp_in (nI (n * 10)) 120 := vp_in_nI (by omega) (by omega)
    have r1 : dc_tE aE n (n * 10) = aE (n * 10) := if_neg (by omega)
    have r2 : dc_tS aE aV aS n n = aS n := if_neg (fun z => absurd z.1 (by omega))
    refine br_f (nI_ge (a := n) (b := 12) (by omega) (by decide)) (nm_r (dc_ix0 n) ⟨hi10, ?_⟩)
    by_cases z : aE (n * 10) = 0
    · refine br_t (by rw [hc10, r1]; exact z) (nm_r (nI_1 n) ?_)
      rw [dc_tEn z, dc_tSk (fun q => absurd z q), dc_tNk (fun q => q.1 z)]
      have e1 : dc_tC aE aV aS (n + 1) = dc_tC aE aV aS n := if_neg (fun q => q.1 z)
      rw [e1] at h
      exact h
    · refine br_f (by rw [hc10, r1]; exact z) ⟨hi10, nm_r (e' := dc_tE aE (n + 1)) (by rw [hc10, dc_n0, dc_tEy]) ⟨hi, hi10, ?_⟩⟩
      by_cases q : aS n = aV (n * 10)
      · refine br_t (by rw [hc, hc10, r2]; exact q) (nm_r (nI_1 n) ?_)
        rw [dc_tSk (fun _ => q), dc_tNk (fun y => y.2 q)]
        have e1 : dc_tC aE aV aS (n + 1) = dc_tC aE aV aS n := if_neg (fun y => y.2 q)
        rw [e1] at h
        exact h
      · have e1 : dc_tC aE aV aS (n + 1) = dc_tC aE aV aS n ||| ((1 : Int32) <<< (nI n &&& 31)) := if_pos ⟨z, q⟩
        rw [e1] at h
        exact br_f (by rw [hc, hc10, r2]; exact q) ⟨hi10, hi, nm_r (e' := dc_tS aE aV aS (n + 1)) (by rw [hc, hc10, dc_tSy z]) ⟨hi, hi, nm_r (e' := dc_tN aE aV aS aN (n + 1)) (by rw [hc, dc_tNy ⟨z, q⟩]) (nm_e (nm_r (nI_1 n) h))⟩⟩
theorem dc_tkX {post : Int32 → SX → Prop} (cP nX cD : Int32) (aE aV aS aN aK aD aX aY aZ aT aC aW : Nat → Int32) (hp : post (dc_tC aE aV aS 12) (cP, nX, cD, dc_tE aE 12, aV, dc_tS aE aV aS 12, dc_tN aE aV aS aN 12, aK, aD, aX, aY, aZ, aT, aC, aW)) : wpX_takeNewValues post (cP, nX, cD, aE, aV, aS, aN, aK, aD, aX, aY, aZ, aT, aC, aW) := by
  refine ⟨13, ?_⟩
  have h := dc_tk4 cP nX cD aE aV aS aN aK aD aX aY aZ aT aC aW hp 12 0 rfl
  rw [dc_tE0, dc_tS0, dc_tN0] at h
  exact h
/-! workOut, carryOut -/
def dc_res (k x y s c : Int32) : Int32 := if k = 0 then x + y else if k = 1 then x &&& y else if k = 2 then x ^^^ y else if k = 3 then x + c else if k = 4 then (if s = 0 then y else x) else x ^^^ (-1)
def dc_kd (k : Int32) : Prop := k = 0 ∨ k = 1 ∨ k = 2 ∨ k = 3 ∨ k = 4 ∨ k = 5
theorem dc_workX {post : Int32 → Prop} {p x y z : Nat} (cP nX cD : Int32) (aE aV aS aN aK aD aX aY aZ aT aC aW : Nat → Int32) (hp : p < 8) (hx : x < 12) (hy : y < 12) (hz : z < 12) (ex : aX p = nI x) (ey : aY p = nI y) (ez : aZ p = nI z) (hk : dc_kd (aK p)) (h : post (dc_res (aK p) (aS x) (aS y) (aS z) (aC p))) : wpX_workOut post (cP, nX, cD, aE, aV, aS, aN, aK, aD, aX, aY, aZ, aT, aC, aW) (nI p) := by
  have hc : (nI p).toNatClampNeg = p := nI_clamp (by omega)
  have hi : vp_in (nI p) 8 := vp_in_nI (by omega) (by omega)
  have e1 : (aX (nI p).toNatClampNeg) = nI x := by rw [hc, ex]
  have e2 : (aY (nI p).toNatClampNeg) = nI y := by rw [hc, ey]
  have e3 : (aZ (nI p).toNatClampNeg) = nI z := by rw [hc, ez]
  refine ⟨hi, pk_in x 12 hx e1, nm_r (e' := aS x) (by rw [e1, nI_clamp (by omega)]) ⟨hi, pk_in y 12 hy e2, nm_r (e' := aS y) (by rw [e2, nI_clamp (by omega)]) ⟨hi, ?_⟩⟩⟩
  unfold dc_res at h
  rcases hk with k | k | k | k | k | k <;> rw [k] at h <;> refine nm_r (e' := _) (by rw [hc, k]) ?_
  · exact br_f (by decide) (br_f (by decide) (br_t rfl h))
  · exact br_f (by decide) (br_f (by decide) (br_f (by decide) (br_t rfl h)))
  · exact br_f (by decide) (br_f (by decide) (br_f (by decide) (br_f (by decide) (br_t rfl h))))
  · exact br_f (by decide) (br_f (by decide) (br_f (by decide) (br_f (by decide) (br_f (by decide) (br_t rfl ⟨hi, by rw [hc]; exact h⟩)))))
  · refine br_f (by decide) (br_f (by decide) (br_f (by decide) (br_f (by decide) (br_f (by decide) (br_f (by decide) (br_t rfl ⟨hi, pk_in z 12 hz e3, ?_⟩))))))
    have e4 : aS (aZ (nI p).toNatClampNeg).toNatClampNeg = aS z := by rw [e3, nI_clamp (by omega)]
    by_cases q : aS z = 0
    · refine br_t (by rw [e4]; exact q) ?_
      rw [if_pos q] at h
      exact h
    · refine br_f (by rw [e4]; exact q) ?_
      rw [if_neg q] at h
      exact h
  · exact br_f (by decide) (br_t (by decide) h)
theorem dc_carX {post : SX → Prop} {p x y z r d : Nat} (cP nX cD : Int32) (aE aV aS aN aK aD aX aY aZ aT aC aW : Nat → Int32) (hp : p < 8) (hx : x < 12) (hy : y < 12) (hz : z < 12) (hr : r < 12) (hd : d < 10) (ex : aX p = nI x) (ey : aY p = nI y) (ez : aZ p = nI z) (er : aT p = nI r) (ed : aD p = nI d) (hk : dc_kd (aK p)) (h : post (cP, nX, cD, upd (dc_out aE r d) (r * 10 + d) 1, upd aV (r * 10 + d) (dc_res (aK p) (aS x) (aS y) (aS z) (aC p)), aS, aN, aK, aD, aX, aY, aZ, aT, aC, aW)) : wpX_carryOut post (cP, nX, cD, aE, aV, aS, aN, aK, aD, aX, aY, aZ, aT, aC, aW) (nI p) := by
  unfold wpX_carryOut
  refine dc_workX cP nX cD aE aV aS aN aK aD aX aY aZ aT aC aW hp hx hy hz ex ey ez hk ?_
  have hc : (nI p).toNatClampNeg = p := nI_clamp (by omega)
  have hi : vp_in (nI p) 8 := vp_in_nI (by omega) (by omega)
  refine ⟨hi, hi, ?_⟩
  rw [hc, er, ed]
  exact dc_putX hr hd cP nX cD aE aV aS aN aK aD aX aY aZ aT aC aW h
end
section
/-! the reference's list of changes, as a list of keys signal * 10 + delay still to go -/
/-- entry i of the list is the change with key k (t: the time now; b: the mark of the next delta cycle is up to date) -/
def dc_E (b : Bool) (t : Nat) (cv bG bL bT bN : Nat → Int32) (i k : Nat) : Prop :=
  k < 120 ∧ bG i = nI (k / 10) ∧ bT i = nI (t + k % 10) ∧ bL i = cv k ∧ (k % 10 ≠ 0 → bN i = 0) ∧ (b = true → k % 10 = 0 → bN i = 1)
def dc_L (E : Nat → Nat → Prop) : Nat → List Nat → Prop
  | _, [] => True
  | o, k :: r => E o k ∧ dc_L E (o + 1) r
theorem dc_Lmono {E E' : Nat → Nat → Prop} : ∀ (ks : List Nat) (o : Nat), (∀ i k, o ≤ i → i < o + ks.length → k ∈ ks → E i k → E' i k) → dc_L E o ks → dc_L E' o ks := by
  intro ks
  induction ks with
  | nil => intro o _ _; exact True.intro
  | cons a r ih =>
    intro o h hl
    refine ⟨h o a (Nat.le_refl _) (by simp) (by simp) hl.1, ih (o + 1) (fun i k h1 h2 h3 h4 => h i k (by omega) (by simp; omega) (by simp [h3]) h4) hl.2⟩
theorem dc_Lapp {E : Nat → Nat → Prop} : ∀ (a b : List Nat) (o : Nat), dc_L E o (a ++ b) ↔ dc_L E o a ∧ dc_L E (o + a.length) b := by
  intro a
  induction a with
  | nil => intro b o; simp [dc_L]
  | cons x r ih =>
    intro b o
    show E o x ∧ dc_L E (o + 1) (r ++ b) ↔ (E o x ∧ dc_L E (o + 1) r) ∧ _
    rw [ih b (o + 1), show o + 1 + r.length = o + (x :: r).length by simp; omega, and_assoc]
theorem dc_Lmap {E E' : Nat → Nat → Prop} (f : Nat → Nat) : ∀ (ks : List Nat) (o : Nat), (∀ i k, k ∈ ks → E i k → E' i (f k)) → dc_L E o ks → dc_L E' o (ks.map f) := by
  intro ks
  induction ks with
  | nil => intro o _ _; exact True.intro
  | cons a r ih =>
    intro o h hl
    exact ⟨h o a (by simp) hl.1, ih (o + 1) (fun i k h3 h4 => h i k (by simp [h3]) h4) hl.2⟩
theorem dc_Lall {E : Nat → Nat → Prop} {P : Nat → Prop} (h : ∀ i k, E i k → P k) : ∀ (ks : List Nat) (o : Nat), dc_L E o ks → ∀ k, k ∈ ks → P k := by
  intro ks
  induction ks with
  | nil => intro o _ k hk; simp at hk
  | cons a r ih =>
    intro o hl k hk
    rcases List.mem_cons.mp hk with e | e
    · rw [e]; exact h o a hl.1
    · exact ih (o + 1) hl.2 k e
theorem dc_nar {b : Bool} {t : Nat} {cv bG bL bT bN : Nat → Int32} {i k : Nat} (h : dc_E b t cv bG bL bT bN i k) (hb : b = true ∨ k % 10 ≠ 0) : vp_nar .boolean (bN i) = bN i := by
  by_cases z : k % 10 = 0
  · rw [h.2.2.2.2.2 (hb.resolve_right (fun q => q z)) z]; exact dc_n1
  · rw [h.2.2.2.2.1 z]; exact dc_n0
/-- a move of entry i to place j -/
theorem dc_mvE {b : Bool} {t : Nat} {cv bG bL bT bN : Nat → Int32} {i j k : Nat} (h : dc_E b t cv bG bL bT bN i k) : dc_E b t cv (upd bG j (bG i)) (upd bL j (bL i)) (upd bT j (bT i)) (upd bN j (bN i)) j k := by
  unfold dc_E
  rw [pk_us, pk_us, pk_us, pk_us]
  exact h
theorem dc_frE {b : Bool} {t : Nat} {cv bG bL bT bN : Nat → Int32} {g l m n : Int32} {i j k : Nat} (hj : i ≠ j) (h : dc_E b t cv bG bL bT bN i k) : dc_E b t cv (upd bG j g) (upd bL j l) (upd bT j m) (upd bN j n) i k := by
  unfold dc_E
  rw [pk_un hj, pk_un hj, pk_un hj, pk_un hj]
  exact h
theorem dc_moveY {post : SY → Prop} {i j : Nat} (yP yC yN yD : Int32) (bV bE bK bD bO bC bW bG bL bT bN : Nat → Int32) (hi : i < 128) (hj : j < 128) (hn : vp_nar .boolean (bN i) = bN i) (hp : post (yP, yC, yN, yD, bV, bE, bK, bD, bO, bC, bW, upd bG j (bG i), upd bL j (bL i), upd bT j (bT i), upd bN j (bN i))) : wpY_move post (yP, yC, yN, yD, bV, bE, bK, bD, bO, bC, bW, bG, bL, bT, bN) (nI i) (nI j) := by
  have h1 : vp_in (nI i) 128 := vp_in_nI hi (by omega)
  have h2 : vp_in (nI j) 128 := vp_in_nI hj (by omega)
  have c1 : (nI i).toNatClampNeg = i := nI_clamp (by omega)
  have c2 : (nI j).toNatClampNeg = j := nI_clamp (by omega)
  exact ⟨h1, h2, nm_r (e' := upd bG j (bG i)) (by rw [c1, c2]) ⟨h1, h2, nm_r (e' := upd bL j (bL i)) (by rw [c1, c2]) ⟨h1, h2, nm_r (e' := upd bT j (bT i)) (by rw [c1, c2]) ⟨h1, h2, nm_r (e' := upd bN j (bN i)) (by rw [c1, c2, hn]) hp⟩⟩⟩⟩
/-- which keys a put at s, d leaves -/
def dc_q (s d k : Nat) : Bool := decide (¬ (s * 10 + d ≤ k ∧ k < s * 10 + 10))
theorem dc_put6 {s d t c : Nat} {v : Int32} (hs : s < 12) (hd : d < 10) (ht : t < 1000000000) (hc : c ≤ 120) (cv : Nat → Int32) (yP yD : Int32) (bV bE bK bD bO bC bW : Nat → Int32) : ∀ (R K : List Nat) (i : Nat) (bG bL bT bN : Nat → Int32), i + R.length = c → K.length ≤ i → (∀ k, k ∈ K → dc_q s d k = true) → dc_L (dc_E true t cv bG bL bT bN) 0 K → dc_L (dc_E true t cv bG bL bT bN) i R → ∃ cG cL cT cN : Nat → Int32, dc_L (dc_E true t (upd cv (s * 10 + d) v) cG cL cT cN) 0 (K ++ R.filter (dc_q s d) ++ [s * 10 + d]) ∧ ∀ post : SY → Prop, post (yP, nI (K ++ R.filter (dc_q s d) ++ [s * 10 + d]).length, nI t, yD, bV, bE, bK, bD, bO, bC, bW, cG, cL, cT, cN) → wY_put_6 post (nI s) v (nI d) (R.length + 1) (nI K.length) (nI i) yP (nI c) (nI t) yD bV bE bK bD bO bC bW bG bL bT bN := by
  intro R
  induction R with
  | nil =>
    intro K i bG bL bT bN hi hK hq hLK _
    obtain rfl : i = c := by simpa using hi
    have hin : vp_in (nI K.length) 128 := vp_in_nI (by omega) (by omega)
    have hcl : (nI K.length).toNatClampNeg = K.length := nI_clamp (by omega)
    have hlen : (K ++ List.filter (dc_q s d) [] ++ [s * 10 + d]).length = K.length + 1 := by simp
    refine ⟨upd bG K.length (nI s), upd bL K.length v, upd bT K.length (nI (t + d)), upd bN K.length (if d = 0 then 1 else 0), ?_, fun post hp => ?_⟩
    · rw [List.filter_nil, List.append_nil, dc_Lapp]
      refine ⟨dc_Lmono K 0 (fun i' k _ h2 h3 h4 => ?_) hLK, ?_, True.intro⟩
      · refine dc_frE (by omega) ?_
        obtain ⟨q1, q2, q3, q4, q5⟩ := h4
        refine ⟨q1, q2, q3, ?_, q5⟩
        rw [pk_un, q4]
        have := hq k h3
        simp only [dc_q, decide_eq_true_eq] at this
        omega
      · have hm : (s * 10 + d) % 10 = d := by omega
        have hv : (s * 10 + d) / 10 = s := by omega
        rw [Nat.zero_add]
        unfold dc_E
        rw [pk_us, pk_us, pk_us, pk_us, pk_us, hm, hv]
        exact ⟨by omega, rfl, rfl, rfl, fun z => if_neg z, fun _ z => if_pos z⟩
    · rw [hlen] at hp
      refine br_t (nI_le (by omega) (by omega)) ⟨hin, nm_r (e' := upd bG K.length (nI s)) (by rw [hcl]) ⟨hin, nm_r (e' := upd bL K.length v) (by rw [hcl]) ⟨hin, nm_r (e' := upd bT K.length (nI (t + d))) (by rw [hcl, nI_add]) ?_⟩⟩⟩
      refine pk_eq d 0 (fun z => ⟨hin, nm_r (e' := upd bN K.length 1) (by rw [hcl, dc_n1]) (nm_r (nI_1 _) ?_)⟩) (fun z => ⟨hin, nm_r (e' := upd bN K.length 0) (by rw [hcl, dc_n0]) (nm_r (nI_1 _) ?_)⟩)
      · rw [if_pos z] at hp
        exact hp
      · rw [if_neg z] at hp
        exact hp
  | cons k R ih =>
    intro K i bG bL bT bN hi hK hq hLK hLR
    rw [List.length_cons] at hi
    have hcl : (nI i).toNatClampNeg = i := nI_clamp (by omega)
    have hin : vp_in (nI i) 128 := vp_in_nI (by omega) (by omega)
    obtain ⟨hE, hLR'⟩ := hLR
    have hk120 : k < 120 := hE.1
    have q2 := hE.2.1
    have q3 := hE.2.2.1
    by_cases hqk : dc_q s d k = true
    · have e1 : K ++ [k] ++ List.filter (dc_q s d) R = K ++ List.filter (dc_q s d) (k :: R) := by
        rw [List.filter_cons_of_pos hqk, List.append_assoc]
        rfl
      have hk' : ¬ (s * 10 + d ≤ k ∧ k < s * 10 + 10) := by simpa only [dc_q, decide_eq_true_eq] using hqk
      have hq2 : ∀ k', k' ∈ K ++ [k] → dc_q s d k' = true := by
        intro k' hm
        rcases List.mem_append.mp hm with e | e
        · exact hq k' e
        · rw [List.mem_singleton.mp e]; exact hqk
      have hL2 : dc_L (dc_E true t cv (upd bG K.length (bG i)) (upd bL K.length (bL i)) (upd bT K.length (bT i)) (upd bN K.length (bN i))) 0 (K ++ [k]) := by
        rw [dc_Lapp]
        refine ⟨dc_Lmono K 0 (fun i' k' _ h2 _ h4 => dc_frE (by omega) h4) hLK, ?_, True.intro⟩
        rw [Nat.zero_add]
        exact dc_mvE hE
      obtain ⟨cG, cL, cT, cN, hI, hW⟩ := ih (K ++ [k]) (i + 1) (upd bG K.length (bG i)) (upd bL K.length (bL i)) (upd bT K.length (bT i)) (upd bN K.length (bN i)) (by omega) (by simp; omega) hq2 hL2 (dc_Lmono R (i + 1) (fun i' k' h1 _ _ h4 => dc_frE (by omega) h4) hLR')
      rw [e1] at hI hW
      refine ⟨cG, cL, cT, cN, hI, fun post hp => ?_⟩
      have hkeep : wY_put_42 post (wY_put_6 post (nI s) v (nI d) (R.length + 1)) (nI s) v (nI d) (nI K.length) (nI i) yP (nI c) (nI t) yD bV bE bK bD bO bC bW bG bL bT bN := by
        unfold wY_put_42
        refine dc_moveY yP (nI c) (nI t) yD bV bE bK bD bO bC bW bG bL bT bN (by omega) (by omega) (dc_nar hE (Or.inl rfl)) ?_
        refine nm_r (nI_1 _) (nm_r (nI_1 _) ?_)
        have h := hW post hp
        rw [List.length_append, List.length_singleton] at h
        exact h
      refine br_f (nI_ge (by omega) (by omega)) ⟨hin, ?_⟩
      exact pk_eq (k / 10) s (fun z => ⟨hin, pk_le (t + d) (t + k % 10) (fun z2 => absurd hk' (by omega)) (fun _ => hkeep) (nI_add t d) (by rw [hcl, q3])⟩) (fun _ => hkeep) (by rw [hcl, q2])
    · have e1 : List.filter (dc_q s d) (k :: R) = List.filter (dc_q s d) R := List.filter_cons_of_neg hqk
      have hk' : s * 10 + d ≤ k ∧ k < s * 10 + 10 := by
        simp only [dc_q, decide_eq_true_eq] at hqk
        omega
      obtain ⟨cG, cL, cT, cN, hI, hW⟩ := ih K (i + 1) bG bL bT bN (by omega) (by omega) hq hLK hLR'
      rw [e1]
      refine ⟨cG, cL, cT, cN, hI, fun post hp => ?_⟩
      refine br_f (nI_ge (by omega) (by omega)) ⟨hin, ?_⟩
      exact pk_eq (k / 10) s (fun z => ⟨hin, pk_le (t + d) (t + k % 10) (fun _ => nm_r (nI_1 _) (hW post hp)) (fun z2 => absurd hk' (by omega)) (nI_add t d) (by rw [hcl, q3])⟩) (fun z => absurd z (by omega)) (by rw [hcl, q2])
theorem dc_putY {s d t : Nat} (v : Int32) (hs : s < 12) (hd : d < 10) (ht : t < 1000000000) {cv : Nat → Int32} (yP yD : Int32) (bV bE bK bD bO bC bW bG bL bT bN : Nat → Int32) {ks : List Nat} (hc : ks.length ≤ 120) (hL : dc_L (dc_E true t cv bG bL bT bN) 0 ks) : ∃ cG cL cT cN : Nat → Int32, dc_L (dc_E true t (upd cv (s * 10 + d) v) cG cL cT cN) 0 (ks.filter (dc_q s d) ++ [s * 10 + d]) ∧ ∀ post : SY → Prop, post (yP, nI (ks.filter (dc_q s d) ++ [s * 10 + d]).length, nI t, yD, bV, bE, bK, bD, bO, bC, bW, cG, cL, cT, cN) → wpY_put post (yP, nI ks.length, nI t, yD, bV, bE, bK, bD, bO, bC, bW, bG, bL, bT, bN) (nI s) v (nI d) := by
  obtain ⟨cG, cL, cT, cN, hI, hW⟩ := dc_put6 (v := v) hs hd ht hc cv yP yD bV bE bK bD bO bC bW ks [] 0 bG bL bT bN (by omega) (by simp) (by simp) True.intro hL
  exact ⟨cG, cL, cT, cN, hI, fun post hp => ⟨ks.length + 1, hW post hp⟩⟩
/-! carryOut of the reference -/
theorem dc_carY {post : SY → Prop} {p x y z r d : Nat} (yP yC yN yD : Int32) (bV bE bK bD bO bC bW bG bL bT bN : Nat → Int32) (hp : p < 8) (hx : x < 12) (hy : y < 12) (hz : z < 12) (ex : bO p &&& 15 = nI x) (ey : (bO p >>> ((4 : Int32) &&& 31)) &&& 15 = nI y) (ez : (bO p >>> ((8 : Int32) &&& 31)) &&& 15 = nI z) (er : bO p >>> ((12 : Int32) &&& 31) = nI r) (ed : bD p = nI d) (hk : dc_kd (bK p)) (h : wpY_put post (yP, yC, yN, yD, bV, bE, bK, bD, bO, bC, bW, bG, bL, bT, bN) (nI r) (dc_res (bK p) (bV x) (bV y) (bV z) (bC p)) (nI d)) : wpY_carryOut post (yP, yC, yN, yD, bV, bE, bK, bD, bO, bC, bW, bG, bL, bT, bN) (nI p) := by
  have hc : (nI p).toNatClampNeg = p := nI_clamp (by omega)
  have hi : vp_in (nI p) 8 := vp_in_nI (by omega) (by omega)
  have hEnd : ∀ q, q = dc_res (bK p) (bV x) (bV y) (bV z) (bC p) → wY_carryOut_143 post (nI p) q yP yC yN yD bV bE bK bD bO bC bW bG bL bT bN := by
    intro q eq
    refine ⟨hi, hi, ?_⟩
    rw [hc, er, ed, eq]
    exact h
  have m0 : ∀ i : Int32, bK p ≠ i → ¬ bK (nI p).toNatClampNeg = i := by
    intro i h
    rw [hc]
    exact h
  have m1 : ∀ i : Int32, bK p = i → bK (nI p).toNatClampNeg = i := by
    intro i h
    rw [hc]
    exact h
  refine ⟨hi, pk_in x 12 hx (by rw [hc, ex]), nm_r (e' := bV x) (by rw [hc, ex, nI_clamp (by omega)]) ⟨hi, pk_in y 12 hy (by rw [hc, ey]), nm_r (e' := bV y) (by rw [hc, ey, nI_clamp (by omega)]) ⟨hi, pk_in z 12 hz (by rw [hc, ez]), nm_r (e' := bV z) (by rw [hc, ez, nI_clamp (by omega)]) (nm_e ⟨hi, ?_⟩)⟩⟩⟩
  unfold dc_res at hEnd
  rcases hk with k | k | k | k | k | k <;> simp only [k] at hEnd m0 m1
  · exact br_f (m0 _ (by decide)) ⟨hi, br_f (m0 _ (by decide)) ⟨hi, br_f (m0 _ (by decide)) ⟨hi, br_f (m0 _ (by decide)) ⟨hi, br_f (m0 _ (by decide)) (hEnd _ rfl)⟩⟩⟩⟩
  · exact br_t (m1 _ rfl) (nm_e ⟨hi, br_f (m0 _ (by decide)) ⟨hi, br_f (m0 _ (by decide)) ⟨hi, br_f (m0 _ (by decide)) ⟨hi, br_f (m0 _ (by decide)) (hEnd _ rfl)⟩⟩⟩⟩)
  · exact br_f (m0 _ (by decide)) ⟨hi, br_t (m1 _ rfl) (nm_e ⟨hi, br_f (m0 _ (by decide)) ⟨hi, br_f (m0 _ (by decide)) ⟨hi, br_f (m0 _ (by decide)) (hEnd _ rfl)⟩⟩⟩)⟩
  · exact br_f (m0 _ (by decide)) ⟨hi, br_f (m0 _ (by decide)) ⟨hi, br_t (m1 _ rfl) ⟨hi, nm_e ⟨hi, br_f (m0 _ (by decide)) ⟨hi, br_f (m0 _ (by decide)) (hEnd _ (by rw [hc]; rfl))⟩⟩⟩⟩⟩
  · refine br_f (m0 _ (by decide)) ⟨hi, br_f (m0 _ (by decide)) ⟨hi, br_f (m0 _ (by decide)) ⟨hi, br_t (m1 _ rfl) ?_⟩⟩⟩
    by_cases q : bV z = 0
    · exact br_t q ⟨hi, br_f (m0 _ (by decide)) (hEnd _ (by simp [q]))⟩
    · exact br_f q ⟨hi, br_f (m0 _ (by decide)) (hEnd _ (by simp [q]))⟩
  · exact br_f (m0 _ (by decide)) ⟨hi, br_f (m0 _ (by decide)) ⟨hi, br_f (m0 _ (by decide)) ⟨hi, br_f (m0 _ (by decide)) ⟨hi, br_t (m1 _ rfl) (nm_e (hEnd _ rfl))⟩⟩⟩⟩
end
section
/-! update, nextTime, anyNext, coming of the reference -/
/-- values, events and the set of the changed while the keys of a list are updated -/
def dc_up (cv : Nat → Int32) : List Nat → (Nat → Int32) → (Nat → Int32) → Int32 → (Nat → Int32) × (Nat → Int32) × Int32
  | [], v, e, x => (v, e, x)
  | k :: R, v, e, x => if k % 10 = 0 ∧ v (k / 10) ≠ cv k then dc_up cv R (upd v (k / 10) (cv k)) (upd e (k / 10) (e (k / 10) + 1)) (x ||| ((1 : Int32) <<< (nI (k / 10) &&& 31))) else dc_up cv R v e x
def dc_f0 (k : Nat) : Bool := decide (k % 10 ≠ 0)
def dc_bI (b : Bool) : Int32 := if b then 1 else 0
theorem dc_up7 {t c : Nat} {b : Bool} (ht : t < 1000000000) (hc : c ≤ 120) (cv : Nat → Int32) (yP yD : Int32) (bK bD bO bC bW : Nat → Int32) : ∀ (R K : List Nat) (i : Nat) (x : Int32) (bV bE bG bL bT bN : Nat → Int32), i + R.length = c → K.length ≤ i → (∀ k, k ∈ K → dc_f0 k = true) → dc_L (dc_E true t cv bG bL bT bN) 0 K → dc_L (dc_E b t cv bG bL bT bN) i R → ∃ cG cL cT cN : Nat → Int32, dc_L (dc_E true t cv cG cL cT cN) 0 (K ++ R.filter dc_f0) ∧ ∀ post : Int32 → SY → Prop, post (dc_up cv R bV bE x).2.2 (yP, nI (K ++ R.filter dc_f0).length, nI t, yD, (dc_up cv R bV bE x).1, (dc_up cv R bV bE x).2.1, bK, bD, bO, bC, bW, cG, cL, cT, cN) → wY_update_7 post (dc_bI b) (R.length + 1) x (nI K.length) (nI i) yP (nI c) (nI t) yD bV bE bK bD bO bC bW bG bL bT bN := by
  intro R
  induction R with
  | nil =>
    intro K i x bV bE bG bL bT bN hi hK hq hLK _
    obtain rfl : i = c := by simpa using hi
    rw [List.filter_nil, List.append_nil]
    exact ⟨bG, bL, bT, bN, hLK, fun post hp => br_t (nI_le (by omega) (by omega)) hp⟩
  | cons k R ih =>
    intro K i x bV bE bG bL bT bN hi hK hq hLK hLR
    rw [List.length_cons] at hi
    have hcl : (nI i).toNatClampNeg = i := nI_clamp (by omega)
    have hin : vp_in (nI i) 128 := vp_in_nI (by omega) (by omega)
    obtain ⟨hE, hLR'⟩ := hLR
    have hhead : ∀ (post : Int32 → SY → Prop) (z0 : Int32), (k % 10 = 0 → z0 = 1) → (k % 10 ≠ 0 → z0 = 0) → wY_update_49 post (wY_update_7 post (dc_bI b) (R.length + 1)) (dc_bI b) x (nI K.length) (nI i) z0 yP (nI c) (nI t) yD bV bE bK bD bO bC bW bG bL bT bN → wY_update_7 post (dc_bI b) (R.length + 1 + 1) x (nI K.length) (nI i) yP (nI c) (nI t) yD bV bE bK bD bO bC bW bG bL bT bN := by
      intro post z0 h1 h0 h
      refine br_f (nI_ge (by omega) (by omega)) ?_
      cases b with
      | false =>
        refine br_t rfl ⟨hin, ?_⟩
        exact pk_eq (t + k % 10) t (fun z => by rw [h1 (by omega)] at h; exact h) (fun z => by rw [h0 (by omega)] at h; exact h) (by rw [hcl, hE.2.2.1])
      | true =>
        refine br_f (by decide) ⟨hin, ?_⟩
        rw [hcl]
        by_cases z : k % 10 = 0
        · rw [hE.2.2.2.2.2 rfl z, ← h1 z]; exact h
        · rw [hE.2.2.2.2.1 z, ← h0 z]; exact h
    by_cases hk : k % 10 = 0
    · have e1 : List.filter dc_f0 (k :: R) = List.filter dc_f0 R := List.filter_cons_of_neg (by simp only [dc_f0, decide_eq_true_eq]; omega)
      rw [e1]
      obtain ⟨q1, q2, q3, q4, q5⟩ := hE
      have hsg : bG (nI i).toNatClampNeg = nI (k / 10) := by rw [hcl, q2]
      have hsi : vp_in (bG (nI i).toNatClampNeg) 12 := pk_in (k / 10) 12 (by omega) hsg
      have hsc : (bG (nI i).toNatClampNeg).toNatClampNeg = k / 10 := by rw [hsg, nI_clamp (by omega)]
      have hvl : bL (nI i).toNatClampNeg = cv k := by rw [hcl, q4]
      by_cases z : bV (k / 10) = cv k
      · have e2 : dc_up cv (k :: R) bV bE x = dc_up cv R bV bE x := if_neg (fun y => y.2 z)
        rw [e2]
        obtain ⟨cG, cL, cT, cN, hI, hW⟩ := ih K (i + 1) x bV bE bG bL bT bN (by omega) (by omega) hq hLK hLR'
        refine ⟨cG, cL, cT, cN, hI, fun post hp => hhead post 1 (fun _ => rfl) (fun y => absurd hk y) ?_⟩
        exact br_f (by decide) ⟨hin, hsi, hin, br_t (by rw [hsc, hvl]; exact z) (br_f (by decide) (nm_r (nI_1 _) (hW post hp)))⟩
      · have e2 : dc_up cv (k :: R) bV bE x = dc_up cv R (upd bV (k / 10) (cv k)) (upd bE (k / 10) (bE (k / 10) + 1)) (x ||| ((1 : Int32) <<< (nI (k / 10) &&& 31))) := if_pos ⟨hk, z⟩
        rw [e2]
        obtain ⟨cG, cL, cT, cN, hI, hW⟩ := ih K (i + 1) (x ||| ((1 : Int32) <<< (nI (k / 10) &&& 31))) (upd bV (k / 10) (cv k)) (upd bE (k / 10) (bE (k / 10) + 1)) bG bL bT bN (by omega) (by omega) hq hLK hLR'
        refine ⟨cG, cL, cT, cN, hI, fun post hp => hhead post 1 (fun _ => rfl) (fun y => absurd hk y) ?_⟩
        exact br_f (by decide) ⟨hin, hsi, hin, br_f (by rw [hsc, hvl]; exact z) ⟨hin, hin, hsi, nm_r (e' := upd bV (k / 10) (cv k)) (by rw [hsc, hvl]) ⟨hin, hsi, hsi, nm_r (e' := upd bE (k / 10) (bE (k / 10) + 1)) (by rw [hsc]) ⟨hin, nm_r (e' := x ||| ((1 : Int32) <<< (nI (k / 10) &&& 31))) (by rw [hsg]) (br_f (by decide) (nm_r (nI_1 _) (hW post hp)))⟩⟩⟩⟩
    · have hqk : dc_f0 k = true := by simp only [dc_f0, decide_eq_true_eq]; exact hk
      have e1 : K ++ [k] ++ List.filter dc_f0 R = K ++ List.filter dc_f0 (k :: R) := by
        rw [List.filter_cons_of_pos hqk, List.append_assoc]
        rfl
      have e2 : dc_up cv (k :: R) bV bE x = dc_up cv R bV bE x := if_neg (fun z => hk z.1)
      rw [e2]
      have hq2 : ∀ k', k' ∈ K ++ [k] → dc_f0 k' = true := by
        intro k' hm
        rcases List.mem_append.mp hm with e | e
        · exact hq k' e
        · rw [List.mem_singleton.mp e]; exact hqk
      have hL2 : dc_L (dc_E true t cv (upd bG K.length (bG i)) (upd bL K.length (bL i)) (upd bT K.length (bT i)) (upd bN K.length (bN i))) 0 (K ++ [k]) := by
        rw [dc_Lapp]
        refine ⟨dc_Lmono K 0 (fun i' k' _ h2 _ h4 => dc_frE (by omega) h4) hLK, ?_, True.intro⟩
        rw [Nat.zero_add]
        have h5 := dc_mvE (j := K.length) hE
        exact ⟨h5.1, h5.2.1, h5.2.2.1, h5.2.2.2.1, h5.2.2.2.2.1, fun _ z => absurd z hk⟩
      obtain ⟨cG, cL, cT, cN, hI, hW⟩ := ih (K ++ [k]) (i + 1) x bV bE (upd bG K.length (bG i)) (upd bL K.length (bL i)) (upd bT K.length (bT i)) (upd bN K.length (bN i)) (by omega) (by simp; omega) hq2 hL2 (dc_Lmono R (i + 1) (fun i' k' h1 _ _ h4 => dc_frE (by omega) h4) hLR')
      rw [e1] at hI hW
      refine ⟨cG, cL, cT, cN, hI, fun post hp => hhead post 0 (fun y => absurd y hk) (fun _ => rfl) ?_⟩
      refine br_t rfl (br_t rfl ?_)
      refine dc_moveY yP (nI c) (nI t) yD bV bE bK bD bO bC bW bG bL bT bN (by omega) (by omega) (dc_nar hE (Or.inr hk)) ?_
      refine nm_r (nI_1 _) (nm_r (nI_1 _) ?_)
      have h := hW post hp
      rw [List.length_append, List.length_singleton] at h
      exact h
theorem dc_upY {t : Nat} {b : Bool} (ht : t < 1000000000) {cv : Nat → Int32} (yP yD : Int32) (bV bE bK bD bO bC bW bG bL bT bN : Nat → Int32) {ks : List Nat} (hc : ks.length ≤ 120) (hL : dc_L (dc_E b t cv bG bL bT bN) 0 ks) : ∃ cG cL cT cN : Nat → Int32, dc_L (dc_E true t cv cG cL cT cN) 0 (ks.filter dc_f0) ∧ ∀ post : Int32 → SY → Prop, post (dc_up cv ks bV bE 0).2.2 (yP, nI (ks.filter dc_f0).length, nI t, yD, (dc_up cv ks bV bE 0).1, (dc_up cv ks bV bE 0).2.1, bK, bD, bO, bC, bW, cG, cL, cT, cN) → wpY_update post (yP, nI ks.length, nI t, yD, bV, bE, bK, bD, bO, bC, bW, bG, bL, bT, bN) (dc_bI b) := by
  obtain ⟨cG, cL, cT, cN, hI, hW⟩ := dc_up7 ht hc cv yP yD bK bD bO bC bW ks [] 0 0 bV bE bG bL bT bN (by omega) (by simp) (by simp) True.intro hL
  exact ⟨cG, cL, cT, cN, hI, fun post hp => ⟨ks.length + 1, hW post hp⟩⟩
/-! anyNext -/
theorem dc_any2 {post : Int32 → Prop} {t c : Nat} (hc : c ≤ 120) {cv : Nat → Int32} (yP yN yD : Int32) (bV bE bK bD bO bC bW bG bL bT bN : Nat → Int32) : ∀ (R : List Nat) (i : Nat), i + R.length = c → dc_L (dc_E true t cv bG bL bT bN) i R → ((∃ k, k ∈ R ∧ k % 10 = 0) → post 1) → ((∀ k, k ∈ R → k % 10 ≠ 0) → post 0) → wY_anyNext_2 post yP (nI c) yN yD bV bE bK bD bO bC bW bG bL bT bN (R.length + 1) (nI i) := by
  intro R
  induction R with
  | nil =>
    intro i hi _ _ h0
    obtain rfl : i = c := by simpa using hi
    exact br_t (nI_le (by omega) (by omega)) (h0 (by simp))
  | cons k R ih =>
    intro i hi hL h1 h0
    rw [List.length_cons] at hi
    have hcl : (nI i).toNatClampNeg = i := nI_clamp (by omega)
    have hin : vp_in (nI i) 128 := vp_in_nI (by omega) (by omega)
    refine br_f (nI_ge (by omega) (by omega)) ⟨hin, ?_⟩
    by_cases z : k % 10 = 0
    · exact br_f (by rw [hcl, hL.1.2.2.2.2.2 rfl z]; decide) (h1 ⟨k, by simp, z⟩)
    · refine br_t (by rw [hcl, hL.1.2.2.2.2.1 z]) (nm_r (nI_1 _) (ih (i + 1) (by omega) hL.2 (fun ⟨k', q1, q2⟩ => h1 ⟨k', by simp [q1], q2⟩) (fun h => h0 (fun k' hk' => ?_))))
      rcases List.mem_cons.mp hk' with e | e
      · rw [e]; exact z
      · exact h k' e
theorem dc_anyY {post : Int32 → Prop} {t : Nat} {b : Bool} {cv : Nat → Int32} (yP yN yD : Int32) (bV bE bK bD bO bC bW bG bL bT bN : Nat → Int32) {ks : List Nat} (hc : ks.length ≤ 120) (hL : dc_L (dc_E true t cv bG bL bT bN) 0 ks) (h1 : b = true → ∃ k, k ∈ ks ∧ k % 10 = 0) (h0 : b = false → ∀ k, k ∈ ks → k % 10 ≠ 0) (hp : post (dc_bI b)) : wpY_anyNext post (yP, nI ks.length, yN, yD, bV, bE, bK, bD, bO, bC, bW, bG, bL, bT, bN) := by
  refine ⟨ks.length + 1, dc_any2 hc yP yN yD bV bE bK bD bO bC bW bG bL bT bN ks 0 (by omega) hL (fun ⟨k, q1, q2⟩ => ?_) (fun h => ?_)⟩
  · cases b with
    | false => exact absurd q2 (h0 rfl k q1)
    | true => exact hp
  · cases b with
    | false => exact hp
    | true => obtain ⟨k, q1, q2⟩ := h1 rfl; exact absurd q2 (h k q1)
/-! nextTime -/
theorem dc_m5 {n : Nat} (h : n < 2 ^ 31) : ¬ nI n = -5 := by
  intro e
  have h2 : (nI n).toInt = (-5 : Int32).toInt := by rw [e]
  rw [nI_toInt h, show (-5 : Int32).toInt = -5 by decide] at h2
  omega
theorem dc_nx5 {post : Int32 → Prop} {t c w : Nat} {b : Bool} (ht : t < 1000000000) (hc : c ≤ 120) {cv : Nat → Int32} (yP yN yD : Int32) (bV bE bK bD bO bC bW bG bL bT bN : Nat → Int32) (hp : post (nI (t + w))) : ∀ (R : List Nat) (i m : Nat), i + R.length = c → m < 10 → dc_L (dc_E b t cv bG bL bT bN) i R → w ≤ m → (∀ k, k ∈ R → w ≤ k % 10) → (m = w ∨ ∃ k, k ∈ R ∧ k % 10 = w) → wY_nextTime_5 post yP (nI c) yN yD bV bE bK bD bO bC bW bG bL bT bN (R.length + 1) (nI (t + m)) (nI i) := by
  intro R
  induction R with
  | nil =>
    intro i m hi _ _ _ _ hw
    obtain rfl : i = c := by simpa using hi
    rcases hw with e | ⟨k, q, _⟩
    · rw [e]
      exact br_t (nI_le (by omega) (by omega)) hp
    · simp at q
  | cons k R ih =>
    intro i m hi hm hL hwm hwR hw
    rw [List.length_cons] at hi
    have hcl : (nI i).toNatClampNeg = i := nI_clamp (by omega)
    have hin : vp_in (nI i) 128 := vp_in_nI (by omega) (by omega)
    have hk := hwR k (by simp)
    refine br_f (nI_ge (by omega) (by omega)) (br_f (dc_m5 (by omega)) ⟨hin, ?_⟩)
    refine pk_le (t + m) (t + k % 10) (fun z => nm_r (nI_1 _) (ih (i + 1) m (by omega) hm hL.2 hwm (fun k' q => hwR k' (by simp [q])) ?_)) (fun z => ⟨hin, nm_r (e' := nI (t + k % 10)) (by rw [hcl, hL.1.2.2.1]) (nm_r (nI_1 _) (ih (i + 1) (k % 10) (by omega) (by omega) hL.2 hk (fun k' q => hwR k' (by simp [q])) ?_))⟩) rfl (by rw [hcl, hL.1.2.2.1])
    · rcases hw with e | ⟨k', q1, q2⟩
      · exact Or.inl e
      · rcases List.mem_cons.mp q1 with e | e
        · subst e; exact Or.inl (by omega)
        · exact Or.inr ⟨k', e, q2⟩
    · rcases hw with e | ⟨k', q1, q2⟩
      · exact absurd hk (by omega)
      · rcases List.mem_cons.mp q1 with e | e
        · subst e; exact Or.inl q2
        · exact Or.inr ⟨k', e, q2⟩
theorem dc_nxY {post : Int32 → Prop} {t w : Nat} {b : Bool} (ht : t < 1000000000) {cv : Nat → Int32} (yP yN yD : Int32) (bV bE bK bD bO bC bW bG bL bT bN : Nat → Int32) {ks : List Nat} (hc : ks.length ≤ 120) (hL : dc_L (dc_E b t cv bG bL bT bN) 0 ks) (hw : ∀ k, k ∈ ks → w ≤ k % 10) (hx : ∃ k, k ∈ ks ∧ k % 10 = w) (hp : post (nI (t + w))) : wpY_nextTime post (yP, nI ks.length, yN, yD, bV, bE, bK, bD, bO, bC, bW, bG, bL, bT, bN) := by
  refine ⟨ks.length + 1, ?_⟩
  cases ks with
  | nil => obtain ⟨k, q, _⟩ := hx; simp at q
  | cons k R =>
    rw [List.length_cons] at hc ⊢
    refine br_f (nI_ge (a := 0) (by omega) (by omega)) (br_t rfl ⟨vp_in_nI (n := 0) (by omega) (by omega), nm_r (e' := nI (t + k % 10)) hL.1.2.2.1 (nm_r (nI_1 0) (dc_nx5 ht hc yP yN yD bV bE bK bD bO bC bW bG bL bT bN hp R (0 + 1) (k % 10) (by omega) (by omega) hL.2 (hw k (by simp)) (fun k' q => hw k' (by simp [q])) ?_))⟩)
    obtain ⟨k', q1, q2⟩ := hx
    rcases List.mem_cons.mp q1 with e | e
    · subst e; exact Or.inl q2
    · exact Or.inr ⟨k', e, q2⟩
theorem dc_nxY0 {post : Int32 → Prop} (yP yN yD : Int32) (bV bE bK bD bO bC bW bG bL bT bN : Nat → Int32) (hp : post (-5)) : wpY_nextTime post (yP, 0, yN, yD, bV, bE, bK, bD, bO, bC, bW, bG, bL, bT, bN) := ⟨1, br_t (by decide) hp⟩
/-! coming -/
theorem dc_cmN {post : Int32 → Prop} {t c : Nat} {b : Bool} (hc : c ≤ 120) {cv : Nat → Int32} {x1 : Int32} (yP yN yD : Int32) (bV bE bK bD bO bC bW bG bL bT bN : Nat → Int32) (hp : post 0) : ∀ (R : List Nat) (i : Nat), i + R.length = c → dc_L (dc_E b t cv bG bL bT bN) i R → (∀ k, k ∈ R → nI (k / 10) ≠ x1) → wY_coming_4 post x1 yP (nI c) yN yD bV bE bK bD bO bC bW bG bL bT bN (R.length + 1) (-1) (nI i) := by
  intro R
  induction R with
  | nil =>
    intro i hi _ _
    obtain rfl : i = c := by simpa using hi
    exact br_t (nI_le (by omega) (by omega)) (br_f (by decide) hp)
  | cons k R ih =>
    intro i hi hL hn
    rw [List.length_cons] at hi
    have hcl : (nI i).toNatClampNeg = i := nI_clamp (by omega)
    have hin : vp_in (nI i) 128 := vp_in_nI (by omega) (by omega)
    exact br_f (nI_ge (by omega) (by omega)) ⟨hin, br_f (by rw [hcl, hL.1.2.1]; exact hn k (by simp)) (nm_r (nI_1 _) (ih (i + 1) (by omega) hL.2 (fun k' q => hn k' (by simp [q]))))⟩
theorem dc_cmS {post : Int32 → Prop} {t c s w : Nat} {b : Bool} (ht : t < 1000000000) (hs : s < 12) (hw : w < 10) (hc : c ≤ 120) {cv : Nat → Int32} (yP yN yD : Int32) (bV bE bK bD bO bC bW bG bL bT bN : Nat → Int32) (hp : post (cv (s * 10 + w))) : ∀ (R : List Nat) (i j m : Nat), i + R.length = c → j < c → m < 10 → dc_E b t cv bG bL bT bN j (s * 10 + m) → dc_L (dc_E b t cv bG bL bT bN) i R → w ≤ m → (∀ k, k ∈ R → k / 10 = s → w ≤ k % 10) → (m = w ∨ s * 10 + w ∈ R) → wY_coming_4 post (nI s) yP (nI c) yN yD bV bE bK bD bO bC bW bG bL bT bN (R.length + 1) (nI j) (nI i) := by
  intro R
  induction R with
  | nil =>
    intro i j m hi hj hm hE _ _ _ hx
    obtain rfl : i = c := by simpa using hi
    rcases hx with e | q
    · refine br_t (nI_le (by omega) (by omega)) (br_t (nI_pos' (by omega)) ⟨vp_in_nI (by omega) (by omega), ?_⟩)
      rw [nI_clamp (by omega), hE.2.2.2.1, e]
      exact hp
    · simp at q
  | cons k R ih =>
    intro i j m hi hj hm hE hL hwm hwR hx
    rw [List.length_cons] at hi
    have hcl : (nI i).toNatClampNeg = i := nI_clamp (by omega)
    have hcj : (nI j).toNatClampNeg = j := nI_clamp (by omega)
    have hin : vp_in (nI i) 128 := vp_in_nI (by omega) (by omega)
    have hjn : vp_in (nI j) 128 := vp_in_nI (by omega) (by omega)
    have hk120 : k < 120 := hL.1.1
    refine br_f (nI_ge (by omega) (by omega)) ⟨hin, ?_⟩
    refine pk_eq (k / 10) s (fun z => br_f (nI_pos (by omega)) ⟨hin, hjn, ?_⟩) (fun z => nm_r (nI_1 _) (ih (i + 1) j m (by omega) hj hm hE hL.2 hwm (fun k' q => hwR k' (by simp [q])) ?_)) (by rw [hcl, hL.1.2.1])
    · have hk := hwR k (by simp) z
      have hkk : k = s * 10 + k % 10 := by omega
      refine pk_le (t + m) (t + k % 10) (fun y => nm_r (nI_1 _) (ih (i + 1) j m (by omega) hj hm hE hL.2 hwm (fun k' q => hwR k' (by simp [q])) ?_)) (fun y => nm_r (nI_1 _) (ih (i + 1) i (k % 10) (by omega) (by omega) (by omega) (by rw [← hkk]; exact hL.1) hL.2 hk (fun k' q => hwR k' (by simp [q])) ?_)) (by rw [hcj, hE.2.2.1, show (s * 10 + m) % 10 = m by omega]) (by rw [hcl, hL.1.2.2.1])
      · rcases hx with e | q
        · exact Or.inl e
        · rcases List.mem_cons.mp q with e | e
          · exact Or.inl (by omega)
          · exact Or.inr e
      · rcases hx with e | q
        · exact absurd hk (by omega)
        · rcases List.mem_cons.mp q with e | e
          · exact Or.inl (by omega)
          · exact Or.inr e
    · rcases hx with e | q
      · exact Or.inl e
      · rcases List.mem_cons.mp q with e | e
        · exact absurd z (by omega)
        · exact Or.inr e
theorem dc_cmF {post : Int32 → Prop} {t c s w : Nat} {b : Bool} (ht : t < 1000000000) (hs : s < 12) (hw : w < 10) (hc : c ≤ 120) {cv : Nat → Int32} (yP yN yD : Int32) (bV bE bK bD bO bC bW bG bL bT bN : Nat → Int32) (hp : post (cv (s * 10 + w))) : ∀ (R : List Nat) (i : Nat), i + R.length = c → dc_L (dc_E b t cv bG bL bT bN) i R → (∀ k, k ∈ R → k / 10 = s → w ≤ k % 10) → s * 10 + w ∈ R → wY_coming_4 post (nI s) yP (nI c) yN yD bV bE bK bD bO bC bW bG bL bT bN (R.length + 1) (-1) (nI i) := by
  intro R
  induction R with
  | nil => intro i _ _ _ q; simp at q
  | cons k R ih =>
    intro i hi hL hwR hx
    rw [List.length_cons] at hi
    have hcl : (nI i).toNatClampNeg = i := nI_clamp (by omega)
    have hin : vp_in (nI i) 128 := vp_in_nI (by omega) (by omega)
    have hk120 : k < 120 := hL.1.1
    refine br_f (nI_ge (by omega) (by omega)) ⟨hin, ?_⟩
    refine pk_eq (k / 10) s (fun z => br_t (by decide) (nm_r (nI_1 _) ?_)) (fun z => nm_r (nI_1 _) (ih (i + 1) (by omega) hL.2 (fun k' q => hwR k' (by simp [q])) ?_)) (by rw [hcl, hL.1.2.1])
    · have hk := hwR k (by simp) z
      have hkk : k = s * 10 + k % 10 := by omega
      refine dc_cmS ht hs hw hc yP yN yD bV bE bK bD bO bC bW bG bL bT bN hp R (i + 1) i (k % 10) (by omega) (by omega) (by omega) (by rw [← hkk]; exact hL.1) hL.2 hk (fun k' q => hwR k' (by simp [q])) ?_
      rcases List.mem_cons.mp hx with e | e
      · exact Or.inl (by omega)
      · exact Or.inr e
    · rcases List.mem_cons.mp hx with e | e
      · exact absurd z (by omega)
      · exact e
/-! coming of the component -/
theorem dc_cmX {post : Int32 → Prop} {s : Nat} (hs : s < 12) (cP nX cD : Int32) (aE aV aS aN aK aD aX aY aZ aT aC aW : Nat → Int32) : ∀ (e d : Nat), d + e = 10 → (∀ w, d ≤ w → w < 10 → aE (s * 10 + w) ≠ 0 → (∀ d', d ≤ d' → d' < w → aE (s * 10 + d') = 0) → post (aV (s * 10 + w))) → ((∀ d', d ≤ d' → d' < 10 → aE (s * 10 + d') = 0) → post 0) → wX_coming_11 post (nI s) cP nX cD aE aV aS aN aK aD aX aY aZ aT aC aW (e + 1) (nI d) := by
  intro e
  induction e with
  | zero =>
    intro d hd _ h0
    obtain rfl : d = 10 := by omega
    exact br_t (nI_le (a := 10) (b := 10) (by omega) (by decide)) (h0 (fun d' h1 h2 => absurd h1 (by omega)))
  | succ e ih =>
    intro d hd h1 h0
    have hcl : (nI (s * 10 + d)).toNatClampNeg = s * 10 + d := nI_clamp (by omega)
    have hin : vp_in (nI (s * 10 + d)) 120 := vp_in_nI (by omega) (by omega)
    refine br_f (nI_ge (a := d) (b := 10) (by omega) (by decide)) (nm_r (dc_ix s d) ⟨hin, ?_⟩)
    by_cases z : aE (s * 10 + d) = 0
    · refine br_t (by rw [hcl]; exact z) (nm_r (nI_1 d) (ih (d + 1) (by omega) (fun w q1 q2 q3 q4 => h1 w (by omega) q2 q3 (fun d' g1 g2 => ?_)) (fun h => h0 (fun d' g1 g2 => ?_))))
      · by_cases g : d' = d
        · rw [g]; exact z
        · exact q4 d' (by omega) g2
      · by_cases g : d' = d
        · rw [g]; exact z
        · exact h d' (by omega) g2
    · refine br_f (by rw [hcl]; exact z) ⟨hin, ?_⟩
      rw [hcl]
      exact h1 d (by omega) (by omega) z (fun d' g1 g2 => absurd g1 (by omega))
end
section
/-! the two pictures of the pending changes -/
/-- the flags that are set are those of the keys in the list -/
def dc_P (ks : List Nat) (a : Nat → Int32) : Prop := ks.Nodup ∧ (∀ k, k ∈ ks → k < 120) ∧ ∀ k, k < 120 → (a k ≠ 0 ↔ k ∈ ks)
theorem dc_cnt0 (a : Nat → Int32) : ∀ n, (∀ k, k < n → a k = 0) → dc_cnt a n = 0 := by
  intro n
  induction n with
  | zero => intro _; rfl
  | succ n ih =>
    intro h
    show dc_cnt a n + _ = 0
    rw [ih (fun k hk => h k (by omega)), if_pos (h n (by omega))]
theorem dc_cntU (a : Nat → Int32) (x : Nat) : ∀ n, n ≤ x → dc_cnt (upd a x 0) n = dc_cnt a n := by
  intro n
  induction n with
  | zero => intro _; rfl
  | succ n ih =>
    intro h
    show dc_cnt (upd a x 0) n + _ = dc_cnt a n + _
    rw [ih (by omega), pk_un (by omega)]
theorem dc_cntV (a : Nat → Int32) (x : Nat) (hx : a x ≠ 0) : ∀ n, x < n → dc_cnt a n = dc_cnt (upd a x 0) n + 1 := by
  intro n
  induction n with
  | zero => intro h; omega
  | succ n ih =>
    intro h
    show dc_cnt a n + _ = dc_cnt (upd a x 0) n + _ + 1
    by_cases e : n = x
    · subst e
      rw [dc_cntU a n n (Nat.le_refl _), pk_us, if_neg hx, if_pos rfl]
    · rw [ih (by omega), pk_un e]
      omega
theorem dc_cntL : ∀ (ks : List Nat) (a : Nat → Int32), ks.Nodup → (∀ k, k ∈ ks → k < 120) → (∀ k, k < 120 → (a k ≠ 0 ↔ k ∈ ks)) → dc_cnt a 120 = ks.length := by
  intro ks
  induction ks with
  | nil =>
    intro a _ _ h
    exact dc_cnt0 a 120 (fun k hk => Classical.byContradiction (fun q => absurd ((h k hk).mp q) (by simp)))
  | cons x r ih =>
    intro a hn hl h
    have hn2 := List.nodup_cons.mp hn
    have hx := hl x (by simp)
    rw [dc_cntV a x ((h x hx).mpr (by simp)) 120 hx, List.length_cons, ih (upd a x 0) hn2.2 (fun k q => hl k (by simp [q])) ?_]
    intro k hk
    by_cases e : k = x
    · subst e
      rw [pk_us]
      exact ⟨fun q => absurd rfl q, fun q => absurd q hn2.1⟩
    · rw [pk_un e, h k hk, List.mem_cons]
      exact ⟨fun q => q.resolve_left e, Or.inr⟩
theorem dc_cntP {ks : List Nat} {a : Nat → Int32} (h : dc_P ks a) : dc_cnt a 120 = ks.length := dc_cntL ks a h.1 h.2.1 h.2.2
theorem dc_cntle (a : Nat → Int32) : ∀ n, dc_cnt a n ≤ n := by
  intro n
  induction n with
  | zero => exact Nat.le_refl _
  | succ n ih =>
    show dc_cnt a n + _ ≤ n + 1
    split <;> omega
theorem dc_len {ks : List Nat} {a : Nat → Int32} (h : dc_P ks a) : ks.length ≤ 120 := by
  rw [← dc_cntP h]
  exact dc_cntle a 120
theorem dc_Pput {ks : List Nat} {a : Nat → Int32} {s d : Nat} (hs : s < 12) (hd : d < 10) (h : dc_P ks a) : dc_P (ks.filter (dc_q s d) ++ [s * 10 + d]) (upd (dc_out a s d) (s * 10 + d) 1) := by
  obtain ⟨h1, h2, h3⟩ := h
  refine ⟨?_, ?_, ?_⟩
  · rw [List.nodup_append]
    refine ⟨List.Pairwise.filter _ h1, by simp, ?_⟩
    intro x hx y hy e
    rw [List.mem_singleton] at hy
    have hq := (List.mem_filter.mp hx).2
    simp only [dc_q, decide_eq_true_eq] at hq
    omega
  · intro k hk
    rcases List.mem_append.mp hk with e | e
    · exact h2 k (List.mem_filter.mp e).1
    · rw [List.mem_singleton.mp e]; omega
  · intro k hk
    rw [List.mem_append, List.mem_filter, List.mem_singleton]
    by_cases e : k = s * 10 + d
    · rw [e, pk_us]
      exact ⟨fun _ => Or.inr rfl, fun _ => by decide⟩
    · rw [pk_un e]
      unfold dc_out
      simp only [dc_q, decide_eq_true_eq]
      by_cases g : s * 10 + d ≤ k ∧ k < s * 10 + 10
      · rw [if_pos g]
        exact ⟨fun q => absurd rfl q, fun q => by rcases q with q | q; exact absurd g q.2; exact absurd q e⟩
      · rw [if_neg g, h3 k hk]
        exact ⟨fun q => Or.inl ⟨q, g⟩, fun q => by rcases q with q | q; exact q.1; exact absurd q e⟩
theorem dc_ndmap (w : Nat) : ∀ ks : List Nat, ks.Nodup → (∀ k, k ∈ ks → w ≤ k) → (ks.map (fun k => k - w)).Nodup := by
  intro ks
  induction ks with
  | nil => intro _ _; simp
  | cons x r ih =>
    intro hn hw
    have hn2 := List.nodup_cons.mp hn
    rw [List.map_cons, List.nodup_cons]
    refine ⟨fun q => ?_, ih hn2.2 (fun k q => hw k (by simp [q]))⟩
    obtain ⟨y, hy, e⟩ := List.mem_map.mp q
    have g1 := hw x (by simp)
    have g2 := hw y (by simp [hy])
    have : y = x := by omega
    subst this
    exact hn2.1 hy
theorem dc_Pgo {ks : List Nat} {a : Nat → Int32} {w : Nat} (hw : ∀ k, k ∈ ks → w ≤ k % 10) (h : dc_P ks a) : dc_P (ks.map (fun k => k - w)) (dc_gE a w 120) := by
  obtain ⟨h1, h2, h3⟩ := h
  refine ⟨dc_ndmap w ks h1 (fun k hk => ?_), ?_, ?_⟩
  · have := hw k hk
    omega
  · intro k hk
    obtain ⟨y, hy, e⟩ := List.mem_map.mp hk
    have := h2 y hy
    omega
  · intro k hk
    have e : dc_gE a w 120 k = if k % 10 + w < 10 ∧ a (k + w) ≠ 0 then 1 else 0 := if_pos hk
    rw [e, List.mem_map]
    by_cases g : k % 10 + w < 10 ∧ a (k + w) ≠ 0
    · rw [if_pos g]
      exact ⟨fun _ => ⟨k + w, (h3 (k + w) (by omega)).mp g.2, by omega⟩, fun _ => by decide⟩
    · rw [if_neg g]
      refine ⟨fun q => absurd rfl q, fun ⟨y, hy, e2⟩ => absurd ?_ g⟩
      have g1 := hw y hy
      have g2 := h2 y hy
      have g3 : k + w = y := by omega
      rw [g3]
      exact ⟨by omega, (h3 y g2).mpr hy⟩
theorem dc_Ego {ks : List Nat} {a cv bG bL bT bN : Nat → Int32} {t w : Nat} (hw : ∀ k, k ∈ ks → w ≤ k % 10) (h : dc_P ks a) (hL : dc_L (dc_E true t cv bG bL bT bN) 0 ks) : dc_L (dc_E (decide (w = 0)) (t + w) (dc_gV a cv w 120) bG bL bT bN) 0 (ks.map (fun k => k - w)) := by
  refine dc_Lmap _ ks 0 (fun i k hk hE => ?_) hL
  obtain ⟨q1, q2, q3, q4, q5, q6⟩ := hE
  have g := hw k hk
  have m1 : (k - w) % 10 = k % 10 - w := by omega
  have m2 : (k - w) / 10 = k / 10 := by omega
  have m3 : k - w + w = k := by omega
  refine ⟨by omega, by rw [m2]; exact q2, by rw [q3, m1]; exact congrArg nI (by omega), ?_, fun z => q5 (by omega), fun z y => q6 rfl ?_⟩
  · have e : dc_gV a cv w 120 (k - w) = cv (k - w + w) := if_pos ⟨by omega, by omega, by rw [m3]; exact (h.2.2 k q1).mpr hk⟩
    rw [e, m3, q4]
  · have := of_decide_eq_true z
    omega
theorem dc_Ptk {ks : List Nat} {a : Nat → Int32} (h : dc_P ks a) : dc_P (ks.filter dc_f0) (dc_tE a 12) := by
  obtain ⟨h1, h2, h3⟩ := h
  refine ⟨List.Pairwise.filter _ h1, fun k hk => h2 k (List.mem_filter.mp hk).1, fun k hk => ?_⟩
  rw [List.mem_filter]
  simp only [dc_f0, decide_eq_true_eq, dc_tE]
  by_cases g : k % 10 = 0
  · rw [if_pos ⟨by omega, g⟩]
    exact ⟨fun q => absurd rfl q, fun q => absurd g q.2⟩
  · rw [if_neg (fun q => g q.2), h3 k hk]
    exact ⟨fun q => ⟨q, g⟩, fun q => q.1⟩
/-! the new values, by both sides -/
theorem dc_b1 : ∀ n, n < 32 → ∀ i, i < 32 → bt ((1 : Int32) <<< (nI n &&& 31)) i = decide (i = n) := by decide +kernel
theorem dc_upS (cv : Nat → Int32) : ∀ (R : List Nat) (v e : Nat → Int32) (x : Int32), (∀ k, k ∈ R → k < 120) →
    (∀ j, (dc_up cv R v e x).1 j = if j * 10 ∈ R then cv (j * 10) else v j) ∧
    (∀ j, (dc_up cv R v e x).2.1 j = if j * 10 ∈ R ∧ v j ≠ cv (j * 10) then e j + 1 else e j) ∧
    (∀ b, b < 32 → bt (dc_up cv R v e x).2.2 b = (bt x b || decide (b * 10 ∈ R ∧ v b ≠ cv (b * 10)))) := by
  intro R
  induction R with
  | nil =>
    intro v e x _
    refine ⟨fun j => ?_, fun j => ?_, fun b _ => ?_⟩
    · rw [if_neg (by simp)]; rfl
    · rw [if_neg (by simp)]; rfl
    · rw [decide_eq_false (by simp), Bool.or_false]; rfl
  | cons k R ih =>
    intro v e x hl
    have hk := hl k (by simp)
    by_cases g : k % 10 = 0 ∧ v (k / 10) ≠ cv k
    · have e2 : dc_up cv (k :: R) v e x = dc_up cv R (upd v (k / 10) (cv k)) (upd e (k / 10) (e (k / 10) + 1)) (x ||| ((1 : Int32) <<< (nI (k / 10) &&& 31))) := if_pos g
      rw [e2]
      obtain ⟨i1, i2, i3⟩ := ih (upd v (k / 10) (cv k)) (upd e (k / 10) (e (k / 10) + 1)) (x ||| ((1 : Int32) <<< (nI (k / 10) &&& 31))) (fun k' q => hl k' (by simp [q]))
      obtain ⟨n, rfl⟩ : ∃ n, k = n * 10 := ⟨k / 10, by omega⟩
      have hn : n * 10 / 10 = n := by omega
      rw [hn] at i1 i2 i3 g ⊢
      refine ⟨fun j => ?_, fun j => ?_, fun b hb => ?_⟩
      · rw [i1]
        by_cases q : j = n
        · subst q
          rw [pk_us, if_pos (show j * 10 ∈ j * 10 :: R by simp)]
          split <;> rfl
        · have q2 : j * 10 ≠ n * 10 := by omega
          rw [pk_un q]
          simp only [List.mem_cons, q2, false_or]
      · rw [i2]
        by_cases q : j = n
        · subst q
          rw [pk_us, pk_us, if_neg (fun z => z.2 rfl), if_pos ⟨by simp, g.2⟩]
        · have q2 : j * 10 ≠ n * 10 := by omega
          rw [pk_un q, pk_un q]
          simp only [List.mem_cons, q2, false_or]
      · rw [i3 b hb, b_or, dc_b1 n (by omega) b hb]
        by_cases q : b = n
        · subst q
          rw [pk_us, decide_eq_true rfl, Bool.or_true, Bool.true_or, decide_eq_true (⟨by simp, g.2⟩ : b * 10 ∈ b * 10 :: R ∧ v b ≠ cv (b * 10)), Bool.or_true]
        · have q2 : b * 10 ≠ n * 10 := by omega
          rw [pk_un q, decide_eq_false q, Bool.or_false]
          simp only [List.mem_cons, q2, false_or]
    · have e2 : dc_up cv (k :: R) v e x = dc_up cv R v e x := if_neg g
      rw [e2]
      obtain ⟨i1, i2, i3⟩ := ih v e x (fun k' q => hl k' (by simp [q]))
      have hx : ∀ j, j * 10 = k → v j = cv (j * 10) := by
        intro j ej
        have : k / 10 = j := by omega
        rw [ej]
        exact Classical.byContradiction (fun q => g ⟨by omega, by rw [this]; exact q⟩)
      have hy : ∀ j, (j * 10 ∈ k :: R ∧ v j ≠ cv (j * 10)) ↔ (j * 10 ∈ R ∧ v j ≠ cv (j * 10)) := by
        intro j
        rw [List.mem_cons]
        exact ⟨fun q => ⟨q.1.resolve_left (fun z => q.2 (hx j z)), q.2⟩, fun q => ⟨Or.inr q.1, q.2⟩⟩
      refine ⟨fun j => ?_, fun j => ?_, fun b hb => ?_⟩
      · rw [i1]
        by_cases q : j * 10 = k
        · rw [if_pos (show j * 10 ∈ k :: R by simp [q])]
          split
          · rfl
          · exact hx j q
        · simp only [List.mem_cons, q, false_or]
      · rw [i2]
        simp only [hy]
      · rw [i3 b hb]
        simp only [hy]
theorem dc_tCb (a v s : Nat → Int32) : ∀ n, n ≤ 32 → ∀ b, b < 32 → bt (dc_tC a v s n) b = decide (b < n ∧ a (b * 10) ≠ 0 ∧ s b ≠ v (b * 10)) := by
  intro n
  induction n with
  | zero =>
    intro _ b _
    rw [decide_eq_false (fun z => absurd z.1 (by omega))]
    exact b_0 b
  | succ n ih =>
    intro hn b hb
    have i1 := ih (by omega) b hb
    by_cases g : a (n * 10) ≠ 0 ∧ s n ≠ v (n * 10)
    · have e : dc_tC a v s (n + 1) = dc_tC a v s n ||| ((1 : Int32) <<< (nI n &&& 31)) := if_pos g
      rw [e, b_or, i1, dc_b1 n (by omega) b hb]
      by_cases q : b = n
      · subst q
        rw [decide_eq_true (rfl : b = b), Bool.or_true, decide_eq_true (⟨by omega, g⟩ : b < b + 1 ∧ a (b * 10) ≠ 0 ∧ s b ≠ v (b * 10))]
      · rw [decide_eq_false q, Bool.or_false]
        simp only [dc_ltS q]
    · have e : dc_tC a v s (n + 1) = dc_tC a v s n := if_neg g
      rw [e, i1]
      by_cases q : b = n
      · subst q
        rw [decide_eq_false (fun z => g z.2), decide_eq_false (fun z => g z.2)]
      · simp only [dc_ltS q]
theorem dc_upEq {ks : List Nat} {a : Nat → Int32} (v s g : Nat → Int32) (h : dc_P ks a) : dc_up v ks s g 0 = (dc_tS a v s 12, dc_tN a v s g 12, dc_tC a v s 12) := by
  obtain ⟨h1, h2, h3⟩ := h
  have hM : ∀ j, j * 10 ∈ ks ↔ (j < 12 ∧ a (j * 10) ≠ 0) := by
    intro j
    constructor
    · intro q
      have := h2 _ q
      exact ⟨by omega, (h3 _ this).mpr q⟩
    · intro q
      exact (h3 (j * 10) (by omega)).mp q.2
  obtain ⟨i1, i2, i3⟩ := dc_upS v ks s g 0 h2
  have e1 : (dc_up v ks s g 0).1 = dc_tS a v s 12 := by
    funext j
    rw [i1]
    simp only [hM, dc_tS]
  have e2 : (dc_up v ks s g 0).2.1 = dc_tN a v s g 12 := by
    funext j
    rw [i2]
    simp only [hM, dc_tN, and_assoc]
  have e3 : (dc_up v ks s g 0).2.2 = dc_tC a v s 12 := by
    apply b_ext
    intro b hb
    rw [i3 b hb, dc_tCb a v s 12 (by omega) b hb, b_0, Bool.false_or]
    simp only [hM, and_assoc]
  rw [← e1, ← e2, ← e3]
/-! watching -/
theorem dc_4095 : ∀ i, i < 32 → bt 4095 i = decide (i < 12) := by decide +kernel
theorem dc_watch (W x : Int32) (hx : ∀ b, b < 32 → 12 ≤ b → bt x b = false) : (W &&& 4095) &&& x = W &&& x := by
  apply b_ext
  intro i hi
  rw [b_and, b_and, b_and, dc_4095 i hi]
  by_cases g : i < 12
  · rw [decide_eq_true g, Bool.and_true]
  · rw [hx i hi (by omega), Bool.and_false, Bool.and_false]
theorem dc_tChi (a v s : Nat → Int32) : ∀ b, b < 32 → 12 ≤ b → bt (dc_tC a v s 12) b = false := by
  intro b hb h
  rw [dc_tCb a v s 12 (by omega) b hb]
  exact decide_eq_false (fun z => absurd z.1 (by omega))
/-! the operands packed in one int -/
theorem dc_15 : ∀ i, i < 32 → bt 15 i = decide (i < 4) := by decide +kernel
theorem dc_op0 (x : Int32) : (x &&& 65535) &&& 15 = x &&& 15 := by
  apply b_ext
  intro i hi
  rw [b_and, b_and, b_and, b_65535, dc_15 i hi]
  by_cases g : i < 4
  · rw [decide_eq_true g, decide_eq_true (show i < 16 by omega), Bool.and_true]
  · rw [decide_eq_false g, Bool.and_false, Bool.and_false]
theorem dc_opn (x : Int32) (n : Nat) (hn : n ≤ 12) : ((x &&& 65535) >>> (nI n &&& 31)) &&& 15 = (x >>> (nI n &&& 31)) &&& 15 := by
  apply b_ext
  intro i hi
  rw [b_and, b_and, dc_15 i hi, b_sshr n (by omega) _ hi, b_sshr n (by omega) _ hi]
  by_cases g : i < 4
  · rw [if_pos (by omega), if_pos (by omega), b_and, b_65535, decide_eq_true (show n + i < 16 by omega), Bool.and_true]
  · rw [decide_eq_false g, Bool.and_false, Bool.and_false]
theorem dc_op12 (x : Int32) : (x &&& 65535) >>> (nI 12 &&& 31) = (x >>> (nI 12 &&& 31)) &&& 15 := by
  apply b_ext
  intro i hi
  rw [b_and, dc_15 i hi, b_sshr 12 (by omega) _ hi, b_sshr 12 (by omega) _ hi]
  by_cases g : i < 4
  · rw [if_pos (by omega), if_pos (by omega), b_and, b_65535, decide_eq_true (show 12 + i < 16 by omega), decide_eq_true g]
  · rw [decide_eq_false g, Bool.and_false]
    by_cases g2 : 12 + i < 32
    · rw [if_pos g2, b_and, b_65535, decide_eq_false (show ¬ 12 + i < 16 by omega), Bool.and_false]
    · rw [if_neg g2, b_and, b_65535, decide_eq_false (show ¬ 31 < 16 by omega), Bool.and_false]
end
section
/-! the relation, and the delta cycle on both sides -/
def dc_T (aK aD aX aY aZ aT aW bO bW : Nat → Int32) : Prop := ∀ j, dc_kd (aK j) ∧ bW j = aW j &&& 4095 ∧ ∃ x y z r d : Nat, x < 12 ∧ y < 12 ∧ z < 12 ∧ r < 12 ∧ d < 10 ∧ aX j = nI x ∧ aY j = nI y ∧ aZ j = nI z ∧ aT j = nI r ∧ aD j = nI d ∧ bO j &&& 15 = nI x ∧ (bO j >>> ((4 : Int32) &&& 31)) &&& 15 = nI y ∧ (bO j >>> ((8 : Int32) &&& 31)) &&& 15 = nI z ∧ bO j >>> ((12 : Int32) &&& 31) = nI r
def dc_R (p t : Nat) (u : SX) (v : SY) : Prop := ∃ (cD : Int32) (aE aV aS aN aK aD aX aY aZ aT aC aW bO bW bG bL bT bN : Nat → Int32) (ks : List Nat), u = (nI p, nI t, cD, aE, aV, aS, aN, aK, aD, aX, aY, aZ, aT, aC, aW) ∧ v = (nI p, nI ks.length, nI t, cD, aS, aN, aK, aD, bO, aC, bW, bG, bL, bT, bN) ∧ p ≤ 8 ∧ dc_T aK aD aX aY aZ aT aW bO bW ∧ dc_P ks aE ∧ dc_L (dc_E true t aV bG bL bT bN) 0 ks
theorem dc_Rmk {p t : Nat} {cD : Int32} {aE aV aS aN aK aD aX aY aZ aT aC aW bO bW bG bL bT bN : Nat → Int32} {ks : List Nat} (h1 : p ≤ 8) (h2 : dc_T aK aD aX aY aZ aT aW bO bW) (h3 : dc_P ks aE) (h4 : dc_L (dc_E true t aV bG bL bT bN) 0 ks) : dc_R p t (nI p, nI t, cD, aE, aV, aS, aN, aK, aD, aX, aY, aZ, aT, aC, aW) (nI p, nI ks.length, nI t, cD, aS, aN, aK, aD, bO, aC, bW, bG, bL, bT, bN) :=
  ⟨cD, aE, aV, aS, aN, aK, aD, aX, aY, aZ, aT, aC, aW, bO, bW, bG, bL, bT, bN, ks, rfl, rfl, h1, h2, h3, h4⟩
theorem dc_Rput {p t s d : Nat} {u : SX} {v : SY} (x : Int32) (ht : t < 1000000000) (hs : s < 12) (hd : d < 10) (h : dc_R p t u v) : ∃ u' v', dc_R p t u' v' ∧ (∀ post : SX → Prop, post u' → wpX_putDown post u (nI s) x (nI d)) ∧ (∀ post : SY → Prop, post v' → wpY_put post v (nI s) x (nI d)) := by
  obtain ⟨cD, aE, aV, aS, aN, aK, aD, aX, aY, aZ, aT, aC, aW, bO, bW, bG, bL, bT, bN, ks, rfl, rfl, h1, h2, h3, h4⟩ := h
  obtain ⟨cG, cL, cT, cN, hI, hW⟩ := dc_putY x hs hd ht (nI p) cD aS aN aK aD bO aC bW bG bL bT bN (dc_len h3) h4
  exact ⟨_, _, dc_Rmk h1 h2 (dc_Pput hs hd h3) hI, fun post hp => dc_putX hs hd (nI p) (nI t) cD aE aV aS aN aK aD aX aY aZ aT aC aW hp, hW⟩
theorem dc_Rcar {p t q : Nat} {u : SX} {v : SY} (ht : t < 1000000000) (hq : q < p) (h : dc_R p t u v) : ∃ u' v', dc_R p t u' v' ∧ (∀ post : SX → Prop, post u' → wpX_carryOut post u (nI q)) ∧ (∀ post : SY → Prop, post v' → wpY_carryOut post v (nI q)) := by
  obtain ⟨cD, aE, aV, aS, aN, aK, aD, aX, aY, aZ, aT, aC, aW, bO, bW, bG, bL, bT, bN, ks, rfl, rfl, h1, h2, h3, h4⟩ := h
  obtain ⟨hk, _, x, y, z, r, d, hx, hy, hz, hr, hd, ex, ey, ez, er, ed, fx, fy, fz, fr⟩ := h2 q
  obtain ⟨cG, cL, cT, cN, hI, hW⟩ := dc_putY (dc_res (aK q) (aS x) (aS y) (aS z) (aC q)) hr hd ht (nI p) cD aS aN aK aD bO aC bW bG bL bT bN (dc_len h3) h4
  exact ⟨_, _, dc_Rmk h1 h2 (dc_Pput hr hd h3) hI, fun post hp => dc_carX (nI p) (nI t) cD aE aV aS aN aK aD aX aY aZ aT aC aW (by omega) hx hy hz hr hd ex ey ez er ed hk hp, fun post hp => dc_carY (nI p) (nI ks.length) (nI t) cD aS aN aK aD bO aC bW bG bL bT bN (by omega) hx hy hz fx fy fz fr ed hk (hW post hp)⟩
theorem dc_Rwat {p t : Nat} (ht : t < 1000000000) {ch : Int32} (hch : ∀ b, b < 32 → 12 ≤ b → bt ch b = false) : ∀ (e q : Nat) (u : SX) (v : SY), q + e = p → dc_R p t u v → ∃ u' v', dc_R p t u' v' ∧ (∀ post : SX → Prop, post u' → wX_carryOutWatchersOf_2 post ch (e + 1) (nI q) u.1 u.2.1 u.2.2.1 u.2.2.2.1 u.2.2.2.2.1 u.2.2.2.2.2.1 u.2.2.2.2.2.2.1 u.2.2.2.2.2.2.2.1 u.2.2.2.2.2.2.2.2.1 u.2.2.2.2.2.2.2.2.2.1 u.2.2.2.2.2.2.2.2.2.2.1 u.2.2.2.2.2.2.2.2.2.2.2.1 u.2.2.2.2.2.2.2.2.2.2.2.2.1 u.2.2.2.2.2.2.2.2.2.2.2.2.2.1 u.2.2.2.2.2.2.2.2.2.2.2.2.2.2) ∧ (∀ post : Int32 → SY → Prop, (∃ n76 : Nat, wY_step_76 post ch v'.1 v'.2.1 v'.2.2.1 (v'.2.2.2.1 + 1) v'.2.2.2.2.1 v'.2.2.2.2.2.1 v'.2.2.2.2.2.2.1 v'.2.2.2.2.2.2.2.1 v'.2.2.2.2.2.2.2.2.1 v'.2.2.2.2.2.2.2.2.2.1 v'.2.2.2.2.2.2.2.2.2.2.1 v'.2.2.2.2.2.2.2.2.2.2.2.1 v'.2.2.2.2.2.2.2.2.2.2.2.2.1 v'.2.2.2.2.2.2.2.2.2.2.2.2.2.1 v'.2.2.2.2.2.2.2.2.2.2.2.2.2.2 n76 0 0) → wY_step_31 post ch (e + 1) (nI q) v.1 v.2.1 v.2.2.1 v.2.2.2.1 v.2.2.2.2.1 v.2.2.2.2.2.1 v.2.2.2.2.2.2.1 v.2.2.2.2.2.2.2.1 v.2.2.2.2.2.2.2.2.1 v.2.2.2.2.2.2.2.2.2.1 v.2.2.2.2.2.2.2.2.2.2.1 v.2.2.2.2.2.2.2.2.2.2.2.1 v.2.2.2.2.2.2.2.2.2.2.2.2.1 v.2.2.2.2.2.2.2.2.2.2.2.2.2.1 v.2.2.2.2.2.2.2.2.2.2.2.2.2.2) := by
  intro e
  induction e with
  | zero =>
    intro q u v hq h
    obtain rfl : q = p := by omega
    obtain ⟨cD, aE, aV, aS, aN, aK, aD, aX, aY, aZ, aT, aC, aW, bO, bW, bG, bL, bT, bN, ks, rfl, rfl, h1, h2, h3, h4⟩ := h
    exact ⟨_, _, dc_Rmk h1 h2 h3 h4, fun post hp => br_t (nI_le (Nat.le_refl _) (by omega)) hp, fun post hp => br_t (nI_le (Nat.le_refl _) (by omega)) (nm_e hp)⟩
  | succ e ih =>
    intro q u v hq h
    have h0 := h
    obtain ⟨cD, aE, aV, aS, aN, aK, aD, aX, aY, aZ, aT, aC, aW, bO, bW, bG, bL, bT, bN, ks, rfl, rfl, h1, h2, h3, h4⟩ := h
    have hc : (nI q).toNatClampNeg = q := nI_clamp (by omega)
    have hi : vp_in (nI q) 8 := vp_in_nI (by omega) (by omega)
    have hlt : ¬ nI p ≤ nI q := nI_ge (by omega) (by omega)
    have hw : bW q &&& ch = aW q &&& ch := by rw [(h2 q).2.1]; exact dc_watch _ _ hch
    by_cases z : aW q &&& ch = 0
    · obtain ⟨u', v', hR, hX, hY⟩ := ih (q + 1) _ _ (by omega) h0
      exact ⟨u', v', hR, fun post hp => br_f hlt ⟨hi, br_t (by dsimp only; rw [hc]; exact z) (nm_r (nI_1 q) (hX post hp))⟩, fun post hp => br_f hlt ⟨hi, br_t (by dsimp only; rw [hc, hw]; exact z) (nm_r (nI_1 q) (hY post hp))⟩⟩
    · obtain ⟨u1, v1, hR1, hX1, hY1⟩ := dc_Rcar ht (show q < p by omega) h0
      obtain ⟨u', v', hR, hX, hY⟩ := ih (q + 1) _ _ (by omega) hR1
      obtain ⟨cD1, aE1, aV1, aS1, aN1, aK1, aD1, aX1, aY1, aZ1, aT1, aC1, aW1, bO1, bW1, bG1, bL1, bT1, bN1, ks1, rfl, rfl, _⟩ := hR1
      exact ⟨u', v', hR, fun post hp => br_f hlt ⟨hi, br_f (by dsimp only; rw [hc]; exact z) (hX1 _ (nm_r (nI_1 q) (hX post hp)))⟩, fun post hp => br_f hlt ⟨hi, br_f (by dsimp only; rw [hc, hw]; exact z) (hY1 _ (nm_r (nI_1 q) (hY post hp)))⟩⟩
/-! how many signals are in a set -/
def dc_bits (ch : Int32) : Nat → Nat → Int32 → Int32
  | 0, _, a => a
  | e + 1, i, a => dc_bits ch e (i + 1) (a + ((ch >>> (nI i &&& 31)) &&& 1))
theorem dc_bitX {post : Int32 → Prop} (ch : Int32) : ∀ (e i : Nat) (a : Int32), i + e = 12 → post (dc_bits ch e i a) → wX_countSignalsIn_4 post ch (e + 1) a (nI i) := by
  intro e
  induction e with
  | zero =>
    intro i a hi hp
    obtain rfl : i = 12 := by omega
    exact br_t (nI_le (a := 12) (b := 12) (by omega) (by decide)) hp
  | succ e ih =>
    intro i a hi hp
    exact br_f (nI_ge (a := i) (b := 12) (by omega) (by decide)) (nm_e (nm_r (nI_1 i) (ih (i + 1) _ (by omega) hp)))
theorem dc_bitY {post : Int32 → SY → Prop} (ch : Int32) (yP yC yN yD : Int32) (bV bE bK bD bO bC bW bG bL bT bN : Nat → Int32) : ∀ (e i : Nat) (a : Int32), i + e = 12 → post (dc_bits ch e i a) (yP, yC, yN, yD, bV, bE, bK, bD, bO, bC, bW, bG, bL, bT, bN) → wY_step_76 post ch yP yC yN yD bV bE bK bD bO bC bW bG bL bT bN (e + 1) a (nI i) := by
  intro e
  induction e with
  | zero =>
    intro i a hi hp
    obtain rfl : i = 12 := by omega
    exact br_t (nI_le (a := 12) (b := 12) (by omega) (by decide)) hp
  | succ e ih =>
    intro i a hi hp
    exact br_f (nI_ge (a := i) (b := 12) (by omega) (by decide)) (nm_e (nm_r (nI_1 i) (ih (i + 1) _ (by omega) hp)))
theorem dc_min : ∀ (ks : List Nat) (k : Nat), ∃ w, (∀ j, j ∈ k :: ks → w ≤ j % 10) ∧ ∃ j, j ∈ k :: ks ∧ j % 10 = w := by
  intro ks
  induction ks with
  | nil => intro k; exact ⟨k % 10, fun j hj => by rw [List.mem_singleton.mp hj]; exact Nat.le_refl _, k, by simp, rfl⟩
  | cons x r ih =>
    intro k
    obtain ⟨w, h1, j, h2, h3⟩ := ih x
    by_cases g : k % 10 ≤ w
    · refine ⟨k % 10, fun i hi => ?_, k, by simp, rfl⟩
      rcases List.mem_cons.mp hi with e | e
      · rw [e]; exact Nat.le_refl _
      · exact Nat.le_trans g (h1 i e)
    · refine ⟨w, fun i hi => ?_, j, List.mem_cons_of_mem _ h2, h3⟩
      rcases List.mem_cons.mp hi with e | e
      · rw [e]; omega
      · exact h1 i e
/-- the delta cycle: with changes pending, both sides do it alike -/
theorem dc_cyc {p t w : Nat} {cD : Int32} {aE aV aS aN aK aD aX aY aZ aT aC aW bO bW bG bL bT bN : Nat → Int32} {ks : List Nat} (ht : t + w < 1000000000) (hw : w < 10) (h1 : p ≤ 8) (h2 : dc_T aK aD aX aY aZ aT aW bO bW) (h3 : dc_P ks aE) (h4 : dc_L (dc_E true t aV bG bL bT bN) 0 ks) (m1 : ∀ k, k ∈ ks → w ≤ k % 10) (m2 : ∃ k, k ∈ ks ∧ k % 10 = w) : ∃ r u' v', dc_R p (t + w) u' v' ∧ (∀ post : Int32 → SX → Prop, post r u' → wpX_doCycleAfter post (nI p, nI t, cD, aE, aV, aS, aN, aK, aD, aX, aY, aZ, aT, aC, aW) (nI w)) ∧ (∀ post : Int32 → SY → Prop, post r v' → wpY_step post (nI p, nI ks.length, nI t, cD, aS, aN, aK, aD, bO, aC, bW, bG, bL, bT, bN)) := by
  have hP1 := dc_Pgo m1 h3
  have hL1 := dc_Ego m1 h3 h4
  have hlen : (ks.map (fun k => k - w)).length = ks.length := List.length_map _
  have hle := dc_len hP1
  obtain ⟨cG, cL, cT, cN, hI, hW⟩ := dc_upY ht (nI p) cD aS aN aK aD bO aC bW bG bL bT bN hle hL1
  rw [dc_upEq _ _ _ hP1] at hW
  have hR2 : dc_R p (t + w) _ _ := dc_Rmk (cD := cD) (aS := dc_tS (dc_gE aE w 120) (dc_gV aE aV w 120) aS 12) (aN := dc_tN (dc_gE aE w 120) (dc_gV aE aV w 120) aS aN 12) (aC := aC) h1 h2 (dc_Ptk hP1) hI
  obtain ⟨u3, v3, hR3, hX3, hY3⟩ := dc_Rwat ht (dc_tChi (dc_gE aE w 120) (dc_gV aE aV w 120) aS) p 0 _ _ (by omega) hR2
  obtain ⟨cD3, aE3, aV3, aS3, aN3, aK3, aD3, aX3, aY3, aZ3, aT3, aC3, aW3, bO3, bW3, bG3, bL3, bT3, bN3, ks3, rfl, rfl, g1, g2, g3, g4⟩ := hR3
  refine ⟨dc_bits (dc_tC (dc_gE aE w 120) (dc_gV aE aV w 120) aS 12) 12 0 0, _, _, dc_Rmk (cD := cD3 + 1) (aS := aS3) (aN := aN3) (aC := aC3) g1 g2 g3 g4, fun post hp => ?_, fun post hp => ?_⟩
  · unfold wpX_doCycleAfter
    refine dc_goX hw (nI p) cD aE aV aS aN aK aD aX aY aZ aT aC aW ?_
    refine dc_tkX (nI p) (nI (t + w)) cD (dc_gE aE w 120) (dc_gV aE aV w 120) aS aN aK aD aX aY aZ aT aC aW ?_
    refine ⟨p + 1, hX3 _ ?_⟩
    refine nm_e ⟨13, dc_bitX _ 12 0 0 rfl hp⟩
  · obtain ⟨k0, hk0, hkw⟩ := m2
    have hne : 0 < ks.length := List.length_pos_of_mem hk0
    have hl120 : ks.length ≤ 120 := by omega
    unfold wpY_step
    refine br_f (nI_ne0 hne (by omega)) ?_
    refine dc_anyY (b := decide (w = 0)) (nI p) (nI t) cD aS aN aK aD bO aC bW bG bL bT bN hl120 h4 (fun z => ⟨k0, hk0, by rw [hkw]; exact of_decide_eq_true z⟩) (fun z k hk => ?_) ?_
    · have a1 := m1 k hk
      have a2 := of_decide_eq_false z
      omega
    · refine dc_nxY (by omega) (nI p) (nI t) cD aS aN aK aD bO aC bW bG bL bT bN hl120 h4 m1 ⟨k0, hk0, hkw⟩ ?_
      rw [← hlen]
      refine hW _ ?_
      refine ⟨p + 1, hY3 post ⟨13, ?_⟩⟩
      exact dc_bitY _ (nI p) (nI ks3.length) (nI (t + w)) (cD3 + 1) aS3 aN3 aK3 aD3 bO3 aC3 bW3 bG3 bL3 bT3 bN3 12 0 0 rfl hp
/-- what comes next: nothing on both sides, or a delta cycle w units away -/
theorem dc_next {p t : Nat} {u : SX} {v : SY} (ht : t < 999999990) (h : dc_R p t u v) : (v.2.1 = 0 ∧ (∀ post : Int32 → Prop, post (-5) → wpX_unitsToNextChange post u) ∧ (∀ post : Int32 → Prop, post (-5) → wpY_nextTime post v)) ∨ ∃ w c : Nat, w < 10 ∧ 0 < c ∧ c ≤ 120 ∧ v.2.1 = nI c ∧ (∀ post : Int32 → Prop, post (nI w) → wpX_unitsToNextChange post u) ∧ (∀ post : Int32 → Prop, post (nI (t + w)) → wpY_nextTime post v) ∧ ∃ r u' v', dc_R p (t + w) u' v' ∧ (∀ post : Int32 → SX → Prop, post r u' → wpX_doCycleAfter post u (nI w)) ∧ (∀ post : Int32 → SY → Prop, post r v' → wpY_step post v) := by
  obtain ⟨cD, aE, aV, aS, aN, aK, aD, aX, aY, aZ, aT, aC, aW, bO, bW, bG, bL, bT, bN, ks, rfl, rfl, h1, h2, h3, h4⟩ := h
  cases ks with
  | nil =>
    refine Or.inl ⟨rfl, fun post hp => dc_unitsN (nI p) (nI t) cD aE aV aS aN aK aD aX aY aZ aT aC aW (fun k hk => ?_) hp, fun post hp => dc_nxY0 (nI p) (nI t) cD aS aN aK aD bO aC bW bG bL bT bN hp⟩
    exact Classical.byContradiction (fun q => absurd ((h3.2.2 k hk).mp q) (by simp))
  | cons k0 r0 =>
    obtain ⟨w, m1, j, hj, ej⟩ := dc_min r0 k0
    have hj120 := h3.2.1 j hj
    have hw : w < 10 := by omega
    refine Or.inr ⟨w, (k0 :: r0).length, hw, by simp, dc_len h3, rfl, fun post hp => ?_, fun post hp => ?_, dc_cyc (by omega) hw h1 h2 h3 h4 m1 ⟨j, hj, ej⟩⟩
    · refine dc_units (nI p) (nI t) cD aE aV aS aN aK aD aX aY aZ aT aC aW (w := w) (s := j / 10) hw (by omega) ?_ ?_ hp
      · rw [show j / 10 * 10 + w = j by omega]
        exact (h3.2.2 j hj120).mpr hj
      · intro d s' hd hs'
        refine Classical.byContradiction (fun q => ?_)
        have q2 := m1 _ ((h3.2.2 (s' * 10 + d) (by omega)).mp q)
        omega
    · exact dc_nxY (by omega) (nI p) (nI t) cD aS aN aK aD bO aC bW bG bL bT bN (dc_len h3) h4 m1 ⟨j, hj, ej⟩ hp
end
section
/-! the calls -/
theorem dc_sigX {post : Int32 → Prop} (x : Int32) (h0 : (x < 0 ∨ nI 12 ≤ x) → post 0) (h1 : ∀ j : Nat, j < 12 → x = nI j → post 1) : wpX_isSignal post x := by
  rcases pk_ix x (n := 12) (by omega) with z | z | ⟨j, hj, e⟩
  · exact br_t z (h0 (Or.inl z))
  · have hn : ¬ x < 0 := Int32.not_lt.mpr (Int32.le_trans (show (0 : Int32) ≤ nI 12 by decide) z)
    exact br_f hn (br_t z (h0 (Or.inr z)))
  · have h := h1 j hj e
    subst e
    exact br_f (nI_pos (by omega)) (br_f (nI_ge (a := j) (b := 12) hj (by decide)) h)
theorem dc_sigY {post : Int32 → Prop} (yP yC yN yD : Int32) (bV bE bK bD bO bC bW bG bL bT bN : Nat → Int32) (x : Int32) (h0 : (x < 0 ∨ nI 12 ≤ x) → post 0) (h1 : ∀ j : Nat, j < 12 → x = nI j → post 1) : wpY_isSignal post (yP, yC, yN, yD, bV, bE, bK, bD, bO, bC, bW, bG, bL, bT, bN) x := dc_sigX x h0 h1
theorem dc_sigB {j : Nat} {x : Int32} (hj : j < 12) (h : x < 0 ∨ nI 12 ≤ x) : nI j ≠ x := by
  intro e
  subst e
  rcases h with z | z
  · exact absurd z (nI_pos (by omega))
  · exact absurd z (nI_ge hj (by decide))
theorem dc_Rcnt {p t : Nat} {u : SX} {v : SY} (h : dc_R p t u v) : ∀ post : Int32 → Prop, post v.2.1 → wpX_countPending post u := by
  obtain ⟨cD, aE, aV, aS, aN, aK, aD, aX, aY, aZ, aT, aC, aW, bO, bW, bG, bL, bT, bN, ks, rfl, rfl, h1, h2, h3, h4⟩ := h
  intro post hp
  refine dc_count (nI p) (nI t) cD aE aV aS aN aK aD aX aY aZ aT aC aW ?_
  rw [dc_cntP h3]
  exact hp
/-! drive, value, events, coming: their branches -/
theorem dc_drX1 {post : Int32 → SX → Prop} {x v d : Int32} (cP nX cD : Int32) (aE aV aS aN aK aD aX aY aZ aT aC aW : Nat → Int32) (hb : x < 0 ∨ nI 12 ≤ x) (h : post (-1) (cP, nX, cD, aE, aV, aS, aN, aK, aD, aX, aY, aZ, aT, aC, aW)) : wpX_drive post (cP, nX, cD, aE, aV, aS, aN, aK, aD, aX, aY, aZ, aT, aC, aW) x v d := by
  unfold wpX_drive
  exact dc_sigX x (fun _ => br_t rfl h) (fun s hs es => absurd es.symm (dc_sigB hs hb))
theorem dc_drY1 {post : Int32 → SY → Prop} {x v d : Int32} (yP yC yN yD : Int32) (bV bE bK bD bO bC bW bG bL bT bN : Nat → Int32) (hb : x < 0 ∨ nI 12 ≤ x) (h : post (-1) (yP, yC, yN, yD, bV, bE, bK, bD, bO, bC, bW, bG, bL, bT, bN)) : wpY_drive post (yP, yC, yN, yD, bV, bE, bK, bD, bO, bC, bW, bG, bL, bT, bN) x v d := by
  unfold wpY_drive
  exact dc_sigY yP yC yN yD bV bE bK bD bO bC bW bG bL bT bN x (fun _ => br_t rfl h) (fun s hs es => absurd es.symm (dc_sigB hs hb))
theorem dc_no10 {x : Int32} (h : ¬ x < 0) (hb : x < 0 ∨ nI 10 ≤ x) : ¬ x < 10 ∧ ¬ x ≤ 9 := by
  have z := hb.resolve_left h
  exact ⟨Int32.not_lt.mpr z, Int32.not_le.mpr (Int32.lt_of_lt_of_le (show (9 : Int32) < nI 10 by decide) z)⟩
theorem dc_drX2 {post : Int32 → SX → Prop} {s : Nat} {v x : Int32} (cP nX cD : Int32) (aE aV aS aN aK aD aX aY aZ aT aC aW : Nat → Int32) (hs : s < 12) (hb : x < 0 ∨ nI 10 ≤ x) (h : post (-3) (cP, nX, cD, aE, aV, aS, aN, aK, aD, aX, aY, aZ, aT, aC, aW)) : wpX_drive post (cP, nX, cD, aE, aV, aS, aN, aK, aD, aX, aY, aZ, aT, aC, aW) (nI s) v x := by
  unfold wpX_drive
  refine dc_sigX _ (fun q => absurd rfl (dc_sigB hs q)) (fun _ _ _ => br_f (by decide) ?_)
  exact br_c (fun _ => h) (fun q => br_f (dc_no10 q hb).1 h)
theorem dc_drY2 {post : Int32 → SY → Prop} {s : Nat} {v x : Int32} (yP yC yN yD : Int32) (bV bE bK bD bO bC bW bG bL bT bN : Nat → Int32) (hs : s < 12) (hb : x < 0 ∨ nI 10 ≤ x) (h : post (-3) (yP, yC, yN, yD, bV, bE, bK, bD, bO, bC, bW, bG, bL, bT, bN)) : wpY_drive post (yP, yC, yN, yD, bV, bE, bK, bD, bO, bC, bW, bG, bL, bT, bN) (nI s) v x := by
  unfold wpY_drive
  refine dc_sigY yP yC yN yD bV bE bK bD bO bC bW bG bL bT bN _ (fun q => absurd rfl (dc_sigB hs q)) (fun _ _ _ => br_f (by decide) ?_)
  exact br_c (fun _ => h) (fun q => br_f (dc_no10 q hb).2 h)
theorem dc_drX3 {post : Int32 → SX → Prop} {s d : Nat} {v : Int32} (cP nX cD : Int32) (aE aV aS aN aK aD aX aY aZ aT aC aW : Nat → Int32) (hs : s < 12) (hd : d < 10) (h : wpX_putDown (fun u => wpX_countPending (fun r => post r u) u) (cP, nX, cD, aE, aV, aS, aN, aK, aD, aX, aY, aZ, aT, aC, aW) (nI s) v (nI d)) : wpX_drive post (cP, nX, cD, aE, aV, aS, aN, aK, aD, aX, aY, aZ, aT, aC, aW) (nI s) v (nI d) := by
  unfold wpX_drive
  exact dc_sigX _ (fun q => absurd rfl (dc_sigB hs q)) (fun _ _ _ => br_f (by decide) (br_f (nI_pos (by omega)) (br_t (nI_lt (b := 10) hd (by decide)) h)))
theorem dc_drY3 {post : Int32 → SY → Prop} {s d : Nat} {v : Int32} (yP yC yN yD : Int32) (bV bE bK bD bO bC bW bG bL bT bN : Nat → Int32) (hs : s < 12) (hd : d < 10) (h : wpY_put (fun u => post u.2.1 u) (yP, yC, yN, yD, bV, bE, bK, bD, bO, bC, bW, bG, bL, bT, bN) (nI s) v (nI d)) : wpY_drive post (yP, yC, yN, yD, bV, bE, bK, bD, bO, bC, bW, bG, bL, bT, bN) (nI s) v (nI d) := by
  unfold wpY_drive
  exact dc_sigY yP yC yN yD bV bE bK bD bO bC bW bG bL bT bN _ (fun q => absurd rfl (dc_sigB hs q)) (fun _ _ _ => br_f (by decide) (br_f (nI_pos (by omega)) (br_t (nI_le (b := 9) (by omega) (by decide)) h)))
theorem dc_vaX0 {post : Int32 → Prop} {x : Int32} (cP nX cD : Int32) (aE aV aS aN aK aD aX aY aZ aT aC aW : Nat → Int32) (hb : x < 0 ∨ nI 12 ≤ x) (h : post 0) : wpX_value post (cP, nX, cD, aE, aV, aS, aN, aK, aD, aX, aY, aZ, aT, aC, aW) x := by
  unfold wpX_value
  exact dc_sigX x (fun _ => br_t rfl h) (fun s hs es => absurd es.symm (dc_sigB hs hb))
theorem dc_vaY0 {post : Int32 → Prop} {x : Int32} (yP yC yN yD : Int32) (bV bE bK bD bO bC bW bG bL bT bN : Nat → Int32) (hb : x < 0 ∨ nI 12 ≤ x) (h : post 0) : wpY_value post (yP, yC, yN, yD, bV, bE, bK, bD, bO, bC, bW, bG, bL, bT, bN) x := by
  unfold wpY_value
  exact dc_sigY yP yC yN yD bV bE bK bD bO bC bW bG bL bT bN x (fun _ => br_t rfl h) (fun s hs es => absurd es.symm (dc_sigB hs hb))
theorem dc_vaX1 {post : Int32 → Prop} {s : Nat} (cP nX cD : Int32) (aE aV aS aN aK aD aX aY aZ aT aC aW : Nat → Int32) (hs : s < 12) (h : post (aS (nI s).toNatClampNeg)) : wpX_value post (cP, nX, cD, aE, aV, aS, aN, aK, aD, aX, aY, aZ, aT, aC, aW) (nI s) := by
  unfold wpX_value
  exact dc_sigX _ (fun q => absurd rfl (dc_sigB hs q)) (fun _ _ _ => br_f (by decide) ⟨vp_in_nI hs (by omega), h⟩)
theorem dc_vaY1 {post : Int32 → Prop} {s : Nat} (yP yC yN yD : Int32) (bV bE bK bD bO bC bW bG bL bT bN : Nat → Int32) (hs : s < 12) (h : post (bV (nI s).toNatClampNeg)) : wpY_value post (yP, yC, yN, yD, bV, bE, bK, bD, bO, bC, bW, bG, bL, bT, bN) (nI s) := by
  unfold wpY_value
  exact dc_sigY yP yC yN yD bV bE bK bD bO bC bW bG bL bT bN _ (fun q => absurd rfl (dc_sigB hs q)) (fun _ _ _ => br_f (by decide) ⟨vp_in_nI hs (by omega), h⟩)
theorem dc_evX0 {post : Int32 → Prop} {x : Int32} (cP nX cD : Int32) (aE aV aS aN aK aD aX aY aZ aT aC aW : Nat → Int32) (hb : x < 0 ∨ nI 12 ≤ x) (h : post 0) : wpX_events post (cP, nX, cD, aE, aV, aS, aN, aK, aD, aX, aY, aZ, aT, aC, aW) x := by
  unfold wpX_events
  exact dc_sigX x (fun _ => br_t rfl h) (fun s hs es => absurd es.symm (dc_sigB hs hb))
theorem dc_evY0 {post : Int32 → Prop} {x : Int32} (yP yC yN yD : Int32) (bV bE bK bD bO bC bW bG bL bT bN : Nat → Int32) (hb : x < 0 ∨ nI 12 ≤ x) (h : post 0) : wpY_events post (yP, yC, yN, yD, bV, bE, bK, bD, bO, bC, bW, bG, bL, bT, bN) x := by
  unfold wpY_events
  exact dc_sigY yP yC yN yD bV bE bK bD bO bC bW bG bL bT bN x (fun _ => br_t rfl h) (fun s hs es => absurd es.symm (dc_sigB hs hb))
theorem dc_evX1 {post : Int32 → Prop} {s : Nat} (cP nX cD : Int32) (aE aV aS aN aK aD aX aY aZ aT aC aW : Nat → Int32) (hs : s < 12) (h : post (aN (nI s).toNatClampNeg)) : wpX_events post (cP, nX, cD, aE, aV, aS, aN, aK, aD, aX, aY, aZ, aT, aC, aW) (nI s) := by
  unfold wpX_events
  exact dc_sigX _ (fun q => absurd rfl (dc_sigB hs q)) (fun _ _ _ => br_f (by decide) ⟨vp_in_nI hs (by omega), h⟩)
theorem dc_evY1 {post : Int32 → Prop} {s : Nat} (yP yC yN yD : Int32) (bV bE bK bD bO bC bW bG bL bT bN : Nat → Int32) (hs : s < 12) (h : post (bE (nI s).toNatClampNeg)) : wpY_events post (yP, yC, yN, yD, bV, bE, bK, bD, bO, bC, bW, bG, bL, bT, bN) (nI s) := by
  unfold wpY_events
  exact dc_sigY yP yC yN yD bV bE bK bD bO bC bW bG bL bT bN _ (fun q => absurd rfl (dc_sigB hs q)) (fun _ _ _ => br_f (by decide) ⟨vp_in_nI hs (by omega), h⟩)
/-! process -/
theorem dc_prX {post : Int32 → SX → Prop} {p a b c d kd dl : Nat} {v1 v2 v3 v4 : Int32} (nX cD : Int32) (aE aV aS aN aK aD aX aY aZ aT aC aW : Nat → Int32) (hp : p ≤ 8) (ha : a < 16) (hb : b < 16) (hc : c < 16) (hd : d < 16) (hk : kd < 8) (hl : dl < 16) (ea : v2 &&& 15 = nI a) (eb : (v2 >>> ((4 : Int32) &&& 31)) &&& 15 = nI b) (ec : (v2 >>> ((8 : Int32) &&& 31)) &&& 15 = nI c) (ed : (v2 >>> ((12 : Int32) &&& 31)) &&& 15 = nI d) (ek : v1 &&& 7 = nI kd) (el : (v1 >>> ((4 : Int32) &&& 31)) &&& 15 = nI dl)
    (h1 : ¬ (a < 12 ∧ b < 12 ∧ c < 12 ∧ d < 12) → post (-1) (nI p, nX, cD, aE, aV, aS, aN, aK, aD, aX, aY, aZ, aT, aC, aW)) (h2 : (a < 12 ∧ b < 12 ∧ c < 12 ∧ d < 12) → 5 < kd → post (-2) (nI p, nX, cD, aE, aV, aS, aN, aK, aD, aX, aY, aZ, aT, aC, aW)) (h3 : (a < 12 ∧ b < 12 ∧ c < 12 ∧ d < 12) → kd ≤ 5 → 10 ≤ dl → post (-3) (nI p, nX, cD, aE, aV, aS, aN, aK, aD, aX, aY, aZ, aT, aC, aW)) (h4 : (a < 12 ∧ b < 12 ∧ c < 12 ∧ d < 12) → kd ≤ 5 → dl < 10 → 8 ≤ p → post (-4) (nI p, nX, cD, aE, aV, aS, aN, aK, aD, aX, aY, aZ, aT, aC, aW)) (h5 : (a < 12 ∧ b < 12 ∧ c < 12 ∧ d < 12) → kd ≤ 5 → dl < 10 → p < 8 → post (nI p) (nI (p + 1), nX, cD, aE, aV, aS, aN, upd aK p (nI kd), upd aD p (nI dl), upd aX p (nI a), upd aY p (nI b), upd aZ p (nI c), upd aT p (nI d), upd aC p v3, upd aW p v4)) : wpX_process post (nI p, nX, cD, aE, aV, aS, aN, aK, aD, aX, aY, aZ, aT, aC, aW) v1 v2 v3 v4 := by
  unfold wpX_process
  refine nm_r ea (nm_r eb (nm_r ec (nm_r ed (nm_r ek (nm_r el ?_)))))
  refine pk_le 12 a (fun z => h1 (by omega)) (fun za => pk_le 12 b (fun z => h1 (by omega)) (fun zb => pk_le 12 c (fun z => h1 (by omega)) (fun zc => pk_lt d 12 (fun zd => pk_le kd 5 (fun zk => pk_lt dl 10 (fun zl => pk_lt p 8 (fun zp => ?_) (fun z => h4 ⟨za, zb, zc, zd⟩ zk zl z)) (fun z => h3 ⟨za, zb, zc, zd⟩ zk z)) (fun z => h2 ⟨za, zb, zc, zd⟩ z)) (fun z => h1 (by omega)))))
  have hi : vp_in (nI p) 8 := vp_in_nI zp (by omega)
  have hcl : (nI p).toNatClampNeg = p := nI_clamp (by omega)
  have h := h5 ⟨za, zb, zc, zd⟩ zk zl zp
  exact ⟨hi, nm_r (e' := upd aK p (nI kd)) (by rw [hcl]) ⟨hi, nm_r (e' := upd aD p (nI dl)) (by rw [hcl]) ⟨hi, nm_r (e' := upd aX p (nI a)) (by rw [hcl]) ⟨hi, nm_r (e' := upd aY p (nI b)) (by rw [hcl]) ⟨hi, nm_r (e' := upd aZ p (nI c)) (by rw [hcl]) ⟨hi, nm_r (e' := upd aT p (nI d)) (by rw [hcl]) ⟨hi, nm_r (e' := upd aC p v3) (by rw [hcl]) ⟨hi, nm_r (e' := upd aW p v4) (by rw [hcl]) (nm_r (nI_1 p) h)⟩⟩⟩⟩⟩⟩⟩⟩
theorem dc_prY {post : Int32 → SY → Prop} {p a b c d kd dl : Nat} {v1 v2 v3 v4 : Int32} (yC yN yD : Int32) (bV bE bK bD bO bC bW bG bL bT bN : Nat → Int32) (hp : p ≤ 8) (ha : a < 16) (hb : b < 16) (hc : c < 16) (hd : d < 16) (hk : kd < 8) (hl : dl < 16) (ea : v2 &&& 15 = nI a) (eb : (v2 >>> ((4 : Int32) &&& 31)) &&& 15 = nI b) (ec : (v2 >>> ((8 : Int32) &&& 31)) &&& 15 = nI c) (ed : (v2 >>> ((12 : Int32) &&& 31)) &&& 15 = nI d) (ek : v1 &&& 7 = nI kd) (el : (v1 >>> ((4 : Int32) &&& 31)) &&& 15 = nI dl)
    (h1 : ¬ (a < 12 ∧ b < 12 ∧ c < 12 ∧ d < 12) → post (-1) (nI p, yC, yN, yD, bV, bE, bK, bD, bO, bC, bW, bG, bL, bT, bN)) (h2 : (a < 12 ∧ b < 12 ∧ c < 12 ∧ d < 12) → 5 < kd → post (-2) (nI p, yC, yN, yD, bV, bE, bK, bD, bO, bC, bW, bG, bL, bT, bN)) (h3 : (a < 12 ∧ b < 12 ∧ c < 12 ∧ d < 12) → kd ≤ 5 → 10 ≤ dl → post (-3) (nI p, yC, yN, yD, bV, bE, bK, bD, bO, bC, bW, bG, bL, bT, bN)) (h4 : (a < 12 ∧ b < 12 ∧ c < 12 ∧ d < 12) → kd ≤ 5 → dl < 10 → 8 ≤ p → post (-4) (nI p, yC, yN, yD, bV, bE, bK, bD, bO, bC, bW, bG, bL, bT, bN)) (h5 : (a < 12 ∧ b < 12 ∧ c < 12 ∧ d < 12) → kd ≤ 5 → dl < 10 → p < 8 → post (nI p) (nI (p + 1), yC, yN, yD, bV, bE, upd bK p (nI kd), upd bD p (nI dl), upd bO p (v2 &&& 65535), upd bC p v3, upd bW p (v4 &&& 4095), bG, bL, bT, bN)) : wpY_process post (nI p, yC, yN, yD, bV, bE, bK, bD, bO, bC, bW, bG, bL, bT, bN) v1 v2 v3 v4 := by
  have e0 : (v2 >>> ((4 * (0 : Int32)) &&& 31)) &&& 15 = nI a := by
    rw [← ea]
    congr 1
    apply b_ext
    intro i hi
    have := b_sshr 0 (by omega) v2 hi
    rw [if_pos (by omega), Nat.zero_add] at this
    exact this
  have e1 : (v2 >>> ((4 * (1 : Int32)) &&& 31)) &&& 15 = nI b := by rw [show (4 * (1 : Int32)) &&& 31 = (4 : Int32) &&& 31 by decide]; exact eb
  have e2 : (v2 >>> ((4 * (2 : Int32)) &&& 31)) &&& 15 = nI c := by rw [show (4 * (2 : Int32)) &&& 31 = (8 : Int32) &&& 31 by decide]; exact ec
  have e3 : (v2 >>> ((4 * (3 : Int32)) &&& 31)) &&& 15 = nI d := by rw [show (4 * (3 : Int32)) &&& 31 = (12 : Int32) &&& 31 by decide]; exact ed
  refine ⟨5, ?_⟩
  refine br_f (by decide) (pk_le a 11 (fun za => nm_r (e' := 1) (by decide) ?_) (fun z => h1 (by omega)) e0)
  refine br_f (by decide) (pk_le b 11 (fun zb => nm_r (e' := 2) (by decide) ?_) (fun z => h1 (by omega)) e1)
  refine br_f (by decide) (pk_le c 11 (fun zc => nm_r (e' := 3) (by decide) ?_) (fun z => h1 (by omega)) e2)
  refine br_f (by decide) (pk_le d 11 (fun zd => nm_r (e' := 4) (by decide) ?_) (fun z => h1 (by omega)) e3)
  have G : a < 12 ∧ b < 12 ∧ c < 12 ∧ d < 12 := by omega
  refine br_t (by decide) (pk_le kd 5 (fun zk => pk_le dl 9 (fun zl => pk_eq p 8 (fun z => h4 G zk (by omega) (by omega)) (fun z => ?_)) (fun z => h3 G zk (by omega)) el) (fun z => h2 G z) ek)
  have hi : vp_in (nI p) 8 := vp_in_nI (by omega) (by omega)
  have hcl : (nI p).toNatClampNeg = p := nI_clamp (by omega)
  have h := h5 G zk (by omega) (by omega)
  refine ⟨hi, nm_r (e' := upd bK p (nI kd)) (by rw [hcl, ek]) ⟨hi, nm_r (e' := upd bD p (nI dl)) (by rw [hcl, el]) ⟨hi, nm_r (e' := upd bO p (v2 &&& 65535)) (by rw [hcl]) ⟨hi, nm_r (e' := upd bC p v3) (by rw [hcl]) ⟨hi, nm_r (e' := upd bW p (v4 &&& 4095)) (by rw [hcl]) (nm_r (nI_1 p) ?_)⟩⟩⟩⟩⟩
  rw [nI_pred]
  exact h
theorem dc_kdN {kd : Nat} (h : kd ≤ 5) : dc_kd (nI kd) := by
  unfold dc_kd
  rcases (show kd = 0 ∨ kd = 1 ∨ kd = 2 ∨ kd = 3 ∨ kd = 4 ∨ kd = 5 by omega) with e | e | e | e | e | e <;> subst e <;> decide
theorem dc_Tnew {p a b c d kd dl : Nat} {v2 v4 : Int32} {aK aD aX aY aZ aT aW bO bW : Nat → Int32} (ea : v2 &&& 15 = nI a) (eb : (v2 >>> ((4 : Int32) &&& 31)) &&& 15 = nI b) (ec : (v2 >>> ((8 : Int32) &&& 31)) &&& 15 = nI c) (ed : (v2 >>> ((12 : Int32) &&& 31)) &&& 15 = nI d) (G : a < 12 ∧ b < 12 ∧ c < 12 ∧ d < 12) (hk : kd ≤ 5) (hl : dl < 10) (h : dc_T aK aD aX aY aZ aT aW bO bW) : dc_T (upd aK p (nI kd)) (upd aD p (nI dl)) (upd aX p (nI a)) (upd aY p (nI b)) (upd aZ p (nI c)) (upd aT p (nI d)) (upd aW p v4) (upd bO p (v2 &&& 65535)) (upd bW p (v4 &&& 4095)) := by
  intro j
  by_cases e : j = p
  · subst e
    simp only [pk_us]
    exact ⟨dc_kdN hk, by trivial, a, b, c, d, dl, G.1, G.2.1, G.2.2.1, G.2.2.2, hl, by trivial, by trivial, by trivial, by trivial, by trivial, by rw [dc_op0, ea], by rw [← eb]; exact dc_opn v2 4 (by omega), by rw [← ec]; exact dc_opn v2 8 (by omega), by rw [← ed]; exact dc_op12 v2⟩
  · simp only [pk_un e]
    exact h j
/-! run -/
theorem dc_Rrun {p M : Nat} (hM : M ≤ 200) : ∀ (e dn U t : Nat) (u : SX) (v : SY), dn + e = M → t + U < 999999000 → dc_R p t u v → ∃ r t' u' v', t' ≤ t + U ∧ dc_R p t' u' v' ∧ (∀ post : Int32 → SX → Prop, post r u' → wX_run_20 post (nI M) (e + 1) (nI U) (nI dn) u.1 u.2.1 u.2.2.1 u.2.2.2.1 u.2.2.2.2.1 u.2.2.2.2.2.1 u.2.2.2.2.2.2.1 u.2.2.2.2.2.2.2.1 u.2.2.2.2.2.2.2.2.1 u.2.2.2.2.2.2.2.2.2.1 u.2.2.2.2.2.2.2.2.2.2.1 u.2.2.2.2.2.2.2.2.2.2.2.1 u.2.2.2.2.2.2.2.2.2.2.2.2.1 u.2.2.2.2.2.2.2.2.2.2.2.2.2.1 u.2.2.2.2.2.2.2.2.2.2.2.2.2.2) ∧ (∀ post : Int32 → SY → Prop, post r v' → wY_run_55 post (nI (t + U)) (nI M) (e + 1) (nI dn) v.1 v.2.1 v.2.2.1 v.2.2.2.1 v.2.2.2.2.1 v.2.2.2.2.2.1 v.2.2.2.2.2.2.1 v.2.2.2.2.2.2.2.1 v.2.2.2.2.2.2.2.2.1 v.2.2.2.2.2.2.2.2.2.1 v.2.2.2.2.2.2.2.2.2.2.1 v.2.2.2.2.2.2.2.2.2.2.2.1 v.2.2.2.2.2.2.2.2.2.2.2.2.1 v.2.2.2.2.2.2.2.2.2.2.2.2.2.1 v.2.2.2.2.2.2.2.2.2.2.2.2.2.2) := by
  intro e
  induction e with
  | zero =>
    intro dn U t u v hdn hU h
    obtain rfl : dn = M := by omega
    have h0 := h
    obtain ⟨cD, aE, aV, aS, aN, aK, aD, aX, aY, aZ, aT, aC, aW, bO, bW, bG, bL, bT, bN, ks, rfl, rfl, _⟩ := h
    exact ⟨nI dn, t, _, _, by omega, h0, fun post hp => br_t (nI_le (Nat.le_refl _) (by omega)) hp, fun post hp => br_t (nI_le (Nat.le_refl _) (by omega)) hp⟩
  | succ e ih =>
    intro dn U t u v hdn hU h
    have hlt : ¬ nI M ≤ nI dn := nI_ge (by omega) (by omega)
    have hnx := dc_next (by omega) h
    have h0 := h
    obtain ⟨cD, aE, aV, aS, aN, aK, aD, aX, aY, aZ, aT, aC, aW, bO, bW, bG, bL, bT, bN, ks, rfl, rfl, _⟩ := h
    rcases hnx with ⟨hz, hX, _⟩ | ⟨w, c, hw, hc0, hc, ec, hX, hN, r1, u1, v1, hR1, hX1, hY1⟩
    · exact ⟨nI dn, t, _, _, by omega, h0, fun post hp => br_f hlt (hX _ (br_t rfl hp)), fun post hp => br_f hlt (br_t (by rw [hz]; decide) hp)⟩
    · have hcn : ¬ nI c ≤ 0 := nI_nle hc0 (by omega)
      have hw5 : ¬ nI w = -5 := dc_m5 (by omega)
      by_cases g : w ≤ U
      · obtain ⟨r, t', u', v', ht', hR, hX2, hY2⟩ := ih (dn + 1) (U - w) (t + w) u1 v1 (by omega) (by omega) hR1
        rw [show t + w + (U - w) = t + U by omega] at ht' hY2
        obtain ⟨cD1, aE1, aV1, aS1, aN1, aK1, aD1, aX1, aY1, aZ1, aT1, aC1, aW1, bO1, bW1, bG1, bL1, bT1, bN1, ks1, rfl, rfl, _⟩ := hR1
        exact ⟨r, t', u', v', ht', hR, fun post hp => br_f hlt (hX _ (br_f hw5 (br_t (nI_le g (by omega)) (hX1 _ (nm_r (pk_sub g) (nm_r (nI_1 dn) (hX2 post hp))))))), fun post hp => br_f hlt (br_f (by rw [ec]; exact hcn) (hN _ (br_f (nI_nlt (by omega) (by omega)) (hY1 _ (nm_r (nI_1 dn) (hY2 post hp))))))⟩
      · exact ⟨nI dn, t, _, _, by omega, h0, fun post hp => br_f hlt (hX _ (br_f hw5 (br_f (nI_ge (by omega) (by omega)) hp))), fun post hp => br_f hlt (br_f (by rw [ec]; exact hcn) (hN _ (br_t (nI_lt (by omega) (by omega)) hp)))⟩
theorem dc_lim (x : Int32) (M : Nat) (hM : M < 2 ^ 31) : ∃ m, m ≤ M ∧ ∀ F : Int32 → Prop, F (nI m) → ((0 ≤ x → ((x ≤ nI M → F x) ∧ (¬ x ≤ nI M → F (nI M)))) ∧ (¬ 0 ≤ x → F 0)) := by
  by_cases z : x < 0
  · exact ⟨0, by omega, fun F h => br_f (Int32.not_le.mpr z) h⟩
  · have z2 : 0 ≤ x := Int32.not_lt.mp z
    obtain ⟨j, hj, rfl⟩ := nI_of z
    by_cases g : j ≤ M
    · exact ⟨j, g, fun F h => br_t z2 (br_t (nI_le g hM) h)⟩
    · exact ⟨M, Nat.le_refl _, fun F h => br_t z2 (br_f (nI_ge (by omega) hj) h)⟩
theorem dc_runY {post : Int32 → SY → Prop} {t U M : Nat} {v1 v2 : Int32} (yP yC yD : Int32) (bV bE bK bD bO bC bW bG bL bT bN : Nat → Int32) (hU : ∀ F : Int32 → Prop, F (nI U) → ((0 ≤ v1 → ((v1 ≤ nI 1000 → F v1) ∧ (¬ v1 ≤ nI 1000 → F (nI 1000)))) ∧ (¬ 0 ≤ v1 → F 0))) (hM : ∀ F : Int32 → Prop, F (nI M) → ((0 ≤ v2 → ((v2 ≤ nI 200 → F v2) ∧ (¬ v2 ≤ nI 200 → F (nI 200)))) ∧ (¬ 0 ≤ v2 → F 0))) (h : ∃ n, wY_run_55 post (nI (t + U)) (nI M) n 0 yP yC (nI t) yD bV bE bK bD bO bC bW bG bL bT bN) : wpY_run post (yP, yC, nI t, yD, bV, bE, bK, bD, bO, bC, bW, bG, bL, bT, bN) v1 v2 := by
  unfold wpY_run
  refine hU (fun z => wY_run_26 post v2 z (nI t) yP yC (nI t) yD bV bE bK bD bO bC bW bG bL bT bN) ?_
  unfold wY_run_26
  exact nm_r (nI_add t U) (hM (fun z => ∃ n, wY_run_55 post (nI (t + U)) z n 0 yP yC (nI t) yD bV bE bK bD bO bC bW bG bL bT bN) h)
theorem dc_runX {post : Int32 → SX → Prop} {U M : Nat} {v1 v2 : Int32} (cP nX cD : Int32) (aE aV aS aN aK aD aX aY aZ aT aC aW : Nat → Int32) (hU : ∀ F : Int32 → Prop, F (nI U) → ((0 ≤ v1 → ((v1 ≤ nI 1000 → F v1) ∧ (¬ v1 ≤ nI 1000 → F (nI 1000)))) ∧ (¬ 0 ≤ v1 → F 0))) (hM : ∀ F : Int32 → Prop, F (nI M) → ((0 ≤ v2 → ((v2 ≤ nI 200 → F v2) ∧ (¬ v2 ≤ nI 200 → F (nI 200)))) ∧ (¬ 0 ≤ v2 → F 0))) (h : ∃ n, wX_run_20 post (nI M) n (nI U) 0 cP nX cD aE aV aS aN aK aD aX aY aZ aT aC aW) : wpX_run post (cP, nX, cD, aE, aV, aS, aN, aK, aD, aX, aY, aZ, aT, aC, aW) v1 v2 := by
  unfold wpX_run
  refine hU (fun z => wpX_limited (fun y => ∃ n, wX_run_20 post y n z 0 cP nX cD aE aV aS aN aK aD aX aY aZ aT aC aW) v2 200) ?_
  exact hM (fun y => ∃ n, wX_run_20 post y n (nI U) 0 cP nX cD aE aV aS aN aK aD aX aY aZ aT aC aW) h
/-! reset -/
def dc_z (f : Nat → Int32) (n : Nat) : Nat → Int32 := fun j => if j < n then 0 else f j
theorem dc_z0 (f : Nat → Int32) : dc_z f 0 = f := by
  funext j
  exact if_neg (by omega)
theorem dc_zS (f : Nat → Int32) (n : Nat) : upd (dc_z f n) n 0 = dc_z f (n + 1) := by
  funext j
  simp only [upd, dc_z]
  by_cases e : j = n
  · rw [if_pos e, if_pos (by omega)]
  · rw [if_neg e]
    simp only [dc_ltS e]
theorem dc_zO (f : Nat → Int32) (n : Nat) : dc_out (dc_z f (n * 10)) n 0 = dc_z f ((n + 1) * 10) := by
  funext j
  simp only [dc_out, dc_z]
  by_cases e : n * 10 + 0 ≤ j ∧ j < n * 10 + 10
  · rw [if_pos e, if_pos (by omega)]
  · rw [if_neg e]
    by_cases g : j < n * 10
    · rw [if_pos g, if_pos (by omega)]
    · rw [if_neg g, if_neg (by omega)]
theorem dc_rsX {post : SX → Prop} (cP nX cD : Int32) (aE aV aS aN aK aD aX aY aZ aT aC aW : Nat → Int32) (hp : post (cP, 0, 0, dc_z aE 120, aV, dc_z aS 12, dc_z aN 12, aK, aD, aX, aY, aZ, aT, aC, aW)) : ∀ (e n : Nat), n + e = 12 → wX_reset_2 post (e + 1) (nI n) cP nX cD (dc_z aE (n * 10)) aV (dc_z aS n) (dc_z aN n) aK aD aX aY aZ aT aC aW := by
  intro e
  induction e with
  | zero =>
    intro n hn
    obtain rfl : n = 12 := by omega
    exact br_t (nI_le (a := 12) (b := 12) (by omega) (by decide)) hp
  | succ e ih =>
    intro n hn
    have hcl : (nI n).toNatClampNeg = n := nI_clamp (by omega)
    have hi : vp_in (nI n) 12 := vp_in_nI (by omega) (by omega)
    refine br_f (nI_ge (a := n) (b := 12) (by omega) (by decide)) ⟨hi, nm_r (e' := dc_z aS (n + 1)) (by rw [hcl, dc_zS]) ⟨hi, nm_r (e' := dc_z aN (n + 1)) (by rw [hcl, dc_zS]) ?_⟩⟩
    refine dc_takeW (d := 0) (by omega) (by omega) cP nX cD (dc_z aE (n * 10)) aV (dc_z aS (n + 1)) (dc_z aN (n + 1)) aK aD aX aY aZ aT aC aW ?_
    rw [dc_zO]
    exact nm_r (nI_1 n) (ih (n + 1) (by omega))
theorem dc_rsY {post : SY → Prop} (yP yC yN yD : Int32) (bV bE bK bD bO bC bW bG bL bT bN : Nat → Int32) (hp : post (yP, 0, 0, 0, dc_z bV 12, dc_z bE 12, bK, bD, bO, bC, bW, bG, bL, bT, bN)) : ∀ (e n : Nat), n + e = 12 → wY_reset_2 post yP yC yN yD (e + 1) (nI n) (dc_z bV n) (dc_z bE n) bK bD bO bC bW bG bL bT bN := by
  intro e
  induction e with
  | zero =>
    intro n hn
    obtain rfl : n = 12 := by omega
    exact br_t (nI_le (a := 12) (b := 12) (by omega) (by decide)) hp
  | succ e ih =>
    intro n hn
    have hcl : (nI n).toNatClampNeg = n := nI_clamp (by omega)
    have hi : vp_in (nI n) 12 := vp_in_nI (by omega) (by omega)
    exact br_f (nI_ge (a := n) (b := 12) (by omega) (by decide)) ⟨hi, nm_r (e' := dc_z bV (n + 1)) (by rw [hcl, dc_zS]) ⟨hi, nm_r (e' := dc_z bE (n + 1)) (by rw [hcl, dc_zS]) (nm_r (nI_1 n) (ih (n + 1) (by omega)))⟩⟩
end
section
/-! what is owed -/
def i_Rel (k : Nat) (u : SX) (v : SY) : Prop := ∃ p t : Nat, t ≤ 200 * k ∧ dc_R p t u v
theorem i_up {k : Nat} {u : SX} {v : SY} (h : i_Rel k u v) : i_Rel (k + 5) u v := by
  obtain ⟨p, t, h1, h2⟩ := h
  exact ⟨p, t, by omega, h2⟩
theorem i_vc0 : wpX_init (fun u => wpY_init (fun v => i_Rel 0 u v)) := by
  refine ⟨0, 0, by omega, dc_Rmk (ks := []) (by omega) (fun j => ?_) ⟨by simp, by simp, fun k _ => ?_⟩ True.intro⟩
  · exact ⟨Or.inl rfl, by decide, 0, 0, 0, 0, 0, by omega, by omega, by omega, by omega, by omega, rfl, rfl, rfl, rfl, rfl, by decide, by decide, by decide, by decide⟩
  · exact ⟨fun q => absurd rfl q, fun q => absurd q (by simp)⟩
theorem i_vc_process {k : Nat} {u : SX} {v : SY} (I : i_Rel k u v) (hk : k + 5 ≤ 2560) (v1 : Int32) (v2 : Int32) (v3 : Int32) (v4 : Int32) : wpX_process (fun r u' => wpY_process (fun r' v' => r' = r ∧ i_Rel (k + 5) u' v') v v1 v2 v3 v4) u v1 v2 v3 v4 := by
  have J := i_up I
  obtain ⟨p, t, htk, hR⟩ := I
  obtain ⟨cD, aE, aV, aS, aN, aK, aD, aX, aY, aZ, aT, aC, aW, bO, bW, bG, bL, bT, bN, ks, rfl, rfl, g1, g2, g3, g4⟩ := hR
  obtain ⟨a, ha, ea⟩ := pk_andE v2 (m := 15) 4 (by decide)
  obtain ⟨b, hb, eb⟩ := pk_andE (v2 >>> ((4 : Int32) &&& 31)) (m := 15) 4 (by decide)
  obtain ⟨c, hc, ec⟩ := pk_andE (v2 >>> ((8 : Int32) &&& 31)) (m := 15) 4 (by decide)
  obtain ⟨d, hd, ed⟩ := pk_andE (v2 >>> ((12 : Int32) &&& 31)) (m := 15) 4 (by decide)
  obtain ⟨kd, hkd, ek⟩ := pk_andE v1 (m := 7) 3 (by decide)
  obtain ⟨dl, hdl, el⟩ := pk_andE (v1 >>> ((4 : Int32) &&& 31)) (m := 15) 4 (by decide)
  refine dc_prX (nI t) cD aE aV aS aN aK aD aX aY aZ aT aC aW g1 ha hb hc hd hkd hdl ea eb ec ed ek el (fun c1 => ?_) (fun c1 c2 => ?_) (fun c1 c2 c3 => ?_) (fun c1 c2 c3 c4 => ?_) (fun c1 c2 c3 c4 => ?_)
  · exact dc_prY (nI ks.length) (nI t) cD aS aN aK aD bO aC bW bG bL bT bN g1 ha hb hc hd hkd hdl ea eb ec ed ek el (fun _ => ⟨rfl, J⟩) (fun d1 => absurd d1 c1) (fun d1 => absurd d1 c1) (fun d1 => absurd d1 c1) (fun d1 => absurd d1 c1)
  · exact dc_prY (nI ks.length) (nI t) cD aS aN aK aD bO aC bW bG bL bT bN g1 ha hb hc hd hkd hdl ea eb ec ed ek el (fun d1 => absurd c1 d1) (fun _ _ => ⟨rfl, J⟩) (fun _ d2 => absurd d2 (by omega)) (fun _ d2 => absurd d2 (by omega)) (fun _ d2 => absurd d2 (by omega))
  · exact dc_prY (nI ks.length) (nI t) cD aS aN aK aD bO aC bW bG bL bT bN g1 ha hb hc hd hkd hdl ea eb ec ed ek el (fun d1 => absurd c1 d1) (fun _ d2 => absurd d2 (by omega)) (fun _ _ _ => ⟨rfl, J⟩) (fun _ _ d3 => absurd d3 (by omega)) (fun _ _ d3 => absurd d3 (by omega))
  · exact dc_prY (nI ks.length) (nI t) cD aS aN aK aD bO aC bW bG bL bT bN g1 ha hb hc hd hkd hdl ea eb ec ed ek el (fun d1 => absurd c1 d1) (fun _ d2 => absurd d2 (by omega)) (fun _ _ d3 => absurd d3 (by omega)) (fun _ _ _ _ => ⟨rfl, J⟩) (fun _ _ _ d4 => absurd d4 (by omega))
  · exact dc_prY (nI ks.length) (nI t) cD aS aN aK aD bO aC bW bG bL bT bN g1 ha hb hc hd hkd hdl ea eb ec ed ek el (fun d1 => absurd c1 d1) (fun _ d2 => absurd d2 (by omega)) (fun _ _ d3 => absurd d3 (by omega)) (fun _ _ _ d4 => absurd d4 (by omega)) (fun _ _ _ _ => ⟨rfl, p + 1, t, by omega, dc_Rmk (by omega) (dc_Tnew ea eb ec ed c1 c2 c3 g2) g3 g4⟩)
theorem i_vc_drive {k : Nat} {u : SX} {v : SY} (I : i_Rel k u v) (hk : k + 5 ≤ 2560) (v1 : Int32) (v2 : Int32) (v3 : Int32) : wpX_drive (fun r u' => wpY_drive (fun r' v' => r' = r ∧ i_Rel (k + 5) u' v') v v1 v2 v3) u v1 v2 v3 := by
  have J := i_up I
  obtain ⟨p, t, htk, hR⟩ := I
  have hR0 := hR
  obtain ⟨cD, aE, aV, aS, aN, aK, aD, aX, aY, aZ, aT, aC, aW, bO, bW, bG, bL, bT, bN, ks, rfl, rfl, g1, g2, g3, g4⟩ := hR
  rcases pk_ix v1 (n := 12) (by omega) with z | z | ⟨s, hs, rfl⟩
  · exact dc_drX1 (nI p) (nI t) cD aE aV aS aN aK aD aX aY aZ aT aC aW (Or.inl z) (dc_drY1 (nI p) (nI ks.length) (nI t) cD aS aN aK aD bO aC bW bG bL bT bN (Or.inl z) ⟨rfl, J⟩)
  · exact dc_drX1 (nI p) (nI t) cD aE aV aS aN aK aD aX aY aZ aT aC aW (Or.inr z) (dc_drY1 (nI p) (nI ks.length) (nI t) cD aS aN aK aD bO aC bW bG bL bT bN (Or.inr z) ⟨rfl, J⟩)
  · rcases pk_ix v3 (n := 10) (by omega) with z | z | ⟨d, hd, rfl⟩
    · exact dc_drX2 (nI p) (nI t) cD aE aV aS aN aK aD aX aY aZ aT aC aW hs (Or.inl z) (dc_drY2 (nI p) (nI ks.length) (nI t) cD aS aN aK aD bO aC bW bG bL bT bN hs (Or.inl z) ⟨rfl, J⟩)
    · exact dc_drX2 (nI p) (nI t) cD aE aV aS aN aK aD aX aY aZ aT aC aW hs (Or.inr z) (dc_drY2 (nI p) (nI ks.length) (nI t) cD aS aN aK aD bO aC bW bG bL bT bN hs (Or.inr z) ⟨rfl, J⟩)
    · obtain ⟨u1, v1', hR1, hX1, hY1⟩ := dc_Rput v2 (by omega) hs hd hR0
      exact dc_drX3 (nI p) (nI t) cD aE aV aS aN aK aD aX aY aZ aT aC aW hs hd (hX1 _ (dc_Rcnt hR1 _ (dc_drY3 (nI p) (nI ks.length) (nI t) cD aS aN aK aD bO aC bW bG bL bT bN hs hd (hY1 _ ⟨rfl, p, t, by omega, hR1⟩))))
theorem i_vc_poke {k : Nat} {u : SX} {v : SY} (I : i_Rel k u v) (hk : k + 5 ≤ 2560) (v1 : Int32) : wpX_poke (fun r u' => wpY_poke (fun r' v' => r' = r ∧ i_Rel (k + 5) u' v') v v1) u v1 := by
  have J := i_up I
  obtain ⟨p, t, htk, hR⟩ := I
  have hR0 := hR
  obtain ⟨cD, aE, aV, aS, aN, aK, aD, aX, aY, aZ, aT, aC, aW, bO, bW, bG, bL, bT, bN, ks, rfl, rfl, g1, g2, g3, g4⟩ := hR
  unfold wpX_poke wpY_poke
  rcases pk_ix v1 (n := p) (by omega) with z | z | ⟨q, hq, rfl⟩
  · exact br_t z (br_t z ⟨rfl, J⟩)
  · have hn : ¬ v1 < 0 := Int32.not_lt.mpr (Int32.le_trans (nI_pos' (by omega)) z)
    have hn2 : ¬ v1 < nI p := Int32.not_lt.mpr z
    exact br_f hn (br_f hn2 (br_f hn (br_f hn2 ⟨rfl, J⟩)))
  · obtain ⟨u1, v1', hR1, hX1, hY1⟩ := dc_Rcar (by omega) hq hR0
    have hJ : i_Rel (k + 5) u1 v1' := ⟨p, t, by omega, hR1⟩
    have hC := dc_Rcnt hR1
    obtain ⟨cD1, aE1, aV1, aS1, aN1, aK1, aD1, aX1, aY1, aZ1, aT1, aC1, aW1, bO1, bW1, bG1, bL1, bT1, bN1, ks1, rfl, rfl, _⟩ := hR1
    have hn : ¬ nI q < 0 := nI_pos (by omega)
    have hn2 : nI q < nI p := nI_lt hq (by omega)
    exact br_f hn (br_t hn2 (hX1 _ (hC _ (br_f hn (br_t hn2 (hY1 _ ⟨rfl, hJ⟩))))))
theorem i_vc_step {k : Nat} {u : SX} {v : SY} (I : i_Rel k u v) (hk : k + 5 ≤ 2560) : wpX_step (fun r u' => wpY_step (fun r' v' => r' = r ∧ i_Rel (k + 5) u' v') v) u := by
  have J := i_up I
  obtain ⟨p, t, htk, hR⟩ := I
  have hnx := dc_next (by omega) hR
  obtain ⟨cD, aE, aV, aS, aN, aK, aD, aX, aY, aZ, aT, aC, aW, bO, bW, bG, bL, bT, bN, ks, rfl, rfl, g1, g2, g3, g4⟩ := hR
  rcases hnx with ⟨hz, hX, _⟩ | ⟨w, c, hw, hc0, hc, ec, hX, hN, r1, u1, v1, hR1, hX1, hY1⟩
  · unfold wpX_step
    refine hX _ (br_t rfl ?_)
    unfold wpY_step
    exact br_t hz ⟨rfl, J⟩
  · have hJ : i_Rel (k + 5) u1 v1 := ⟨p, t + w, by omega, hR1⟩
    obtain ⟨cD1, aE1, aV1, aS1, aN1, aK1, aD1, aX1, aY1, aZ1, aT1, aC1, aW1, bO1, bW1, bG1, bL1, bT1, bN1, ks1, rfl, rfl, _⟩ := hR1
    unfold wpX_step
    exact hX _ (br_f (dc_m5 (by omega)) (hX1 _ (hY1 _ ⟨rfl, hJ⟩)))
theorem i_vc_run {k : Nat} {u : SX} {v : SY} (I : i_Rel k u v) (hk : k + 5 ≤ 2560) (v1 : Int32) (v2 : Int32) : wpX_run (fun r u' => wpY_run (fun r' v' => r' = r ∧ i_Rel (k + 5) u' v') v v1 v2) u v1 v2 := by
  obtain ⟨p, t, htk, hR⟩ := I
  obtain ⟨U, hU, hlU⟩ := dc_lim v1 1000 (by omega)
  obtain ⟨M, hM, hlM⟩ := dc_lim v2 200 (by omega)
  obtain ⟨r, t', u', v', ht', hR', hX, hY⟩ := dc_Rrun hM M 0 U t u v (by omega) (by omega) hR
  obtain ⟨cD, aE, aV, aS, aN, aK, aD, aX, aY, aZ, aT, aC, aW, bO, bW, bG, bL, bT, bN, ks, rfl, rfl, g1, g2, g3, g4⟩ := hR
  exact dc_runX (nI p) (nI t) cD aE aV aS aN aK aD aX aY aZ aT aC aW hlU hlM ⟨M + 1, hX _ (dc_runY (nI p) (nI ks.length) cD aS aN aK aD bO aC bW bG bL bT bN hlU hlM ⟨M + 1, hY _ ⟨rfl, p, t', by omega, hR'⟩⟩)⟩
theorem i_vc_reset {k : Nat} {u : SX} {v : SY} (I : i_Rel k u v) (hk : k + 5 ≤ 2560) : wpX_reset (fun u' => wpY_reset (fun v' => i_Rel (k + 5) u' v') v) u := by
  obtain ⟨p, t, htk, hR⟩ := I
  obtain ⟨cD, aE, aV, aS, aN, aK, aD, aX, aY, aZ, aT, aC, aW, bO, bW, bG, bL, bT, bN, ks, rfl, rfl, g1, g2, g3, g4⟩ := hR
  have hJ : i_Rel (k + 5) (nI p, 0, 0, dc_z aE 120, aV, dc_z aS 12, dc_z aN 12, aK, aD, aX, aY, aZ, aT, aC, aW) (nI p, 0, 0, 0, dc_z aS 12, dc_z aN 12, aK, aD, bO, aC, bW, bG, bL, bT, bN) := by
    refine ⟨p, 0, by omega, dc_Rmk (ks := []) g1 g2 ⟨by simp, by simp, fun j hj => ?_⟩ True.intro⟩
    have e : dc_z aE 120 j = 0 := if_pos hj
    rw [e]
    exact ⟨fun q => absurd rfl q, fun q => absurd q (by simp)⟩
  have h2 := dc_rsY (post := fun v' => i_Rel (k + 5) (nI p, 0, 0, dc_z aE 120, aV, dc_z aS 12, dc_z aN 12, aK, aD, aX, aY, aZ, aT, aC, aW) v') (nI p) (nI ks.length) (nI t) cD aS aN aK aD bO aC bW bG bL bT bN hJ 12 0 rfl
  rw [dc_z0, dc_z0] at h2
  have h1 := dc_rsX (post := fun u' => wpY_reset (fun v' => i_Rel (k + 5) u' v') (nI p, nI ks.length, nI t, cD, aS, aN, aK, aD, bO, aC, bW, bG, bL, bT, bN)) (nI p) (nI t) cD aE aV aS aN aK aD aX aY aZ aT aC aW ⟨13, h2⟩ 12 0 rfl
  rw [Nat.zero_mul, dc_z0, dc_z0, dc_z0] at h1
  exact ⟨13, h1⟩
theorem i_vc_value {k : Nat} {u : SX} {v : SY} (I : i_Rel k u v) (hk : k + 5 ≤ 2560) (v1 : Int32) : wpX_value (fun r => wpY_value (fun r' => r' = r ∧ i_Rel (k + 5) u v) v v1) u v1 := by
  have J := i_up I
  obtain ⟨p, t, htk, hR⟩ := I
  obtain ⟨cD, aE, aV, aS, aN, aK, aD, aX, aY, aZ, aT, aC, aW, bO, bW, bG, bL, bT, bN, ks, rfl, rfl, g1, g2, g3, g4⟩ := hR
  rcases pk_ix v1 (n := 12) (by omega) with z | z | ⟨s, hs, rfl⟩
  · exact dc_vaX0 (nI p) (nI t) cD aE aV aS aN aK aD aX aY aZ aT aC aW (Or.inl z) (dc_vaY0 (nI p) (nI ks.length) (nI t) cD aS aN aK aD bO aC bW bG bL bT bN (Or.inl z) ⟨rfl, J⟩)
  · exact dc_vaX0 (nI p) (nI t) cD aE aV aS aN aK aD aX aY aZ aT aC aW (Or.inr z) (dc_vaY0 (nI p) (nI ks.length) (nI t) cD aS aN aK aD bO aC bW bG bL bT bN (Or.inr z) ⟨rfl, J⟩)
  · exact dc_vaX1 (nI p) (nI t) cD aE aV aS aN aK aD aX aY aZ aT aC aW hs (dc_vaY1 (nI p) (nI ks.length) (nI t) cD aS aN aK aD bO aC bW bG bL bT bN hs ⟨rfl, J⟩)
theorem i_vc_time {k : Nat} {u : SX} {v : SY} (I : i_Rel k u v) (hk : k + 5 ≤ 2560) : wpX_time (fun r => wpY_time (fun r' => r' = r ∧ i_Rel (k + 5) u v) v) u := by
  have J := i_up I
  obtain ⟨p, t, htk, hR⟩ := I
  obtain ⟨cD, aE, aV, aS, aN, aK, aD, aX, aY, aZ, aT, aC, aW, bO, bW, bG, bL, bT, bN, ks, rfl, rfl, g1, g2, g3, g4⟩ := hR
  exact ⟨rfl, J⟩
theorem i_vc_pending {k : Nat} {u : SX} {v : SY} (I : i_Rel k u v) (hk : k + 5 ≤ 2560) : wpX_pending (fun r => wpY_pending (fun r' => r' = r ∧ i_Rel (k + 5) u v) v) u := by
  have J := i_up I
  obtain ⟨p, t, htk, hR⟩ := I
  have hC := dc_Rcnt hR
  obtain ⟨cD, aE, aV, aS, aN, aK, aD, aX, aY, aZ, aT, aC, aW, bO, bW, bG, bL, bT, bN, ks, rfl, rfl, g1, g2, g3, g4⟩ := hR
  unfold wpX_pending
  exact hC _ ⟨rfl, J⟩
theorem i_vc_nextTime {k : Nat} {u : SX} {v : SY} (I : i_Rel k u v) (hk : k + 5 ≤ 2560) : wpX_nextTime (fun r => wpY_nextTime (fun r' => r' = r ∧ i_Rel (k + 5) u v) v) u := by
  have J := i_up I
  obtain ⟨p, t, htk, hR⟩ := I
  have hnx := dc_next (by omega) hR
  obtain ⟨cD, aE, aV, aS, aN, aK, aD, aX, aY, aZ, aT, aC, aW, bO, bW, bG, bL, bT, bN, ks, rfl, rfl, g1, g2, g3, g4⟩ := hR
  unfold wpX_nextTime
  rcases hnx with ⟨hz, hX, hN⟩ | ⟨w, c, hw, hc0, hc, ec, hX, hN, _⟩
  · exact hX _ (br_t rfl (hN _ ⟨rfl, J⟩))
  · exact hX _ (br_f (dc_m5 (by omega)) (hN _ ⟨(nI_add t w).symm, J⟩))
theorem i_vc_events {k : Nat} {u : SX} {v : SY} (I : i_Rel k u v) (hk : k + 5 ≤ 2560) (v1 : Int32) : wpX_events (fun r => wpY_events (fun r' => r' = r ∧ i_Rel (k + 5) u v) v v1) u v1 := by
  have J := i_up I
  obtain ⟨p, t, htk, hR⟩ := I
  obtain ⟨cD, aE, aV, aS, aN, aK, aD, aX, aY, aZ, aT, aC, aW, bO, bW, bG, bL, bT, bN, ks, rfl, rfl, g1, g2, g3, g4⟩ := hR
  rcases pk_ix v1 (n := 12) (by omega) with z | z | ⟨s, hs, rfl⟩
  · exact dc_evX0 (nI p) (nI t) cD aE aV aS aN aK aD aX aY aZ aT aC aW (Or.inl z) (dc_evY0 (nI p) (nI ks.length) (nI t) cD aS aN aK aD bO aC bW bG bL bT bN (Or.inl z) ⟨rfl, J⟩)
  · exact dc_evX0 (nI p) (nI t) cD aE aV aS aN aK aD aX aY aZ aT aC aW (Or.inr z) (dc_evY0 (nI p) (nI ks.length) (nI t) cD aS aN aK aD bO aC bW bG bL bT bN (Or.inr z) ⟨rfl, J⟩)
  · exact dc_evX1 (nI p) (nI t) cD aE aV aS aN aK aD aX aY aZ aT aC aW hs (dc_evY1 (nI p) (nI ks.length) (nI t) cD aS aN aK aD bO aC bW bG bL bT bN hs ⟨rfl, J⟩)
theorem i_vc_cycles {k : Nat} {u : SX} {v : SY} (I : i_Rel k u v) (hk : k + 5 ≤ 2560) : wpX_cycles (fun r => wpY_cycles (fun r' => r' = r ∧ i_Rel (k + 5) u v) v) u := by
  have J := i_up I
  obtain ⟨p, t, htk, hR⟩ := I
  obtain ⟨cD, aE, aV, aS, aN, aK, aD, aX, aY, aZ, aT, aC, aW, bO, bW, bG, bL, bT, bN, ks, rfl, rfl, g1, g2, g3, g4⟩ := hR
  exact ⟨rfl, J⟩
theorem i_vc_coming {k : Nat} {u : SX} {v : SY} (I : i_Rel k u v) (hk : k + 5 ≤ 2560) (v1 : Int32) : wpX_coming (fun r => wpY_coming (fun r' => r' = r ∧ i_Rel (k + 5) u v) v v1) u v1 := by
  have J := i_up I
  obtain ⟨p, t, htk, hR⟩ := I
  obtain ⟨cD, aE, aV, aS, aN, aK, aD, aX, aY, aZ, aT, aC, aW, bO, bW, bG, bL, bT, bN, ks, rfl, rfl, g1, g2, g3, g4⟩ := hR
  have hl := dc_len g3
  unfold wpX_coming
  refine dc_sigX v1 (fun hb => ?_) (fun s hs es => ?_)
  · refine br_t rfl ⟨ks.length + 1, dc_cmN hl (nI p) (nI t) cD aS aN aK aD bO aC bW bG bL bT bN ⟨rfl, J⟩ ks 0 (by omega) g4 (fun j hj => dc_sigB ?_ hb)⟩
    have := g3.2.1 j hj
    omega
  · subst es
    refine br_f (by decide) ⟨11, dc_cmX hs (nI p) (nI t) cD aE aV aS aN aK aD aX aY aZ aT aC aW 10 0 rfl (fun w _ hw hne hmin => ?_) (fun h0 => ?_)⟩
    · refine ⟨ks.length + 1, dc_cmF (by omega) hs hw hl (nI p) (nI t) cD aS aN aK aD bO aC bW bG bL bT bN ⟨rfl, J⟩ ks 0 (by omega) g4 (fun j hj ej => ?_) ((g3.2.2 _ (by omega)).mp hne)⟩
      refine Classical.byContradiction (fun q => ?_)
      have h120 := g3.2.1 j hj
      have h1 := hmin (j % 10) (by omega) (by omega)
      rw [show s * 10 + j % 10 = j by omega] at h1
      exact (g3.2.2 j h120).mpr hj h1
    · refine ⟨ks.length + 1, dc_cmN hl (nI p) (nI t) cD aS aN aK aD bO aC bW bG bL bT bN ⟨rfl, J⟩ ks 0 (by omega) g4 (fun j hj q => ?_)⟩
      have h120 := g3.2.1 j hj
      rw [nI_eq (by omega) (by omega)] at q
      have h1 := h0 (j % 10) (by omega) (by omega)
      rw [show s * 10 + j % 10 = j by omega] at h1
      exact (g3.2.2 j h120).mpr hj h1
end
