/-! the component's private methods, each with a general post -/
theorem dc_10 : (10 : Int32) = nI 10 := rfl
theorem dc_ix (s d : Nat) : nI s * 10 + nI d = nI (s * 10 + d) := by rw [dc_10, pk_mul, nI_add]
theorem dc_ix0 (s : Nat) : nI s * 10 = nI (s * 10) := by rw [dc_10, pk_mul]
theorem dc_n0 : vp_nar .boolean 0 = 0 := by decide
theorem dc_n1 : vp_nar .boolean 1 = 1 := by decide
/-- the pending flags once the slots s*10+d .. s*10+9 are emptied -/
def dc_out (a : Nat → Int32) (s d : Nat) : Nat → Int32 := fun k => if s * 10 + d ≤ k ∧ k < s * 10 + 10 then 0 else a k
theorem dc_out10 (a : Nat → Int32) (s : Nat) : dc_out a s 10 = a := by
  funext k
  exact if_neg (by omega)
theorem dc_outS (a : Nat → Int32) (s d : Nat) (hd : d < 10) : dc_out (upd a (s * 10 + d) 0) s (d + 1) = dc_out a s d := by
  funext k
  unfold dc_out upd
  by_cases h1 : s * 10 + (d + 1) ≤ k ∧ k < s * 10 + 10
  · rw [if_pos h1, if_pos (by omega)]
  · rw [if_neg h1]
    by_cases h2 : k = s * 10 + d
    · rw [if_pos h2, if_pos (by omega)]
    · rw [if_neg h2, if_neg (by omega)]
theorem dc_take {post : SX → Prop} {s : Nat} (hs : s < 12) (cP nX cD : Int32) (aV aS aN aK aD aX aY aZ aT aC aW : Nat → Int32) : ∀ (e d : Nat) (aE : Nat → Int32), d + e = 10 → post (cP, nX, cD, dc_out aE s d, aV, aS, aN, aK, aD, aX, aY, aZ, aT, aC, aW) → wX_takeOutFrom_2 post (nI s) cP nX cD (e + 1) (nI d) aE aV aS aN aK aD aX aY aZ aT aC aW := by
  intro e
  induction e with
  | zero =>
    intro d aE hd hp
    obtain rfl : d = 10 := by omega
    rw [dc_out10] at hp
    exact br_t (nI_le (a := 10) (b := 10) (by omega) (by decide)) hp
  | succ e ih =>
    intro d aE hd hp
    refine br_f (nI_ge (a := d) (b := 10) (by omega) (by decide)) ⟨pk_in (s * 10 + d) 120 (by omega) (dc_ix s d), nm_r (e' := upd aE (s * 10 + d) 0) (by rw [dc_ix, nI_clamp (by omega), dc_n0]) (nm_r (nI_1 d) (ih (d + 1) _ (by omega) ?_))⟩
    rw [dc_outS _ _ _ (by omega)]
    exact hp
theorem dc_takeW {post : SX → Prop} {s d : Nat} (hs : s < 12) (hd : d < 10) (cP nX cD : Int32) (aE aV aS aN aK aD aX aY aZ aT aC aW : Nat → Int32) (hp : post (cP, nX, cD, dc_out aE s d, aV, aS, aN, aK, aD, aX, aY, aZ, aT, aC, aW)) : wpX_takeOutFrom post (cP, nX, cD, aE, aV, aS, aN, aK, aD, aX, aY, aZ, aT, aC, aW) (nI s) (nI d) := ⟨_, dc_take hs cP nX cD aV aS aN aK aD aX aY aZ aT aC aW (10 - d) d aE (by omega) hp⟩
theorem dc_putX {post : SX → Prop} {s d : Nat} {v : Int32} (hs : s < 12) (hd : d < 10) (cP nX cD : Int32) (aE aV aS aN aK aD aX aY aZ aT aC aW : Nat → Int32) (hp : post (cP, nX, cD, upd (dc_out aE s d) (s * 10 + d) 1, upd aV (s * 10 + d) v, aS, aN, aK, aD, aX, aY, aZ, aT, aC, aW)) : wpX_putDown post (cP, nX, cD, aE, aV, aS, aN, aK, aD, aX, aY, aZ, aT, aC, aW) (nI s) v (nI d) := by
  unfold wpX_putDown
  refine dc_takeW hs hd cP nX cD aE aV aS aN aK aD aX aY aZ aT aC aW ?_
  refine nm_r (dc_ix s d) ⟨pk_in (s * 10 + d) 120 (by omega), nm_r (e' := upd (dc_out aE s d) (s * 10 + d) 1) (by rw [nI_clamp (by omega), dc_n1]) ⟨pk_in (s * 10 + d) 120 (by omega), nm_r (e' := upd aV (s * 10 + d) v) (by rw [nI_clamp (by omega)]) hp⟩⟩
/-- how many of the first n flags are set -/
def dc_cnt (a : Nat → Int32) : Nat → Nat
  | 0 => 0
  | n + 1 => dc_cnt a n + if a n = 0 then 0 else 1
theorem dc_cntW {post : Int32 → Prop} (cP nX cD : Int32) (aE aV aS aN aK aD aX aY aZ aT aC aW : Nat → Int32) (hp : post (nI (dc_cnt aE 120))) : ∀ (e i : Nat), i + e = 120 → wX_countPending_4 post cP nX cD aE aV aS aN aK aD aX aY aZ aT aC aW (e + 1) (nI (dc_cnt aE i)) (nI i) := by
  intro e
  induction e with
  | zero =>
    intro i hi
    obtain rfl : i = 120 := by omega
    exact br_t (nI_le (a := 120) (b := 120) (by omega) (by decide)) hp
  | succ e ih =>
    intro i hi
    refine br_f (nI_ge (a := i) (b := 120) (by omega) (by decide)) ⟨vp_in_nI (by omega) (by omega), ?_⟩
    have hc : (nI i).toNatClampNeg = i := nI_clamp (by omega)
    have h1 := ih (i + 1) (by omega)
    by_cases z : aE i = 0
    · have e1 : dc_cnt aE (i + 1) = dc_cnt aE i := by show _ + _ = _; rw [if_pos z, Nat.add_zero]
      rw [e1] at h1
      exact br_t (by rw [hc]; exact z) (nm_r (nI_1 i) h1)
    · have e1 : dc_cnt aE (i + 1) = dc_cnt aE i + 1 := by show _ + _ = _; rw [if_neg z]
      rw [e1] at h1
      exact br_f (by rw [hc]; exact z) (nm_r (nI_1 _) (nm_r (nI_1 i) h1))
theorem dc_count {post : Int32 → Prop} (cP nX cD : Int32) (aE aV aS aN aK aD aX aY aZ aT aC aW : Nat → Int32) (hp : post (nI (dc_cnt aE 120))) : wpX_countPending post (cP, nX, cD, aE, aV, aS, aN, aK, aD, aX, aY, aZ, aT, aC, aW) := ⟨_, dc_cntW cP nX cD aE aV aS aN aK aD aX aY aZ aT aC aW hp 120 0 rfl⟩
theorem dc_un10 {post : Int32 → Prop} {J : Int32 → Prop} {d : Nat} (hd : d < 10) (cP nX cD : Int32) (aE aV aS aN aK aD aX aY aZ aT aC aW : Nat → Int32) : ∀ (e s : Nat), s + e = 12 → (∀ s', s ≤ s' → s' < 12 → aE (s' * 10 + d) ≠ 0 → post (nI d)) → ((∀ s', s ≤ s' → s' < 12 → aE (s' * 10 + d) = 0) → J (nI (d + 1))) → wX_unitsToNextChange_10 post J (nI d) cP nX cD aE aV aS aN aK aD aX aY aZ aT aC aW (e + 1) (nI s) := by
  intro e
  induction e with
  | zero =>
    intro s hs _ hj
    obtain rfl : s = 12 := by omega
    exact br_t (nI_le (a := 12) (b := 12) (by omega) (by decide)) (nm_r (nI_1 d) (hj (fun s' h1 h2 => absurd h1 (by omega))))
  | succ e ih =>
    intro s hs hp hj
    refine br_f (nI_ge (a := s) (b := 12) (by omega) (by decide)) ⟨pk_in (s * 10 + d) 120 (by omega) (dc_ix s d), ?_⟩
    have hc : (nI s * 10 + nI d).toNatClampNeg = s * 10 + d := by rw [dc_ix, nI_clamp (by omega)]
    by_cases z : aE (s * 10 + d) = 0
    · refine br_t (by rw [hc]; exact z) (nm_r (nI_1 s) (ih (s + 1) (by omega) (fun s' h1 h2 h3 => hp s' (by omega) h2 h3) (fun h => hj (fun s' h1 h2 => ?_))))
      by_cases h4 : s' = s
      · rw [h4]; exact z
      · exact h s' (by omega) h2
    · exact br_f (by rw [hc]; exact z) (hp s (by omega) (by omega) z)
theorem dc_un2 {post : Int32 → Prop} (cP nX cD : Int32) (aE aV aS aN aK aD aX aY aZ aT aC aW : Nat → Int32) : ∀ (e d : Nat), d + e = 10 → (∀ w s, d ≤ w → w < 10 → s < 12 → aE (s * 10 + w) ≠ 0 → (∀ d' s', d ≤ d' → d' < w → s' < 12 → aE (s' * 10 + d') = 0) → post (nI w)) → ((∀ d' s', d ≤ d' → d' < 10 → s' < 12 → aE (s' * 10 + d') = 0) → post (-5)) → wX_unitsToNextChange_2 post cP nX cD aE aV aS aN aK aD aX aY aZ aT aC aW (e + 1) (nI d) := by
  intro e
  induction e with
  | zero =>
    intro d hd _ hn
    obtain rfl : d = 10 := by omega
    exact br_t (nI_le (a := 10) (b := 10) (by omega) (by decide)) (hn (fun d' s' h1 h2 => absurd h1 (by omega)))
  | succ e ih =>
    intro d hd hp hn
    refine br_f (nI_ge (a := d) (b := 10) (by omega) (by decide)) ⟨13, ?_⟩
    refine dc_un10 (by omega) cP nX cD aE aV aS aN aK aD aX aY aZ aT aC aW 12 0 rfl (fun s' _ h2 h3 => hp d s' (by omega) (by omega) h2 h3 (fun d' _ h4 h5 => absurd h4 (by omega))) (fun hz => ?_)
    refine ih (d + 1) (by omega) (fun w s h1 h2 h3 h4 h5 => hp w s (by omega) h2 h3 h4 (fun d' s' g1 g2 g3 => ?_)) (fun h => hn (fun d' s' g1 g2 g3 => ?_))
    · by_cases g : d' = d
      · rw [g]; exact hz s' (by omega) g3
      · exact h5 d' s' (by omega) g2 g3
    · by_cases g : d' = d
      · rw [g]; exact hz s' (by omega) g3
      · exact h d' s' (by omega) g2 g3
theorem dc_unitsN {post : Int32 → Prop} (cP nX cD : Int32) (aE aV aS aN aK aD aX aY aZ aT aC aW : Nat → Int32) (h : ∀ k, k < 120 → aE k = 0) (hp : post (-5)) : wpX_unitsToNextChange post (cP, nX, cD, aE, aV, aS, aN, aK, aD, aX, aY, aZ, aT, aC, aW) :=
  ⟨11, dc_un2 cP nX cD aE aV aS aN aK aD aX aY aZ aT aC aW 10 0 rfl (fun w s _ h2 h3 h4 _ => absurd (h (s * 10 + w) (by omega)) h4) (fun _ => hp)⟩
theorem dc_units {post : Int32 → Prop} (cP nX cD : Int32) (aE aV aS aN aK aD aX aY aZ aT aC aW : Nat → Int32) {w s : Nat} (hw : w < 10) (hs : s < 12) (h : aE (s * 10 + w) ≠ 0) (hm : ∀ d s', d < w → s' < 12 → aE (s' * 10 + d) = 0) (hp : post (nI w)) : wpX_unitsToNextChange post (cP, nX, cD, aE, aV, aS, aN, aK, aD, aX, aY, aZ, aT, aC, aW) := by
  refine ⟨11, dc_un2 cP nX cD aE aV aS aN aK aD aX aY aZ aT aC aW 10 0 rfl (fun w' s' _ h2 h3 h4 h5 => ?_) (fun h0 => absurd (h0 w s (by omega) hw hs) h)⟩
  rcases Nat.lt_trichotomy w' w with g | g | g
  · exact absurd (hm w' s' g h3) h4
  · rw [g]; exact hp
  · exact absurd (h5 w s (by omega) g hs) h
