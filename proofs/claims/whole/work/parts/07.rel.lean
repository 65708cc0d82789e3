/-! the relation, and the delta cycle on both sides -/
def dc_T (aK aD aX aY aZ aT aW bO bW : Nat → Int32) : Prop := ∀ j, dc_kd (aK j) ∧ bW j = aW j &&& 4095 ∧ ∃ x y z r d : Nat, x < 12 ∧ y < 12 ∧ z < 12 ∧ r < 12 ∧ d < 10 ∧ aX j = nI x ∧ aY j = nI y ∧ aZ j = nI z ∧ aT j = nI r ∧ aD j = nI d ∧ bO j &&& 15 = nI x ∧ (bO j >>> ((4 : Int32) &&& 31)) &&& 15 = nI y ∧ (bO j >>> ((8 : Int32) &&& 31)) &&& 15 = nI z ∧ bO j >>> ((12 : Int32) &&& 31) = nI r
def dc_R (p t : Nat) (u : SX) (v : SY) : Prop := ∃ (cD : Int32) (aE aV aS aN aK aD aX aY aZ aT aC aW bO bW bG bL bT bN : Nat → Int32) (ks : List Nat), u = (nI p, nI t, cD, aE, aV, aS, aN, aK, aD, aX, aY, aZ, aT, aC, aW) ∧ v = (nI p, nI ks.length, nI t, cD, aS, aN, aK, aD, bO, aC, bW, bG, bL, bT, bN) ∧ p ≤ 8 ∧ dc_T aK aD aX aY aZ aT aW bO bW ∧ dc_P ks aE ∧ dc_L (dc_E true t aV bG bL bT bN) 0 ks
theorem dc_Rmk {p t : Nat} {cD : Int32} {aE aV aS aN aK aD aX aY aZ aT aC aW bO bW bG bL bT bN : Nat → Int32} {ks : List Nat} (h1 : p ≤ 8) (h2 : dc_T aK aD aX aY aZ aT aW bO bW) (h3 : dc_P ks aE) (h4 : dc_L (dc_E true t aV bG bL bT bN) 0 ks) : dc_R p t (nI p, nI t, cD, aE, aV, aS, aN, aK, aD, aX, aY, aZ, aT, aC, aW) (nI p, nI ks.length, nI t, cD, aS, aN, aK, aD, bO, aC, bW, bG, bL, bT, bN) :=
  ⟨cD, aE, aV, aS, aN, aK, aD, aX, aY, aZ, aT, aC, aW, bO, bW, bG, bL, bT, bN, ks, rfl, rfl, h1, h2, h3, h4⟩
theorem dc_Rput {p t s d : Nat} {u : SX} {v : SY} (x : Int32) (ht : t < 1000000000) (hs : s < 12) (hd : d < 10) (h : dc_R p t u v) : ∃ u' v', dc_R p t u' v' ∧ (∀ post : SX → Prop, post u' → wpX_putDown post u (nI s) x (nI d)) ∧ (∀ post : SY → Prop, post v' → wpY_put post v (nI s) x (nI d)) := by
  obtain ⟨cD, aE, aV, aS, aN, aK, aD, aX, aY, aZ, aT, aC, aW, bO, bW, bG, bL, bT, bN, ks, rfl, rfl, h1, h2, h3, h4⟩ := h
  obtain ⟨cG, cL, cT, cN, hI, hW⟩ := dc_putY x hs hd ht (nI p) cD aS aN aK aD bO aC bW bG bL bT bN (dc_len h3) h4
  exact ⟨_, _, dc_Rmk h1 h2 (dc_Pput hs hd h3) hI, fun post hp => dc_putX hs hd (nI p) (nI t) cD aE aV aS aN aK aD aX aY aZ aT aC aW hp, hW⟩
theorem dc_Rcar {p t q : Nat} {u : SX} {v : SY} (ht : t < 1000000000) (hq : q < p) (h : dc_R p t u v) : ∃ u' v', dc_R p t u' v' ∧ (∀ post : SX → Prop, post u' → wpX_carryOut post u (nI q)) ∧ (∀ post : SY → Prop, post v' → wpY_carryOut post v (nI q)) := by
  obtain ⟨cD, aE, aV, aS, aN, aK, aD, aX, aY, aZ, aT, aC, aW, bO, bW, bG, bL, bT, bN, ks, rfl, rfl, h1, h2, h3, h4⟩ := h
  obtain ⟨hk, _, x, y, z, r, d, hx, hy, hz, hr, hd, ex, ey, ez, er, ed, fx, fy, fz, fr⟩ := h2 q
  obtain ⟨cG, cL, cT, cN, hI, hW⟩ := dc_putY (dc_res (aK q) (aS x) (aS y) (aS z) (aC q)) hr hd ht (nI p) cD aS aN aK aD bO aC bW bG bL bT bN (dc_len h3) h4
  exact ⟨_, _, dc_Rmk h1 h2 (dc_Pput hr hd h3) hI, fun post hp => dc_carX (nI p) (nI t) cD aE aV aS aN aK aD aX aY aZ aT aC aW (by omega) hx hy hz hr hd ex ey ez er ed hk hp, fun post hp => dc_carY (nI p) (nI ks.length) (nI t) cD aS aN aK aD bO aC bW bG bL bT bN (by omega) hx hy hz fx fy fz fr ed hk (hW post hp)⟩
theorem dc_Rwat {p t : Nat} (ht : t < 1000000000) {ch : Int32} (hch : ∀ b, b < 32 → 12 ≤ b → bt ch b = false) : ∀ (e q : Nat) (u : SX) (v : SY), q + e = p → dc_R p t u v → ∃ u' v', dc_R p t u' v' ∧ (∀ post : SX → Prop, post u' → wX_carryOutWatchersOf_2 post ch (e + 1) (nI q) u.1 u.2.1 u.2.2.1 u.2.2.2.1 u.2.2.2.2.1 u.2.2.2.2.2.1 u.2.2.2.2.2.2.1 u.2.2.2.2.2.2.2.1 u.2.2.2.2.2.2.2.2.1 u.2.2.2.2.2.2.2.2.2.1 u.2.2.2.2.2.2.2.2.2.2.1 u.2.2.2.2.2.2.2.2.2.2.2.1 u.2.2.2.2.2.2.2.2.2.2.2.2.1 u.2.2.2.2.2.2.2.2.2.2.2.2.2.1 u.2.2.2.2.2.2.2.2.2.2.2.2.2.2) ∧ (∀ post : Int32 → SY → Prop, (∃ n76 : Nat, wY_step_76 post ch v'.1 v'.2.1 v'.2.2.1 (v'.2.2.2.1 + 1) v'.2.2.2.2.1 v'.2.2.2.2.2.1 v'.2.2.2.2.2.2.1 v'.2.2.2.2.2.2.2.1 v'.2.2.2.2.2.2.2.2.1 v'.2.2.2.2.2.2.2.2.2.1 v'.2.2.2.2.2.2.2.2.2.2.1 v'.2.2.2.2.2.2.2.2.2.2.2.1 v'.2.2.2.2.2.2.2.2.2.2.2.2.1 v'.2.2.2.2.2.2.2.2.2.2.2.2.2.1 v'.2.2.2.2.2.2.2.2.2.2.2.2.2.2 n76 0 0) → wY_step_31 post ch (e + 1) (nI q) v.1 v.2.1 v.2.2.1 v.2.2.2.1 v.2.2.2.2.1 v.2.2.2.2.2.1 v.2.2.2.2.2.2.1 v.2.2.2.2.2.2.2.1 v.2.2.2.2.2.2.2.2.1 v.2.2.2.2.2.2.2.2.2.1 v.2.2.2.2.2.2.2.2.2.2.1 v.2.2.2.2.2.2.2.2.2.2.2.1 v.2.2.2.2.2.2.2.2.2.2.2.2.1 v.2.2.2.2.2.2.2.2.2.2.2.2.2.1 v.2.2.2.2.2.2.2.2.2.2.2.2.2.2) := by
  intro e
  induction e with
  | zero =>
    intro q u v hq h
    obtain rfl : q = p := by omega
    obtain ⟨cD, aE, aV, aS, aN, aK, aD, aX, aY, aZ, aT, aC, aW, bO, bW, bG, bL, bT, bN, ks, rfl, rfl, h1, h2, h3, h4⟩ := h
    exact ⟨_, _, dc_Rmk h1 h2 h3 h4, fun post hp => br_t (nI_le (Nat.le_refl _) (by omega)) hp, fun post hp => br_t (nI_le (Nat.le_refl _) (by omega)) (nm_e hp)⟩
  | succ e ih =>
    intro q u v hq h
    have h0 := h
    obtain ⟨cD, aE, aV, aS, aN, aK, aD, aX, aY, aZ, aT, aC, aW, bO, bW, bG, bL, bT, bN, ks, rfl, rfl, h1, h2, h3, h4⟩ := h
    have hc : (nI q).toNatClampNeg = q := nI_clamp (by omega)
    have hi : vp_in (nI q) 8 := vp_in_nI (by omega) (by omega)
    have hlt : ¬ nI p ≤ nI q := nI_ge (by omega) (by omega)
    have hw : bW q &&& ch = aW q &&& ch := by rw [(h2 q).2.1]; exact dc_watch _ _ hch
    by_cases z : aW q &&& ch = 0
    · obtain ⟨u', v', hR, hX, hY⟩ := ih (q + 1) _ _ (by omega) h0
      exact ⟨u', v', hR, fun post hp => br_f hlt ⟨hi, br_t (by dsimp only; rw [hc]; exact z) (nm_r (nI_1 q) (hX post hp))⟩, fun post hp => br_f hlt ⟨hi, br_t (by dsimp only; rw [hc, hw]; exact z) (nm_r (nI_1 q) (hY post hp))⟩⟩
    · obtain ⟨u1, v1, hR1, hX1, hY1⟩ := dc_Rcar ht (show q < p by omega) h0
      obtain ⟨u', v', hR, hX, hY⟩ := ih (q + 1) _ _ (by omega) hR1
      obtain ⟨cD1, aE1, aV1, aS1, aN1, aK1, aD1, aX1, aY1, aZ1, aT1, aC1, aW1, bO1, bW1, bG1, bL1, bT1, bN1, ks1, rfl, rfl, _⟩ := hR1
      exact ⟨u', v', hR, fun post hp => br_f hlt ⟨hi, br_f (by dsimp only; rw [hc]; exact z) (hX1 _ (nm_r (nI_1 q) (hX post hp)))⟩, fun post hp => br_f hlt ⟨hi, br_f (by dsimp only; rw [hc, hw]; exact z) (hY1 _ (nm_r (nI_1 q) (hY post hp)))⟩⟩
/-! how many signals are in a set -/
def dc_bits (ch : Int32) : Nat → Nat → Int32 → Int32
  | 0, _, a => a
  | e + 1, i, a => dc_bits ch e (i + 1) (a + ((ch >>> (nI i &&& 31)) &&& 1))
theorem dc_bitX {post : Int32 → Prop} (ch : Int32) : ∀ (e i : Nat) (a : Int32), i + e = 12 → post (dc_bits ch e i a) → wX_countSignalsIn_4 post ch (e + 1) a (nI i) := by
  intro e
  induction e with
  | zero =>
    intro i a hi hp
    obtain rfl : i = 12 := by omega
    exact br_t (nI_le (a := 12) (b := 12) (by omega) (by decide)) hp
  | succ e ih =>
    intro i a hi hp
    exact br_f (nI_ge (a := i) (b := 12) (by omega) (by decide)) (nm_e (nm_r (nI_1 i) (ih (i + 1) _ (by omega) hp)))
theorem dc_bitY {post : Int32 → SY → Prop} (ch : Int32) (yP yC yN yD : Int32) (bV bE bK bD bO bC bW bG bL bT bN : Nat → Int32) : ∀ (e i : Nat) (a : Int32), i + e = 12 → post (dc_bits ch e i a) (yP, yC, yN, yD, bV, bE, bK, bD, bO, bC, bW, bG, bL, bT, bN) → wY_step_76 post ch yP yC yN yD bV bE bK bD bO bC bW bG bL bT bN (e + 1) a (nI i) := by
  intro e
  induction e with
  | zero =>
    intro i a hi hp
    obtain rfl : i = 12 := by omega
    exact br_t (nI_le (a := 12) (b := 12) (by omega) (by decide)) hp
  | succ e ih =>
    intro i a hi hp
    exact br_f (nI_ge (a := i) (b := 12) (by omega) (by decide)) (nm_e (nm_r (nI_1 i) (ih (i + 1) _ (by omega) hp)))
theorem dc_min : ∀ (ks : List Nat) (k : Nat), ∃ w, (∀ j, j ∈ k :: ks → w ≤ j % 10) ∧ ∃ j, j ∈ k :: ks ∧ j % 10 = w := by
  intro ks
  induction ks with
  | nil => intro k; exact ⟨k % 10, fun j hj => by rw [List.mem_singleton.mp hj]; exact Nat.le_refl _, k, by simp, rfl⟩
  | cons x r ih =>
    intro k
    obtain ⟨w, h1, j, h2, h3⟩ := ih x
    by_cases g : k % 10 ≤ w
    · refine ⟨k % 10, fun i hi => ?_, k, by simp, rfl⟩
      rcases List.mem_cons.mp hi with e | e
      · rw [e]; exact Nat.le_refl _
      · exact Nat.le_trans g (h1 i e)
    · refine ⟨w, fun i hi => ?_, j, List.mem_cons_of_mem _ h2, h3⟩
      rcases List.mem_cons.mp hi with e | e
      · rw [e]; omega
      · exact h1 i e
/-- the delta cycle: with changes pending, both sides do it alike -/
theorem dc_cyc {p t w : Nat} {cD : Int32} {aE aV aS aN aK aD aX aY aZ aT aC aW bO bW bG bL bT bN : Nat → Int32} {ks : List Nat} (ht : t + w < 1000000000) (hw : w < 10) (h1 : p ≤ 8) (h2 : dc_T aK aD aX aY aZ aT aW bO bW) (h3 : dc_P ks aE) (h4 : dc_L (dc_E true t aV bG bL bT bN) 0 ks) (m1 : ∀ k, k ∈ ks → w ≤ k % 10) (m2 : ∃ k, k ∈ ks ∧ k % 10 = w) : ∃ r u' v', dc_R p (t + w) u' v' ∧ (∀ post : Int32 → SX → Prop, post r u' → wpX_doCycleAfter post (nI p, nI t, cD, aE, aV, aS, aN, aK, aD, aX, aY, aZ, aT, aC, aW) (nI w)) ∧ (∀ post : Int32 → SY → Prop, post r v' → wpY_step post (nI p, nI ks.length, nI t, cD, aS, aN, aK, aD, bO, aC, bW, bG, bL, bT, bN)) := by
  have hP1 := dc_Pgo m1 h3
  have hL1 := dc_Ego m1 h3 h4
  have hlen : (ks.map (fun k => k - w)).length = ks.length := List.length_map _
  have hle := dc_len hP1
  obtain ⟨cG, cL, cT, cN, hI, hW⟩ := dc_upY ht (nI p) cD aS aN aK aD bO aC bW bG bL bT bN hle hL1
  rw [dc_upEq _ _ _ hP1] at hW
  have hR2 : dc_R p (t + w) _ _ := dc_Rmk (cD := cD) (aS := dc_tS (dc_gE aE w 120) (dc_gV aE aV w 120) aS 12) (aN := dc_tN (dc_gE aE w 120) (dc_gV aE aV w 120) aS aN 12) (aC := aC) h1 h2 (dc_Ptk hP1) hI
  obtain ⟨u3, v3, hR3, hX3, hY3⟩ := dc_Rwat ht (dc_tChi (dc_gE aE w 120) (dc_gV aE aV w 120) aS) p 0 _ _ (by omega) hR2
  obtain ⟨cD3, aE3, aV3, aS3, aN3, aK3, aD3, aX3, aY3, aZ3, aT3, aC3, aW3, bO3, bW3, bG3, bL3, bT3, bN3, ks3, rfl, rfl, g1, g2, g3, g4⟩ := hR3
  refine ⟨dc_bits (dc_tC (dc_gE aE w 120) (dc_gV aE aV w 120) aS 12) 12 0 0, _, _, dc_Rmk (cD := cD3 + 1) (aS := aS3) (aN := aN3) (aC := aC3) g1 g2 g3 g4, fun post hp => ?_, fun post hp => ?_⟩
  · unfold wpX_doCycleAfter
    refine dc_goX hw (nI p) cD aE aV aS aN aK aD aX aY aZ aT aC aW ?_
    refine dc_tkX (nI p) (nI (t + w)) cD (dc_gE aE w 120) (dc_gV aE aV w 120) aS aN aK aD aX aY aZ aT aC aW ?_
    refine ⟨p + 1, hX3 _ ?_⟩
    refine nm_e ⟨13, dc_bitX _ 12 0 0 rfl hp⟩
  · obtain ⟨k0, hk0, hkw⟩ := m2
    have hne : 0 < ks.length := List.length_pos_of_mem hk0
    have hl120 : ks.length ≤ 120 := by omega
    unfold wpY_step
    refine br_f (nI_ne0 hne (by omega)) ?_
    refine dc_anyY (b := decide (w = 0)) (nI p) (nI t) cD aS aN aK aD bO aC bW bG bL bT bN hl120 h4 (fun z => ⟨k0, hk0, by rw [hkw]; exact of_decide_eq_true z⟩) (fun z k hk => ?_) ?_
    · have a1 := m1 k hk
      have a2 := of_decide_eq_false z
      omega
    · refine dc_nxY (by omega) (nI p) (nI t) cD aS aN aK aD bO aC bW bG bL bT bN hl120 h4 m1 ⟨k0, hk0, hkw⟩ ?_
      rw [← hlen]
      refine hW _ ?_
      refine ⟨p + 1, hY3 post ⟨13, ?_⟩⟩
      exact dc_bitY _ (nI p) (nI ks3.length) (nI (t + w)) (cD3 + 1) aS3 aN3 aK3 aD3 bO3 aC3 bW3 bG3 bL3 bT3 bN3 12 0 0 rfl hp
/-- what comes next: nothing on both sides, or a delta cycle w units away -/
theorem dc_next {p t : Nat} {u : SX} {v : SY} (ht : t < 999999990) (h : dc_R p t u v) : (v.2.1 = 0 ∧ (∀ post : Int32 → Prop, post (-5) → wpX_unitsToNextChange post u) ∧ (∀ post : Int32 → Prop, post (-5) → wpY_nextTime post v)) ∨ ∃ w c : Nat, w < 10 ∧ 0 < c ∧ c ≤ 120 ∧ v.2.1 = nI c ∧ (∀ post : Int32 → Prop, post (nI w) → wpX_unitsToNextChange post u) ∧ (∀ post : Int32 → Prop, post (nI (t + w)) → wpY_nextTime post v) ∧ ∃ r u' v', dc_R p (t + w) u' v' ∧ (∀ post : Int32 → SX → Prop, post r u' → wpX_doCycleAfter post u (nI w)) ∧ (∀ post : Int32 → SY → Prop, post r v' → wpY_step post v) := by
  obtain ⟨cD, aE, aV, aS, aN, aK, aD, aX, aY, aZ, aT, aC, aW, bO, bW, bG, bL, bT, bN, ks, rfl, rfl, h1, h2, h3, h4⟩ := h
  cases ks with
  | nil =>
    refine Or.inl ⟨rfl, fun post hp => dc_unitsN (nI p) (nI t) cD aE aV aS aN aK aD aX aY aZ aT aC aW (fun k hk => ?_) hp, fun post hp => dc_nxY0 (nI p) (nI t) cD aS aN aK aD bO aC bW bG bL bT bN hp⟩
    exact Classical.byContradiction (fun q => absurd ((h3.2.2 k hk).mp q) (by simp))
  | cons k0 r0 =>
    obtain ⟨w, m1, j, hj, ej⟩ := dc_min r0 k0
    have hj120 := h3.2.1 j hj
    have hw : w < 10 := by omega
    refine Or.inr ⟨w, (k0 :: r0).length, hw, by simp, dc_len h3, rfl, fun post hp => ?_, fun post hp => ?_, dc_cyc (by omega) hw h1 h2 h3 h4 m1 ⟨j, hj, ej⟩⟩
    · refine dc_units (nI p) (nI t) cD aE aV aS aN aK aD aX aY aZ aT aC aW (w := w) (s := j / 10) hw (by omega) ?_ ?_ hp
      · rw [show j / 10 * 10 + w = j by omega]
        exact (h3.2.2 j hj120).mpr hj
      · intro d s' hd hs'
        refine Classical.byContradiction (fun q => ?_)
        have q2 := m1 _ ((h3.2.2 (s' * 10 + d) (by omega)).mp q)
        omega
    · exact dc_nxY (by omega) (nI p) (nI t) cD aS aN aK aD bO aC bW bG bL bT bN (dc_len h3) h4 m1 ⟨j, hj, ej⟩ hp
