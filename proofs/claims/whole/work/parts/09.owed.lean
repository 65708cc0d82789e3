/-! what is owed -/
def i_Rel (k : Nat) (u : SX) (v : SY) : Prop := ∃ p t : Nat, t ≤ 200 * k ∧ dc_R p t u v
theorem i_up {k : Nat} {u : SX} {v : SY} (h : i_Rel k u v) : i_Rel (k + 5) u v := by
  obtain ⟨p, t, h1, h2⟩ := h
  exact ⟨p, t, by omega, h2⟩
theorem i_vc0 : wpX_init (fun u => wpY_init (fun v => i_Rel 0 u v)) := by
  refine ⟨0, 0, by omega, dc_Rmk (ks := []) (by omega) (fun j => ?_) ⟨by simp, by simp, fun k _ => ?_⟩ True.intro⟩
  · exact ⟨Or.inl rfl, by decide, 0, 0, 0, 0, 0, by omega, by omega, by omega, by omega, by omega, rfl, rfl, rfl, rfl, rfl, by decide, by decide, by decide, by decide⟩
  · exact ⟨fun q => absurd rfl q, fun q => absurd q (by simp)⟩
theorem i_vc_process {k : Nat} {u : SX} {v : SY} (I : i_Rel k u v) (hk : k + 5 ≤ 2560) (v1 : Int32) (v2 : Int32) (v3 : Int32) (v4 : Int32) : wpX_process (fun r u' => wpY_process (fun r' v' => r' = r ∧ i_Rel (k + 5) u' v') v v1 v2 v3 v4) u v1 v2 v3 v4 := by
  have J := i_up I
  obtain ⟨p, t, htk, hR⟩ := I
  obtain ⟨cD, aE, aV, aS, aN, aK, aD, aX, aY, aZ, aT, aC, aW, bO, bW, bG, bL, bT, bN, ks, rfl, rfl, g1, g2, g3, g4⟩ := hR
  obtain ⟨a, ha, ea⟩ := pk_andE v2 (m := 15) 4 (by decide)
  obtain ⟨b, hb, eb⟩ := pk_andE (v2 >>> ((4 : Int32) &&& 31)) (m := 15) 4 (by decide)
  obtain ⟨c, hc, ec⟩ := pk_andE (v2 >>> ((8 : Int32) &&& 31)) (m := 15) 4 (by decide)
  obtain ⟨d, hd, ed⟩ := pk_andE (v2 >>> ((12 : Int32) &&& 31)) (m := 15) 4 (by decide)
  obtain ⟨kd, hkd, ek⟩ := pk_andE v1 (m := 7) 3 (by decide)
  obtain ⟨dl, hdl, el⟩ := pk_andE (v1 >>> ((4 : Int32) &&& 31)) (m := 15) 4 (by decide)
  refine dc_prX (nI t) cD aE aV aS aN aK aD aX aY aZ aT aC aW g1 ha hb hc hd hkd hdl ea eb ec ed ek el (fun c1 => ?_) (fun c1 c2 => ?_) (fun c1 c2 c3 => ?_) (fun c1 c2 c3 c4 => ?_) (fun c1 c2 c3 c4 => ?_)
  · exact dc_prY (nI ks.length) (nI t) cD aS aN aK aD bO aC bW bG bL bT bN g1 ha hb hc hd hkd hdl ea eb ec ed ek el (fun _ => ⟨rfl, J⟩) (fun d1 => absurd d1 c1) (fun d1 => absurd d1 c1) (fun d1 => absurd d1 c1) (fun d1 => absurd d1 c1)
  · exact dc_prY (nI ks.length) (nI t) cD aS aN aK aD bO aC bW bG bL bT bN g1 ha hb hc hd hkd hdl ea eb ec ed ek el (fun d1 => absurd c1 d1) (fun _ _ => ⟨rfl, J⟩) (fun _ d2 => absurd d2 (by omega)) (fun _ d2 => absurd d2 (by omega)) (fun _ d2 => absurd d2 (by omega))
  · exact dc_prY (nI ks.length) (nI t) cD aS aN aK aD bO aC bW bG bL bT bN g1 ha hb hc hd hkd hdl ea eb ec ed ek el (fun d1 => absurd c1 d1) (fun _ d2 => absurd d2 (by omega)) (fun _ _ _ => ⟨rfl, J⟩) (fun _ _ d3 => absurd d3 (by omega)) (fun _ _ d3 => absurd d3 (by omega))
  · exact dc_prY (nI ks.length) (nI t) cD aS aN aK aD bO aC bW bG bL bT bN g1 ha hb hc hd hkd hdl ea eb ec ed ek el (fun d1 => absurd c1 d1) (fun _ d2 => absurd d2 (by omega)) (fun _ _ d3 => absurd d3 (by omega)) (fun _ _ _ _ => ⟨rfl, J⟩) (fun _ _ _ d4 => absurd d4 (by omega))
  · exact dc_prY (nI ks.length) (nI t) cD aS aN aK aD bO aC bW bG bL bT bN g1 ha hb hc hd hkd hdl ea eb ec ed ek el (fun d1 => absurd c1 d1) (fun _ d2 => absurd d2 (by omega)) (fun _ _ d3 => absurd d3 (by omega)) (fun _ _ _ d4 => absurd d4 (by omega)) (fun _ _ _ _ => ⟨rfl, p + 1, t, by omega, dc_Rmk (by omega) (dc_Tnew ea eb ec ed c1 c2 c3 g2) g3 g4⟩)
theorem i_vc_drive {k : Nat} {u : SX} {v : SY} (I : i_Rel k u v) (hk : k + 5 ≤ 2560) (v1 : Int32) (v2 : Int32) (v3 : Int32) : wpX_drive (fun r u' => wpY_drive (fun r' v' => r' = r ∧ i_Rel (k + 5) u' v') v v1 v2 v3) u v1 v2 v3 := by
  have J := i_up I
  obtain ⟨p, t, htk, hR⟩ := I
  have hR0 := hR
  obtain ⟨cD, aE, aV, aS, aN, aK, aD, aX, aY, aZ, aT, aC, aW, bO, bW, bG, bL, bT, bN, ks, rfl, rfl, g1, g2, g3, g4⟩ := hR
  rcases pk_ix v1 (n := 12) (by omega) with z | z | ⟨s, hs, rfl⟩
  · exact dc_drX1 (nI p) (nI t) cD aE aV aS aN aK aD aX aY aZ aT aC aW (Or.inl z) (dc_drY1 (nI p) (nI ks.length) (nI t) cD aS aN aK aD bO aC bW bG bL bT bN (Or.inl z) ⟨rfl, J⟩)
  · exact dc_drX1 (nI p) (nI t) cD aE aV aS aN aK aD aX aY aZ aT aC aW (Or.inr z) (dc_drY1 (nI p) (nI ks.length) (nI t) cD aS aN aK aD bO aC bW bG bL bT bN (Or.inr z) ⟨rfl, J⟩)
  · rcases pk_ix v3 (n := 10) (by omega) with z | z | ⟨d, hd, rfl⟩
    · exact dc_drX2 (nI p) (nI t) cD aE aV aS aN aK aD aX aY aZ aT aC aW hs (Or.inl z) (dc_drY2 (nI p) (nI ks.length) (nI t) cD aS aN aK aD bO aC bW bG bL bT bN hs (Or.inl z) ⟨rfl, J⟩)
    · exact dc_drX2 (nI p) (nI t) cD aE aV aS aN aK aD aX aY aZ aT aC aW hs (Or.inr z) (dc_drY2 (nI p) (nI ks.length) (nI t) cD aS aN aK aD bO aC bW bG bL bT bN hs (Or.inr z) ⟨rfl, J⟩)
    · obtain ⟨u1, v1', hR1, hX1, hY1⟩ := dc_Rput v2 (by omega) hs hd hR0
      exact dc_drX3 (nI p) (nI t) cD aE aV aS aN aK aD aX aY aZ aT aC aW hs hd (hX1 _ (dc_Rcnt hR1 _ (dc_drY3 (nI p) (nI ks.length) (nI t) cD aS aN aK aD bO aC bW bG bL bT bN hs hd (hY1 _ ⟨rfl, p, t, by omega, hR1⟩))))
theorem i_vc_poke {k : Nat} {u : SX} {v : SY} (I : i_Rel k u v) (hk : k + 5 ≤ 2560) (v1 : Int32) : wpX_poke (fun r u' => wpY_poke (fun r' v' => r' = r ∧ i_Rel (k + 5) u' v') v v1) u v1 := by
  have J := i_up I
  obtain ⟨p, t, htk, hR⟩ := I
  have hR0 := hR
  obtain ⟨cD, aE, aV, aS, aN, aK, aD, aX, aY, aZ, aT, aC, aW, bO, bW, bG, bL, bT, bN, ks, rfl, rfl, g1, g2, g3, g4⟩ := hR
  unfold wpX_poke wpY_poke
  rcases pk_ix v1 (n := p) (by omega) with z | z | ⟨q, hq, rfl⟩
  · exact br_t z (br_t z ⟨rfl, J⟩)
  · have hn : ¬ v1 < 0 := Int32.not_lt.mpr (Int32.le_trans (nI_pos' (by omega)) z)
    have hn2 : ¬ v1 < nI p := Int32.not_lt.mpr z
    exact br_f hn (br_f hn2 (br_f hn (br_f hn2 ⟨rfl, J⟩)))
  · obtain ⟨u1, v1', hR1, hX1, hY1⟩ := dc_Rcar (by omega) hq hR0
    have hJ : i_Rel (k + 5) u1 v1' := ⟨p, t, by omega, hR1⟩
    have hC := dc_Rcnt hR1
    obtain ⟨cD1, aE1, aV1, aS1, aN1, aK1, aD1, aX1, aY1, aZ1, aT1, aC1, aW1, bO1, bW1, bG1, bL1, bT1, bN1, ks1, rfl, rfl, _⟩ := hR1
    have hn : ¬ nI q < 0 := nI_pos (by omega)
    have hn2 : nI q < nI p := nI_lt hq (by omega)
    exact br_f hn (br_t hn2 (hX1 _ (hC _ (br_f hn (br_t hn2 (hY1 _ ⟨rfl, hJ⟩))))))
theorem i_vc_step {k : Nat} {u : SX} {v : SY} (I : i_Rel k u v) (hk : k + 5 ≤ 2560) : wpX_step (fun r u' => wpY_step (fun r' v' => r' = r ∧ i_Rel (k + 5) u' v') v) u := by
  have J := i_up I
  obtain ⟨p, t, htk, hR⟩ := I
  have hnx := dc_next (by omega) hR
  obtain ⟨cD, aE, aV, aS, aN, aK, aD, aX, aY, aZ, aT, aC, aW, bO, bW, bG, bL, bT, bN, ks, rfl, rfl, g1, g2, g3, g4⟩ := hR
  rcases hnx with ⟨hz, hX, _⟩ | ⟨w, c, hw, hc0, hc, ec, hX, hN, r1, u1, v1, hR1, hX1, hY1⟩
  · unfold wpX_step
    refine hX _ (br_t rfl ?_)
    unfold wpY_step
    exact br_t hz ⟨rfl, J⟩
  · have hJ : i_Rel (k + 5) u1 v1 := ⟨p, t + w, by omega, hR1⟩
    obtain ⟨cD1, aE1, aV1, aS1, aN1, aK1, aD1, aX1, aY1, aZ1, aT1, aC1, aW1, bO1, bW1, bG1, bL1, bT1, bN1, ks1, rfl, rfl, _⟩ := hR1
    unfold wpX_step
    exact hX _ (br_f (dc_m5 (by omega)) (hX1 _ (hY1 _ ⟨rfl, hJ⟩)))
theorem i_vc_run {k : Nat} {u : SX} {v : SY} (I : i_Rel k u v) (hk : k + 5 ≤ 2560) (v1 : Int32) (v2 : Int32) : wpX_run (fun r u' => wpY_run (fun r' v' => r' = r ∧ i_Rel (k + 5) u' v') v v1 v2) u v1 v2 := by
  obtain ⟨p, t, htk, hR⟩ := I
  obtain ⟨U, hU, hlU⟩ := dc_lim v1 1000 (by omega)
  obtain ⟨M, hM, hlM⟩ := dc_lim v2 200 (by omega)
  obtain ⟨r, t', u', v', ht', hR', hX, hY⟩ := dc_Rrun hM M 0 U t u v (by omega) (by omega) hR
  obtain ⟨cD, aE, aV, aS, aN, aK, aD, aX, aY, aZ, aT, aC, aW, bO, bW, bG, bL, bT, bN, ks, rfl, rfl, g1, g2, g3, g4⟩ := hR
  exact dc_runX (nI p) (nI t) cD aE aV aS aN aK aD aX aY aZ aT aC aW hlU hlM ⟨M + 1, hX _ (dc_runY (nI p) (nI ks.length) cD aS aN aK aD bO aC bW bG bL bT bN hlU hlM ⟨M + 1, hY _ ⟨rfl, p, t', by omega, hR'⟩⟩)⟩
theorem i_vc_reset {k : Nat} {u : SX} {v : SY} (I : i_Rel k u v) (hk : k + 5 ≤ 2560) : wpX_reset (fun u' => wpY_reset (fun v' => i_Rel (k + 5) u' v') v) u := by
  obtain ⟨p, t, htk, hR⟩ := I
  obtain ⟨cD, aE, aV, aS, aN, aK, aD, aX, aY, aZ, aT, aC, aW, bO, bW, bG, bL, bT, bN, ks, rfl, rfl, g1, g2, g3, g4⟩ := hR
  have hJ : i_Rel (k + 5) (nI p, 0, 0, dc_z aE 120, aV, dc_z aS 12, dc_z aN 12, aK, aD, aX, aY, aZ, aT, aC, aW) (nI p, 0, 0, 0, dc_z aS 12, dc_z aN 12, aK, aD, bO, aC, bW, bG, bL, bT, bN) := by
    refine ⟨p, 0, by omega, dc_Rmk (ks := []) g1 g2 ⟨by simp, by simp, fun j hj => ?_⟩ True.intro⟩
    have e : dc_z aE 120 j = 0 := if_pos hj
    rw [e]
    exact ⟨fun q => absurd rfl q, fun q => absurd q (by simp)⟩
  have h2 := dc_rsY (post := fun v' => i_Rel (k + 5) (nI p, 0, 0, dc_z aE 120, aV, dc_z aS 12, dc_z aN 12, aK, aD, aX, aY, aZ, aT, aC, aW) v') (nI p) (nI ks.length) (nI t) cD aS aN aK aD bO aC bW bG bL bT bN hJ 12 0 rfl
  rw [dc_z0, dc_z0] at h2
  have h1 := dc_rsX (post := fun u' => wpY_reset (fun v' => i_Rel (k + 5) u' v') (nI p, nI ks.length, nI t, cD, aS, aN, aK, aD, bO, aC, bW, bG, bL, bT, bN)) (nI p) (nI t) cD aE aV aS aN aK aD aX aY aZ aT aC aW ⟨13, h2⟩ 12 0 rfl
  rw [Nat.zero_mul, dc_z0, dc_z0, dc_z0] at h1
  exact ⟨13, h1⟩
theorem i_vc_value {k : Nat} {u : SX} {v : SY} (I : i_Rel k u v) (hk : k + 5 ≤ 2560) (v1 : Int32) : wpX_value (fun r => wpY_value (fun r' => r' = r ∧ i_Rel (k + 5) u v) v v1) u v1 := by
  have J := i_up I
  obtain ⟨p, t, htk, hR⟩ := I
  obtain ⟨cD, aE, aV, aS, aN, aK, aD, aX, aY, aZ, aT, aC, aW, bO, bW, bG, bL, bT, bN, ks, rfl, rfl, g1, g2, g3, g4⟩ := hR
  rcases pk_ix v1 (n := 12) (by omega) with z | z | ⟨s, hs, rfl⟩
  · exact dc_vaX0 (nI p) (nI t) cD aE aV aS aN aK aD aX aY aZ aT aC aW (Or.inl z) (dc_vaY0 (nI p) (nI ks.length) (nI t) cD aS aN aK aD bO aC bW bG bL bT bN (Or.inl z) ⟨rfl, J⟩)
  · exact dc_vaX0 (nI p) (nI t) cD aE aV aS aN aK aD aX aY aZ aT aC aW (Or.inr z) (dc_vaY0 (nI p) (nI ks.length) (nI t) cD aS aN aK aD bO aC bW bG bL bT bN (Or.inr z) ⟨rfl, J⟩)
  · exact dc_vaX1 (nI p) (nI t) cD aE aV aS aN aK aD aX aY aZ aT aC aW hs (dc_vaY1 (nI p) (nI ks.length) (nI t) cD aS aN aK aD bO aC bW bG bL bT bN hs ⟨rfl, J⟩)
theorem i_vc_time {k : Nat} {u : SX} {v : SY} (I : i_Rel k u v) (hk : k + 5 ≤ 2560) : wpX_time (fun r => wpY_time (fun r' => r' = r ∧ i_Rel (k + 5) u v) v) u := by
  have J := i_up I
  obtain ⟨p, t, htk, hR⟩ := I
  obtain ⟨cD, aE, aV, aS, aN, aK, aD, aX, aY, aZ, aT, aC, aW, bO, bW, bG, bL, bT, bN, ks, rfl, rfl, g1, g2, g3, g4⟩ := hR
  exact ⟨rfl, J⟩
theorem i_vc_pending {k : Nat} {u : SX} {v : SY} (I : i_Rel k u v) (hk : k + 5 ≤ 2560) : wpX_pending (fun r => wpY_pending (fun r' => r' = r ∧ i_Rel (k + 5) u v) v) u := by
  have J := i_up I
  obtain ⟨p, t, htk, hR⟩ := I
  have hC := dc_Rcnt hR
  obtain ⟨cD, aE, aV, aS, aN, aK, aD, aX, aY, aZ, aT, aC, aW, bO, bW, bG, bL, bT, bN, ks, rfl, rfl, g1, g2, g3, g4⟩ := hR
  unfold wpX_pending
  exact hC _ ⟨rfl, J⟩
theorem i_vc_nextTime {k : Nat} {u : SX} {v : SY} (I : i_Rel k u v) (hk : k + 5 ≤ 2560) : wpX_nextTime (fun r => wpY_nextTime (fun r' => r' = r ∧ i_Rel (k + 5) u v) v) u := by
  have J := i_up I
  obtain ⟨p, t, htk, hR⟩ := I
  have hnx := dc_next (by omega) hR
  obtain ⟨cD, aE, aV, aS, aN, aK, aD, aX, aY, aZ, aT, aC, aW, bO, bW, bG, bL, bT, bN, ks, rfl, rfl, g1, g2, g3, g4⟩ := hR
  unfold wpX_nextTime
  rcases hnx with ⟨hz, hX, hN⟩ | ⟨w, c, hw, hc0, hc, ec, hX, hN, _⟩
  · exact hX _ (br_t rfl (hN _ ⟨rfl, J⟩))
  · exact hX _ (br_f (dc_m5 (by omega)) (hN _ ⟨(nI_add t w).symm, J⟩))
theorem i_vc_events {k : Nat} {u : SX} {v : SY} (I : i_Rel k u v) (hk : k + 5 ≤ 2560) (v1 : Int32) : wpX_events (fun r => wpY_events (fun r' => r' = r ∧ i_Rel (k + 5) u v) v v1) u v1 := by
  have J := i_up I
  obtain ⟨p, t, htk, hR⟩ := I
  obtain ⟨cD, aE, aV, aS, aN, aK, aD, aX, aY, aZ, aT, aC, aW, bO, bW, bG, bL, bT, bN, ks, rfl, rfl, g1, g2, g3, g4⟩ := hR
  rcases pk_ix v1 (n := 12) (by omega) with z | z | ⟨s, hs, rfl⟩
  · exact dc_evX0 (nI p) (nI t) cD aE aV aS aN aK aD aX aY aZ aT aC aW (Or.inl z) (dc_evY0 (nI p) (nI ks.length) (nI t) cD aS aN aK aD bO aC bW bG bL bT bN (Or.inl z) ⟨rfl, J⟩)
  · exact dc_evX0 (nI p) (nI t) cD aE aV aS aN aK aD aX aY aZ aT aC aW (Or.inr z) (dc_evY0 (nI p) (nI ks.length) (nI t) cD aS aN aK aD bO aC bW bG bL bT bN (Or.inr z) ⟨rfl, J⟩)
  · exact dc_evX1 (nI p) (nI t) cD aE aV aS aN aK aD aX aY aZ aT aC aW hs (dc_evY1 (nI p) (nI ks.length) (nI t) cD aS aN aK aD bO aC bW bG bL bT bN hs ⟨rfl, J⟩)
theorem i_vc_cycles {k : Nat} {u : SX} {v : SY} (I : i_Rel k u v) (hk : k + 5 ≤ 2560) : wpX_cycles (fun r => wpY_cycles (fun r' => r' = r ∧ i_Rel (k + 5) u v) v) u := by
  have J := i_up I
  obtain ⟨p, t, htk, hR⟩ := I
  obtain ⟨cD, aE, aV, aS, aN, aK, aD, aX, aY, aZ, aT, aC, aW, bO, bW, bG, bL, bT, bN, ks, rfl, rfl, g1, g2, g3, g4⟩ := hR
  exact ⟨rfl, J⟩
theorem i_vc_coming {k : Nat} {u : SX} {v : SY} (I : i_Rel k u v) (hk : k + 5 ≤ 2560) (v1 : Int32) : wpX_coming (fun r => wpY_coming (fun r' => r' = r ∧ i_Rel (k + 5) u v) v v1) u v1 := by
  have J := i_up I
  obtain ⟨p, t, htk, hR⟩ := I
  obtain ⟨cD, aE, aV, aS, aN, aK, aD, aX, aY, aZ, aT, aC, aW, bO, bW, bG, bL, bT, bN, ks, rfl, rfl, g1, g2, g3, g4⟩ := hR
  have hl := dc_len g3
  unfold wpX_coming
  refine dc_sigX v1 (fun hb => ?_) (fun s hs es => ?_)
  · refine br_t rfl ⟨ks.length + 1, dc_cmN hl (nI p) (nI t) cD aS aN aK aD bO aC bW bG bL bT bN ⟨rfl, J⟩ ks 0 (by omega) g4 (fun j hj => dc_sigB ?_ hb)⟩
    have := g3.2.1 j hj
    omega
  · subst es
    refine br_f (by decide) ⟨11, dc_cmX hs (nI p) (nI t) cD aE aV aS aN aK aD aX aY aZ aT aC aW 10 0 rfl (fun w _ hw hne hmin => ?_) (fun h0 => ?_)⟩
    · refine ⟨ks.length + 1, dc_cmF (by omega) hs hw hl (nI p) (nI t) cD aS aN aK aD bO aC bW bG bL bT bN ⟨rfl, J⟩ ks 0 (by omega) g4 (fun j hj ej => ?_) ((g3.2.2 _ (by omega)).mp hne)⟩
      refine Classical.byContradiction (fun q => ?_)
      have h120 := g3.2.1 j hj
      have h1 := hmin (j % 10) (by omega) (by omega)
      rw [show s * 10 + j % 10 = j by omega] at h1
      exact (g3.2.2 j h120).mpr hj h1
    · refine ⟨ks.length + 1, dc_cmN hl (nI p) (nI t) cD aS aN aK aD bO aC bW bG bL bT bN ⟨rfl, J⟩ ks 0 (by omega) g4 (fun j hj q => ?_)⟩
      have h120 := g3.2.1 j hj
      rw [nI_eq (by omega) (by omega)] at q
      have h1 := h0 (j % 10) (by omega) (by omega)
      rw [show s * 10 + j % 10 = j by omega] at h1
      exact (g3.2.2 j h120).mpr hj h1
