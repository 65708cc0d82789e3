/-! the calls -/
theorem dc_sigX {post : Int32 → Prop} (x : Int32) (h0 : (x < 0 ∨ nI 12 ≤ x) → post 0) (h1 : ∀ j : Nat, j < 12 → x = nI j → post 1) : wpX_isSignal post x := by
  rcases pk_ix x (n := 12) (by omega) with z | z | ⟨j, hj, e⟩
  · exact br_t z (h0 (Or.inl z))
  · have hn : ¬ x < 0 := Int32.not_lt.mpr (Int32.le_trans (show (0 : Int32) ≤ nI 12 by decide) z)
    exact br_f hn (br_t z (h0 (Or.inr z)))
  · have h := h1 j hj e
    subst e
    exact br_f (nI_pos (by omega)) (br_f (nI_ge (a := j) (b := 12) hj (by decide)) h)
theorem dc_sigY {post : Int32 → Prop} (yP yC yN yD : Int32) (bV bE bK bD bO bC bW bG bL bT bN : Nat → Int32) (x : Int32) (h0 : (x < 0 ∨ nI 12 ≤ x) → post 0) (h1 : ∀ j : Nat, j < 12 → x = nI j → post 1) : wpY_isSignal post (yP, yC, yN, yD, bV, bE, bK, bD, bO, bC, bW, bG, bL, bT, bN) x := dc_sigX x h0 h1
theorem dc_sigB {j : Nat} {x : Int32} (hj : j < 12) (h : x < 0 ∨ nI 12 ≤ x) : nI j ≠ x := by
  intro e
  subst e
  rcases h with z | z
  · exact absurd z (nI_pos (by omega))
  · exact absurd z (nI_ge hj (by decide))
theorem dc_Rcnt {p t : Nat} {u : SX} {v : SY} (h : dc_R p t u v) : ∀ post : Int32 → Prop, post v.2.1 → wpX_countPending post u := by
  obtain ⟨cD, aE, aV, aS, aN, aK, aD, aX, aY, aZ, aT, aC, aW, bO, bW, bG, bL, bT, bN, ks, rfl, rfl, h1, h2, h3, h4⟩ := h
  intro post hp
  refine dc_count (nI p) (nI t) cD aE aV aS aN aK aD aX aY aZ aT aC aW ?_
  rw [dc_cntP h3]
  exact hp
/-! drive, value, events, coming: their branches -/
theorem dc_drX1 {post : Int32 → SX → Prop} {x v d : Int32} (cP nX cD : Int32) (aE aV aS aN aK aD aX aY aZ aT aC aW : Nat → Int32) (hb : x < 0 ∨ nI 12 ≤ x) (h : post (-1) (cP, nX, cD, aE, aV, aS, aN, aK, aD, aX, aY, aZ, aT, aC, aW)) : wpX_drive post (cP, nX, cD, aE, aV, aS, aN, aK, aD, aX, aY, aZ, aT, aC, aW) x v d := by
  unfold wpX_drive
  exact dc_sigX x (fun _ => br_t rfl h) (fun s hs es => absurd es.symm (dc_sigB hs hb))
theorem dc_drY1 {post : Int32 → SY → Prop} {x v d : Int32} (yP yC yN yD : Int32) (bV bE bK bD bO bC bW bG bL bT bN : Nat → Int32) (hb : x < 0 ∨ nI 12 ≤ x) (h : post (-1) (yP, yC, yN, yD, bV, bE, bK, bD, bO, bC, bW, bG, bL, bT, bN)) : wpY_drive post (yP, yC, yN, yD, bV, bE, bK, bD, bO, bC, bW, bG, bL, bT, bN) x v d := by
  unfold wpY_drive
  exact dc_sigY yP yC yN yD bV bE bK bD bO bC bW bG bL bT bN x (fun _ => br_t rfl h) (fun s hs es => absurd es.symm (dc_sigB hs hb))
theorem dc_no10 {x : Int32} (h : ¬ x < 0) (hb : x < 0 ∨ nI 10 ≤ x) : ¬ x < 10 ∧ ¬ x ≤ 9 := by
  have z := hb.resolve_left h
  exact ⟨Int32.not_lt.mpr z, Int32.not_le.mpr (Int32.lt_of_lt_of_le (show (9 : Int32) < nI 10 by decide) z)⟩
theorem dc_drX2 {post : Int32 → SX → Prop} {s : Nat} {v x : Int32} (cP nX cD : Int32) (aE aV aS aN aK aD aX aY aZ aT aC aW : Nat → Int32) (hs : s < 12) (hb : x < 0 ∨ nI 10 ≤ x) (h : post (-3) (cP, nX, cD, aE, aV, aS, aN, aK, aD, aX, aY, aZ, aT, aC, aW)) : wpX_drive post (cP, nX, cD, aE, aV, aS, aN, aK, aD, aX, aY, aZ, aT, aC, aW) (nI s) v x := by
  unfold wpX_drive
  refine dc_sigX _ (fun q => absurd rfl (dc_sigB hs q)) (fun _ _ _ => br_f (by decide) ?_)
  exact br_c (fun _ => h) (fun q => br_f (dc_no10 q hb).1 h)
theorem dc_drY2 {post : Int32 → SY → Prop} {s : Nat} {v x : Int32} (yP yC yN yD : Int32) (bV bE bK bD bO bC bW bG bL bT bN : Nat → Int32) (hs : s < 12) (hb : x < 0 ∨ nI 10 ≤ x) (h : post (-3) (yP, yC, yN, yD, bV, bE, bK, bD, bO, bC, bW, bG, bL, bT, bN)) : wpY_drive post (yP, yC, yN, yD, bV, bE, bK, bD, bO, bC, bW, bG, bL, bT, bN) (nI s) v x := by
  unfold wpY_drive
  refine dc_sigY yP yC yN yD bV bE bK bD bO bC bW bG bL bT bN _ (fun q => absurd rfl (dc_sigB hs q)) (fun _ _ _ => br_f (by decide) ?_)
  exact br_c (fun _ => h) (fun q => br_f (dc_no10 q hb).2 h)
theorem dc_drX3 {post : Int32 → SX → Prop} {s d : Nat} {v : Int32} (cP nX cD : Int32) (aE aV aS aN aK aD aX aY aZ aT aC aW : Nat → Int32) (hs : s < 12) (hd : d < 10) (h : wpX_putDown (fun u => wpX_countPending (fun r => post r u) u) (cP, nX, cD, aE, aV, aS, aN, aK, aD, aX, aY, aZ, aT, aC, aW) (nI s) v (nI d)) : wpX_drive post (cP, nX, cD, aE, aV, aS, aN, aK, aD, aX, aY, aZ, aT, aC, aW) (nI s) v (nI d) := by
  unfold wpX_drive
  exact dc_sigX _ (fun q => absurd rfl (dc_sigB hs q)) (fun _ _ _ => br_f (by decide) (br_f (nI_pos (by omega)) (br_t (nI_lt (b := 10) hd (by decide)) h)))
theorem dc_drY3 {post : Int32 → SY → Prop} {s d : Nat} {v : Int32} (yP yC yN yD : Int32) (bV bE bK bD bO bC bW bG bL bT bN : Nat → Int32) (hs : s < 12) (hd : d < 10) (h : wpY_put (fun u => post u.2.1 u) (yP, yC, yN, yD, bV, bE, bK, bD, bO, bC, bW, bG, bL, bT, bN) (nI s) v (nI d)) : wpY_drive post (yP, yC, yN, yD, bV, bE, bK, bD, bO, bC, bW, bG, bL, bT, bN) (nI s) v (nI d) := by
  unfold wpY_drive
  exact dc_sigY yP yC yN yD bV bE bK bD bO bC bW bG bL bT bN _ (fun q => absurd rfl (dc_sigB hs q)) (fun _ _ _ => br_f (by decide) (br_f (nI_pos (by omega)) (br_t (nI_le (b := 9) (by omega) (by decide)) h)))
theorem dc_vaX0 {post : Int32 → Prop} {x : Int32} (cP nX cD : Int32) (aE aV aS aN aK aD aX aY aZ aT aC aW : Nat → Int32) (hb : x < 0 ∨ nI 12 ≤ x) (h : post 0) : wpX_value post (cP, nX, cD, aE, aV, aS, aN, aK, aD, aX, aY, aZ, aT, aC, aW) x := by
  unfold wpX_value
  exact dc_sigX x (fun _ => br_t rfl h) (fun s hs es => absurd es.symm (dc_sigB hs hb))
theorem dc_vaY0 {post : Int32 → Prop} {x : Int32} (yP yC yN yD : Int32) (bV bE bK bD bO bC bW bG bL bT bN : Nat → Int32) (hb : x < 0 ∨ nI 12 ≤ x) (h : post 0) : wpY_value post (yP, yC, yN, yD, bV, bE, bK, bD, bO, bC, bW, bG, bL, bT, bN) x := by
  unfold wpY_value
  exact dc_sigY yP yC yN yD bV bE bK bD bO bC bW bG bL bT bN x (fun _ => br_t rfl h) (fun s hs es => absurd es.symm (dc_sigB hs hb))
theorem dc_vaX1 {post : Int32 → Prop} {s : Nat} (cP nX cD : Int32) (aE aV aS aN aK aD aX aY aZ aT aC aW : Nat → Int32) (hs : s < 12) (h : post (aS (nI s).toNatClampNeg)) : wpX_value post (cP, nX, cD, aE, aV, aS, aN, aK, aD, aX, aY, aZ, aT, aC, aW) (nI s) := by
  unfold wpX_value
  exact dc_sigX _ (fun q => absurd rfl (dc_sigB hs q)) (fun _ _ _ => br_f (by decide) ⟨vp_in_nI hs (by omega), h⟩)
theorem dc_vaY1 {post : Int32 → Prop} {s : Nat} (yP yC yN yD : Int32) (bV bE bK bD bO bC bW bG bL bT bN : Nat → Int32) (hs : s < 12) (h : post (bV (nI s).toNatClampNeg)) : wpY_value post (yP, yC, yN, yD, bV, bE, bK, bD, bO, bC, bW, bG, bL, bT, bN) (nI s) := by
  unfold wpY_value
  exact dc_sigY yP yC yN yD bV bE bK bD bO bC bW bG bL bT bN _ (fun q => absurd rfl (dc_sigB hs q)) (fun _ _ _ => br_f (by decide) ⟨vp_in_nI hs (by omega), h⟩)
theorem dc_evX0 {post : Int32 → Prop} {x : Int32} (cP nX cD : Int32) (aE aV aS aN aK aD aX aY aZ aT aC aW : Nat → Int32) (hb : x < 0 ∨ nI 12 ≤ x) (h : post 0) : wpX_events post (cP, nX, cD, aE, aV, aS, aN, aK, aD, aX, aY, aZ, aT, aC, aW) x := by
  unfold wpX_events
  exact dc_sigX x (fun _ => br_t rfl h) (fun s hs es => absurd es.symm (dc_sigB hs hb))
theorem dc_evY0 {post : Int32 → Prop} {x : Int32} (yP yC yN yD : Int32) (bV bE bK bD bO bC bW bG bL bT bN : Nat → Int32) (hb : x < 0 ∨ nI 12 ≤ x) (h : post 0) : wpY_events post (yP, yC, yN, yD, bV, bE, bK, bD, bO, bC, bW, bG, bL, bT, bN) x := by
  unfold wpY_events
  exact dc_sigY yP yC yN yD bV bE bK bD bO bC bW bG bL bT bN x (fun _ => br_t rfl h) (fun s hs es => absurd es.symm (dc_sigB hs hb))
theorem dc_evX1 {post : Int32 → Prop} {s : Nat} (cP nX cD : Int32) (aE aV aS aN aK aD aX aY aZ aT aC aW : Nat → Int32) (hs : s < 12) (h : post (aN (nI s).toNatClampNeg)) : wpX_events post (cP, nX, cD, aE, aV, aS, aN, aK, aD, aX, aY, aZ, aT, aC, aW) (nI s) := by
  unfold wpX_events
  exact dc_sigX _ (fun q => absurd rfl (dc_sigB hs q)) (fun _ _ _ => br_f (by decide) ⟨vp_in_nI hs (by omega), h⟩)
theorem dc_evY1 {post : Int32 → Prop} {s : Nat} (yP yC yN yD : Int32) (bV bE bK bD bO bC bW bG bL bT bN : Nat → Int32) (hs : s < 12) (h : post (bE (nI s).toNatClampNeg)) : wpY_events post (yP, yC, yN, yD, bV, bE, bK, bD, bO, bC, bW, bG, bL, bT, bN) (nI s) := by
  unfold wpY_events
  exact dc_sigY yP yC yN yD bV bE bK bD bO bC bW bG bL bT bN _ (fun q => absurd rfl (dc_sigB hs q)) (fun _ _ _ => br_f (by decide) ⟨vp_in_nI hs (by omega), h⟩)
/-! process -/
theorem dc_prX {post : Int32 → SX → Prop} {p a b c d kd dl : Nat} {v1 v2 v3 v4 : Int32} (nX cD : Int32) (aE aV aS aN aK aD aX aY aZ aT aC aW : Nat → Int32) (hp : p ≤ 8) (ha : a < 16) (hb : b < 16) (hc : c < 16) (hd : d < 16) (hk : kd < 8) (hl : dl < 16) (ea : v2 &&& 15 = nI a) (eb : (v2 >>> ((4 : Int32) &&& 31)) &&& 15 = nI b) (ec : (v2 >>> ((8 : Int32) &&& 31)) &&& 15 = nI c) (ed : (v2 >>> ((12 : Int32) &&& 31)) &&& 15 = nI d) (ek : v1 &&& 7 = nI kd) (el : (v1 >>> ((4 : Int32) &&& 31)) &&& 15 = nI dl)
    (h1 : ¬ (a < 12 ∧ b < 12 ∧ c < 12 ∧ d < 12) → post (-1) (nI p, nX, cD, aE, aV, aS, aN, aK, aD, aX, aY, aZ, aT, aC, aW)) (h2 : (a < 12 ∧ b < 12 ∧ c < 12 ∧ d < 12) → 5 < kd → post (-2) (nI p, nX, cD, aE, aV, aS, aN, aK, aD, aX, aY, aZ, aT, aC, aW)) (h3 : (a < 12 ∧ b < 12 ∧ c < 12 ∧ d < 12) → kd ≤ 5 → 10 ≤ dl → post (-3) (nI p, nX, cD, aE, aV, aS, aN, aK, aD, aX, aY, aZ, aT, aC, aW)) (h4 : (a < 12 ∧ b < 12 ∧ c < 12 ∧ d < 12) → kd ≤ 5 → dl < 10 → 8 ≤ p → post (-4) (nI p, nX, cD, aE, aV, aS, aN, aK, aD, aX, aY, aZ, aT, aC, aW)) (h5 : (a < 12 ∧ b < 12 ∧ c < 12 ∧ d < 12) → kd ≤ 5 → dl < 10 → p < 8 → post (nI p) (nI (p + 1), nX, cD, aE, aV, aS, aN, upd aK p (nI kd), upd aD p (nI dl), upd aX p (nI a), upd aY p (nI b), upd aZ p (nI c), upd aT p (nI d), upd aC p v3, upd aW p v4)) : wpX_process post (nI p, nX, cD, aE, aV, aS, aN, aK, aD, aX, aY, aZ, aT, aC, aW) v1 v2 v3 v4 := by
  unfold wpX_process
  refine nm_r ea (nm_r eb (nm_r ec (nm_r ed (nm_r ek (nm_r el ?_)))))
  refine pk_le 12 a (fun z => h1 (by omega)) (fun za => pk_le 12 b (fun z => h1 (by omega)) (fun zb => pk_le 12 c (fun z => h1 (by omega)) (fun zc => pk_lt d 12 (fun zd => pk_le kd 5 (fun zk => pk_lt dl 10 (fun zl => pk_lt p 8 (fun zp => ?_) (fun z => h4 ⟨za, zb, zc, zd⟩ zk zl z)) (fun z => h3 ⟨za, zb, zc, zd⟩ zk z)) (fun z => h2 ⟨za, zb, zc, zd⟩ z)) (fun z => h1 (by omega)))))
  have hi : vp_in (nI p) 8 := vp_in_nI zp (by omega)
  have hcl : (nI p).toNatClampNeg = p := nI_clamp (by omega)
  have h := h5 ⟨za, zb, zc, zd⟩ zk zl zp
  exact ⟨hi, nm_r (e' := upd aK p (nI kd)) (by rw [hcl]) ⟨hi, nm_r (e' := upd aD p (nI dl)) (by rw [hcl]) ⟨hi, nm_r (e' := upd aX p (nI a)) (by rw [hcl]) ⟨hi, nm_r (e' := upd aY p (nI b)) (by rw [hcl]) ⟨hi, nm_r (e' := upd aZ p (nI c)) (by rw [hcl]) ⟨hi, nm_r (e' := upd aT p (nI d)) (by rw [hcl]) ⟨hi, nm_r (e' := upd aC p v3) (by rw [hcl]) ⟨hi, nm_r (e' := upd aW p v4) (by rw [hcl]) (nm_r (nI_1 p) h)⟩⟩⟩⟩⟩⟩⟩⟩
theorem dc_prY {post : Int32 → SY → Prop} {p a b c d kd dl : Nat} {v1 v2 v3 v4 : Int32} (yC yN yD : Int32) (bV bE bK bD bO bC bW bG bL bT bN : Nat → Int32) (hp : p ≤ 8) (ha : a < 16) (hb : b < 16) (hc : c < 16) (hd : d < 16) (hk : kd < 8) (hl : dl < 16) (ea : v2 &&& 15 = nI a) (eb : (v2 >>> ((4 : Int32) &&& 31)) &&& 15 = nI b) (ec : (v2 >>> ((8 : Int32) &&& 31)) &&& 15 = nI c) (ed : (v2 >>> ((12 : Int32) &&& 31)) &&& 15 = nI d) (ek : v1 &&& 7 = nI kd) (el : (v1 >>> ((4 : Int32) &&& 31)) &&& 15 = nI dl)
    (h1 : ¬ (a < 12 ∧ b < 12 ∧ c < 12 ∧ d < 12) → post (-1) (nI p, yC, yN, yD, bV, bE, bK, bD, bO, bC, bW, bG, bL, bT, bN)) (h2 : (a < 12 ∧ b < 12 ∧ c < 12 ∧ d < 12) → 5 < kd → post (-2) (nI p, yC, yN, yD, bV, bE, bK, bD, bO, bC, bW, bG, bL, bT, bN)) (h3 : (a < 12 ∧ b < 12 ∧ c < 12 ∧ d < 12) → kd ≤ 5 → 10 ≤ dl → post (-3) (nI p, yC, yN, yD, bV, bE, bK, bD, bO, bC, bW, bG, bL, bT, bN)) (h4 : (a < 12 ∧ b < 12 ∧ c < 12 ∧ d < 12) → kd ≤ 5 → dl < 10 → 8 ≤ p → post (-4) (nI p, yC, yN, yD, bV, bE, bK, bD, bO, bC, bW, bG, bL, bT, bN)) (h5 : (a < 12 ∧ b < 12 ∧ c < 12 ∧ d < 12) → kd ≤ 5 → dl < 10 → p < 8 → post (nI p) (nI (p + 1), yC, yN, yD, bV, bE, upd bK p (nI kd), upd bD p (nI dl), upd bO p (v2 &&& 65535), upd bC p v3, upd bW p (v4 &&& 4095), bG, bL, bT, bN)) : wpY_process post (nI p, yC, yN, yD, bV, bE, bK, bD, bO, bC, bW, bG, bL, bT, bN) v1 v2 v3 v4 := by
  have e0 : (v2 >>> ((4 * (0 : Int32)) &&& 31)) &&& 15 = nI a := by
    rw [← ea]
    congr 1
    apply b_ext
    intro i hi
    have := b_sshr 0 (by omega) v2 hi
    rw [if_pos (by omega), Nat.zero_add] at this
    exact this
  have e1 : (v2 >>> ((4 * (1 : Int32)) &&& 31)) &&& 15 = nI b := by rw [show (4 * (1 : Int32)) &&& 31 = (4 : Int32) &&& 31 by decide]; exact eb
  have e2 : (v2 >>> ((4 * (2 : Int32)) &&& 31)) &&& 15 = nI c := by rw [show (4 * (2 : Int32)) &&& 31 = (8 : Int32) &&& 31 by decide]; exact ec
  have e3 : (v2 >>> ((4 * (3 : Int32)) &&& 31)) &&& 15 = nI d := by rw [show (4 * (3 : Int32)) &&& 31 = (12 : Int32) &&& 31 by decide]; exact ed
  refine ⟨5, ?_⟩
  refine br_f (by decide) (pk_le a 11 (fun za => nm_r (e' := 1) (by decide) ?_) (fun z => h1 (by omega)) e0)
  refine br_f (by decide) (pk_le b 11 (fun zb => nm_r (e' := 2) (by decide) ?_) (fun z => h1 (by omega)) e1)
  refine br_f (by decide) (pk_le c 11 (fun zc => nm_r (e' := 3) (by decide) ?_) (fun z => h1 (by omega)) e2)
  refine br_f (by decide) (pk_le d 11 (fun zd => nm_r (e' := 4) (by decide) ?_) (fun z => h1 (by omega)) e3)
  have G : a < 12 ∧ b < 12 ∧ c < 12 ∧ d < 12 := by omega
  refine br_t (by decide) (pk_le kd 5 (fun zk => pk_le dl 9 (fun zl => pk_eq p 8 (fun z => h4 G zk (by omega) (by omega)) (fun z => ?_)) (fun z => h3 G zk (by omega)) el) (fun z => h2 G z) ek)
  have hi : vp_in (nI p) 8 := vp_in_nI (by omega) (by omega)
  have hcl : (nI p).toNatClampNeg = p := nI_clamp (by omega)
  have h := h5 G zk (by omega) (by omega)
  refine ⟨hi, nm_r (e' := upd bK p (nI kd)) (by rw [hcl, ek]) ⟨hi, nm_r (e' := upd bD p (nI dl)) (by rw [hcl, el]) ⟨hi, nm_r (e' := upd bO p (v2 &&& 65535)) (by rw [hcl]) ⟨hi, nm_r (e' := upd bC p v3) (by rw [hcl]) ⟨hi, nm_r (e' := upd bW p (v4 &&& 4095)) (by rw [hcl]) (nm_r (nI_1 p) ?_)⟩⟩⟩⟩⟩
  rw [nI_pred]
  exact h
theorem dc_kdN {kd : Nat} (h : kd ≤ 5) : dc_kd (nI kd) := by
  unfold dc_kd
  rcases (show kd = 0 ∨ kd = 1 ∨ kd = 2 ∨ kd = 3 ∨ kd = 4 ∨ kd = 5 by omega) with e | e | e | e | e | e <;> subst e <;> decide
theorem dc_Tnew {p a b c d kd dl : Nat} {v2 v4 : Int32} {aK aD aX aY aZ aT aW bO bW : Nat → Int32} (ea : v2 &&& 15 = nI a) (eb : (v2 >>> ((4 : Int32) &&& 31)) &&& 15 = nI b) (ec : (v2 >>> ((8 : Int32) &&& 31)) &&& 15 = nI c) (ed : (v2 >>> ((12 : Int32) &&& 31)) &&& 15 = nI d) (G : a < 12 ∧ b < 12 ∧ c < 12 ∧ d < 12) (hk : kd ≤ 5) (hl : dl < 10) (h : dc_T aK aD aX aY aZ aT aW bO bW) : dc_T (upd aK p (nI kd)) (upd aD p (nI dl)) (upd aX p (nI a)) (upd aY p (nI b)) (upd aZ p (nI c)) (upd aT p (nI d)) (upd aW p v4) (upd bO p (v2 &&& 65535)) (upd bW p (v4 &&& 4095)) := by
  intro j
  by_cases e : j = p
  · subst e
    simp only [pk_us]
    exact ⟨dc_kdN hk, by trivial, a, b, c, d, dl, G.1, G.2.1, G.2.2.1, G.2.2.2, hl, by trivial, by trivial, by trivial, by trivial, by trivial, by rw [dc_op0, ea], by rw [← eb]; exact dc_opn v2 4 (by omega), by rw [← ec]; exact dc_opn v2 8 (by omega), by rw [← ed]; exact dc_op12 v2⟩
  · simp only [pk_un e]
    exact h j
/-! run -/
theorem dc_Rrun {p M : Nat} (hM : M ≤ 200) : ∀ (e dn U t : Nat) (u : SX) (v : SY), dn + e = M → t + U < 999999000 → dc_R p t u v → ∃ r t' u' v', t' ≤ t + U ∧ dc_R p t' u' v' ∧ (∀ post : Int32 → SX → Prop, post r u' → wX_run_20 post (nI M) (e + 1) (nI U) (nI dn) u.1 u.2.1 u.2.2.1 u.2.2.2.1 u.2.2.2.2.1 u.2.2.2.2.2.1 u.2.2.2.2.2.2.1 u.2.2.2.2.2.2.2.1 u.2.2.2.2.2.2.2.2.1 u.2.2.2.2.2.2.2.2.2.1 u.2.2.2.2.2.2.2.2.2.2.1 u.2.2.2.2.2.2.2.2.2.2.2.1 u.2.2.2.2.2.2.2.2.2.2.2.2.1 u.2.2.2.2.2.2.2.2.2.2.2.2.2.1 u.2.2.2.2.2.2.2.2.2.2.2.2.2.2) ∧ (∀ post : Int32 → SY → Prop, post r v' → wY_run_55 post (nI (t + U)) (nI M) (e + 1) (nI dn) v.1 v.2.1 v.2.2.1 v.2.2.2.1 v.2.2.2.2.1 v.2.2.2.2.2.1 v.2.2.2.2.2.2.1 v.2.2.2.2.2.2.2.1 v.2.2.2.2.2.2.2.2.1 v.2.2.2.2.2.2.2.2.2.1 v.2.2.2.2.2.2.2.2.2.2.1 v.2.2.2.2.2.2.2.2.2.2.2.1 v.2.2.2.2.2.2.2.2.2.2.2.2.1 v.2.2.2.2.2.2.2.2.2.2.2.2.2.1 v.2.2.2.2.2.2.2.2.2.2.2.2.2.2) := by
  intro e
  induction e with
  | zero =>
    intro dn U t u v hdn hU h
    obtain rfl : dn = M := by omega
    have h0 := h
    obtain ⟨cD, aE, aV, aS, aN, aK, aD, aX, aY, aZ, aT, aC, aW, bO, bW, bG, bL, bT, bN, ks, rfl, rfl, _⟩ := h
    exact ⟨nI dn, t, _, _, by omega, h0, fun post hp => br_t (nI_le (Nat.le_refl _) (by omega)) hp, fun post hp => br_t (nI_le (Nat.le_refl _) (by omega)) hp⟩
  | succ e ih =>
    intro dn U t u v hdn hU h
    have hlt : ¬ nI M ≤ nI dn := nI_ge (by omega) (by omega)
    have hnx := dc_next (by omega) h
    have h0 := h
    obtain ⟨cD, aE, aV, aS, aN, aK, aD, aX, aY, aZ, aT, aC, aW, bO, bW, bG, bL, bT, bN, ks, rfl, rfl, _⟩ := h
    rcases hnx with ⟨hz, hX, _⟩ | ⟨w, c, hw, hc0, hc, ec, hX, hN, r1, u1, v1, hR1, hX1, hY1⟩
    · exact ⟨nI dn, t, _, _, by omega, h0, fun post hp => br_f hlt (hX _ (br_t rfl hp)), fun post hp => br_f hlt (br_t (by rw [hz]; decide) hp)⟩
    · have hcn : ¬ nI c ≤ 0 := nI_nle hc0 (by omega)
      have hw5 : ¬ nI w = -5 := dc_m5 (by omega)
      by_cases g : w ≤ U
      · obtain ⟨r, t', u', v', ht', hR, hX2, hY2⟩ := ih (dn + 1) (U - w) (t + w) u1 v1 (by omega) (by omega) hR1
        rw [show t + w + (U - w) = t + U by omega] at ht' hY2
        obtain ⟨cD1, aE1, aV1, aS1, aN1, aK1, aD1, aX1, aY1, aZ1, aT1, aC1, aW1, bO1, bW1, bG1, bL1, bT1, bN1, ks1, rfl, rfl, _⟩ := hR1
        exact ⟨r, t', u', v', ht', hR, fun post hp => br_f hlt (hX _ (br_f hw5 (br_t (nI_le g (by omega)) (hX1 _ (nm_r (pk_sub g) (nm_r (nI_1 dn) (hX2 post hp))))))), fun post hp => br_f hlt (br_f (by rw [ec]; exact hcn) (hN _ (br_f (nI_nlt (by omega) (by omega)) (hY1 _ (nm_r (nI_1 dn) (hY2 post hp))))))⟩
      · exact ⟨nI dn, t, _, _, by omega, h0, fun post hp => br_f hlt (hX _ (br_f hw5 (br_f (nI_ge (by omega) (by omega)) hp))), fun post hp => br_f hlt (br_f (by rw [ec]; exact hcn) (hN _ (br_t (nI_lt (by omega) (by omega)) hp)))⟩
theorem dc_lim (x : Int32) (M : Nat) (hM : M < 2 ^ 31) : ∃ m, m ≤ M ∧ ∀ F : Int32 → Prop, F (nI m) → ((0 ≤ x → ((x ≤ nI M → F x) ∧ (¬ x ≤ nI M → F (nI M)))) ∧ (¬ 0 ≤ x → F 0)) := by
  by_cases z : x < 0
  · exact ⟨0, by omega, fun F h => br_f (Int32.not_le.mpr z) h⟩
  · have z2 : 0 ≤ x := Int32.not_lt.mp z
    obtain ⟨j, hj, rfl⟩ := nI_of z
    by_cases g : j ≤ M
    · exact ⟨j, g, fun F h => br_t z2 (br_t (nI_le g hM) h)⟩
    · exact ⟨M, Nat.le_refl _, fun F h => br_t z2 (br_f (nI_ge (by omega) hj) h)⟩
theorem dc_runY {post : Int32 → SY → Prop} {t U M : Nat} {v1 v2 : Int32} (yP yC yD : Int32) (bV bE bK bD bO bC bW bG bL bT bN : Nat → Int32) (hU : ∀ F : Int32 → Prop, F (nI U) → ((0 ≤ v1 → ((v1 ≤ nI 1000 → F v1) ∧ (¬ v1 ≤ nI 1000 → F (nI 1000)))) ∧ (¬ 0 ≤ v1 → F 0))) (hM : ∀ F : Int32 → Prop, F (nI M) → ((0 ≤ v2 → ((v2 ≤ nI 200 → F v2) ∧ (¬ v2 ≤ nI 200 → F (nI 200)))) ∧ (¬ 0 ≤ v2 → F 0))) (h : ∃ n, wY_run_55 post (nI (t + U)) (nI M) n 0 yP yC (nI t) yD bV bE bK bD bO bC bW bG bL bT bN) : wpY_run post (yP, yC, nI t, yD, bV, bE, bK, bD, bO, bC, bW, bG, bL, bT, bN) v1 v2 := by
  unfold wpY_run
  refine hU (fun z => wY_run_26 post v2 z (nI t) yP yC (nI t) yD bV bE bK bD bO bC bW bG bL bT bN) ?_
  unfold wY_run_26
  exact nm_r (nI_add t U) (hM (fun z => ∃ n, wY_run_55 post (nI (t + U)) z n 0 yP yC (nI t) yD bV bE bK bD bO bC bW bG bL bT bN) h)
theorem dc_runX {post : Int32 → SX → Prop} {U M : Nat} {v1 v2 : Int32} (cP nX cD : Int32) (aE aV aS aN aK aD aX aY aZ aT aC aW : Nat → Int32) (hU : ∀ F : Int32 → Prop, F (nI U) → ((0 ≤ v1 → ((v1 ≤ nI 1000 → F v1) ∧ (¬ v1 ≤ nI 1000 → F (nI 1000)))) ∧ (¬ 0 ≤ v1 → F 0))) (hM : ∀ F : Int32 → Prop, F (nI M) → ((0 ≤ v2 → ((v2 ≤ nI 200 → F v2) ∧ (¬ v2 ≤ nI 200 → F (nI 200)))) ∧ (¬ 0 ≤ v2 → F 0))) (h : ∃ n, wX_run_20 post (nI M) n (nI U) 0 cP nX cD aE aV aS aN aK aD aX aY aZ aT aC aW) : wpX_run post (cP, nX, cD, aE, aV, aS, aN, aK, aD, aX, aY, aZ, aT, aC, aW) v1 v2 := by
  unfold wpX_run
  refine hU (fun z => wpX_limited (fun y => ∃ n, wX_run_20 post y n z 0 cP nX cD aE aV aS aN aK aD aX aY aZ aT aC aW) v2 200) ?_
  exact hM (fun y => ∃ n, wX_run_20 post y n (nI U) 0 cP nX cD aE aV aS aN aK aD aX aY aZ aT aC aW) h
/-! reset -/
def dc_z (f : Nat → Int32) (n : Nat) : Nat → Int32 := fun j => if j < n then 0 else f j
theorem dc_z0 (f : Nat → Int32) : dc_z f 0 = f := by
  funext j
  exact if_neg (by omega)
theorem dc_zS (f : Nat → Int32) (n : Nat) : upd (dc_z f n) n 0 = dc_z f (n + 1) := by
  funext j
  simp only [upd, dc_z]
  by_cases e : j = n
  · rw [if_pos e, if_pos (by omega)]
  · rw [if_neg e]
    simp only [dc_ltS e]
theorem dc_zO (f : Nat → Int32) (n : Nat) : dc_out (dc_z f (n * 10)) n 0 = dc_z f ((n + 1) * 10) := by
  funext j
  simp only [dc_out, dc_z]
  by_cases e : n * 10 + 0 ≤ j ∧ j < n * 10 + 10
  · rw [if_pos e, if_pos (by omega)]
  · rw [if_neg e]
    by_cases g : j < n * 10
    · rw [if_pos g, if_pos (by omega)]
    · rw [if_neg g, if_neg (by omega)]
theorem dc_rsX {post : SX → Prop} (cP nX cD : Int32) (aE aV aS aN aK aD aX aY aZ aT aC aW : Nat → Int32) (hp : post (cP, 0, 0, dc_z aE 120, aV, dc_z aS 12, dc_z aN 12, aK, aD, aX, aY, aZ, aT, aC, aW)) : ∀ (e n : Nat), n + e = 12 → wX_reset_2 post (e + 1) (nI n) cP nX cD (dc_z aE (n * 10)) aV (dc_z aS n) (dc_z aN n) aK aD aX aY aZ aT aC aW := by
  intro e
  induction e with
  | zero =>
    intro n hn
    obtain rfl : n = 12 := by omega
    exact br_t (nI_le (a := 12) (b := 12) (by omega) (by decide)) hp
  | succ e ih =>
    intro n hn
    have hcl : (nI n).toNatClampNeg = n := nI_clamp (by omega)
    have hi : vp_in (nI n) 12 := vp_in_nI (by omega) (by omega)
    refine br_f (nI_ge (a := n) (b := 12) (by omega) (by decide)) ⟨hi, nm_r (e' := dc_z aS (n + 1)) (by rw [hcl, dc_zS]) ⟨hi, nm_r (e' := dc_z aN (n + 1)) (by rw [hcl, dc_zS]) ?_⟩⟩
    refine dc_takeW (d := 0) (by omega) (by omega) cP nX cD (dc_z aE (n * 10)) aV (dc_z aS (n + 1)) (dc_z aN (n + 1)) aK aD aX aY aZ aT aC aW ?_
    rw [dc_zO]
    exact nm_r (nI_1 n) (ih (n + 1) (by omega))
theorem dc_rsY {post : SY → Prop} (yP yC yN yD : Int32) (bV bE bK bD bO bC bW bG bL bT bN : Nat → Int32) (hp : post (yP, 0, 0, 0, dc_z bV 12, dc_z bE 12, bK, bD, bO, bC, bW, bG, bL, bT, bN)) : ∀ (e n : Nat), n + e = 12 → wY_reset_2 post yP yC yN yD (e + 1) (nI n) (dc_z bV n) (dc_z bE n) bK bD bO bC bW bG bL bT bN := by
  intro e
  induction e with
  | zero =>
    intro n hn
    obtain rfl : n = 12 := by omega
    exact br_t (nI_le (a := 12) (b := 12) (by omega) (by decide)) hp
  | succ e ih =>
    intro n hn
    have hcl : (nI n).toNatClampNeg = n := nI_clamp (by omega)
    have hi : vp_in (nI n) 12 := vp_in_nI (by omega) (by omega)
    exact br_f (nI_ge (a := n) (b := 12) (by omega) (by decide)) ⟨hi, nm_r (e' := dc_z bV (n + 1)) (by rw [hcl, dc_zS]) ⟨hi, nm_r (e' := dc_z bE (n + 1)) (by rw [hcl, dc_zS]) (nm_r (nI_1 n) (ih (n + 1) (by omega)))⟩⟩
