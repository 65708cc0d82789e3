/-! goForward, takeNewValues, workOut, carryOut of the component -/
/-- the flags while goForward has done the slots below K -/
def dc_gE (a : Nat → Int32) (w K : Nat) : Nat → Int32 := fun k => if k < K then (if k % 10 + w < 10 ∧ a (k + w) ≠ 0 then 1 else 0) else a k
def dc_gV (a v : Nat → Int32) (w K : Nat) : Nat → Int32 := fun k => if k < K ∧ k % 10 + w < 10 ∧ a (k + w) ≠ 0 then v (k + w) else v k
theorem dc_gE0 (a : Nat → Int32) (w : Nat) : dc_gE a w 0 = a := by
  funext k
  exact if_neg (by omega)
theorem dc_gV0 (a v : Nat → Int32) (w : Nat) : dc_gV a v w 0 = v := by
  funext k
  exact if_neg (by omega)
theorem dc_gEn {a : Nat → Int32} {w K : Nat} (h : ¬ (K % 10 + w < 10 ∧ a (K + w) ≠ 0)) : upd (dc_gE a w K) K 0 = dc_gE a w (K + 1) := by
  funext k
  unfold upd dc_gE
  by_cases h1 : k = K
  · rw [if_pos h1, h1, if_pos (by omega), if_neg h]
  · rw [if_neg h1]
    by_cases h2 : k < K
    · rw [if_pos h2, if_pos (show k < K + 1 by omega)]
    · rw [if_neg h2, if_neg (show ¬ k < K + 1 by omega)]
theorem dc_gEy {a : Nat → Int32} {w K : Nat} (h : K % 10 + w < 10 ∧ a (K + w) ≠ 0) : upd (dc_gE a w K) K 1 = dc_gE a w (K + 1) := by
  funext k
  unfold upd dc_gE
  by_cases h1 : k = K
  · rw [if_pos h1, h1, if_pos (by omega), if_pos h]
  · rw [if_neg h1]
    by_cases h2 : k < K
    · rw [if_pos h2, if_pos (show k < K + 1 by omega)]
    · rw [if_neg h2, if_neg (show ¬ k < K + 1 by omega)]
theorem dc_gVn {a v : Nat → Int32} {w K : Nat} (h : ¬ (K % 10 + w < 10 ∧ a (K + w) ≠ 0)) : dc_gV a v w K = dc_gV a v w (K + 1) := by
  funext k
  unfold dc_gV
  by_cases h1 : k = K
  · rw [h1, if_neg (fun z => absurd z.1 (by omega)), if_neg (fun z => h z.2)]
  · by_cases h2 : k % 10 + w < 10 ∧ a (k + w) ≠ 0
    · by_cases h3 : k < K
      · rw [if_pos ⟨h3, h2⟩, if_pos ⟨by omega, h2⟩]
      · rw [if_neg (fun z => h3 z.1), if_neg (fun z => absurd z.1 (by omega))]
    · rw [if_neg (fun z => h2 z.2), if_neg (fun z => h2 z.2)]
theorem dc_gVy {a v : Nat → Int32} {w K : Nat} (h : K % 10 + w < 10 ∧ a (K + w) ≠ 0) : upd (dc_gV a v w K) K (dc_gV a v w K (K + w)) = dc_gV a v w (K + 1) := by
  have e : dc_gV a v w K (K + w) = v (K + w) := if_neg (fun z => absurd z.1 (by omega))
  rw [e]
  funext k
  unfold upd dc_gV
  by_cases h1 : k = K
  · rw [if_pos h1, h1, if_pos ⟨by omega, h⟩]
  · rw [if_neg h1]
    by_cases h2 : k % 10 + w < 10 ∧ a (k + w) ≠ 0
    · by_cases h3 : k < K
      · rw [if_pos ⟨h3, h2⟩, if_pos ⟨by omega, h2⟩]
      · rw [if_neg (fun z => h3 z.1), if_neg (fun z => absurd z.1 (by omega))]
    · rw [if_neg (fun z => h2 z.2), if_neg (fun z => h2 z.2)]
theorem dc_go20 {post : SX → Prop} {J : Int32 → (Nat → Int32) → (Nat → Int32) → (Nat → Int32) → (Nat → Int32) → (Nat → Int32) → (Nat → Int32) → (Nat → Int32) → (Nat → Int32) → (Nat → Int32) → (Nat → Int32) → (Nat → Int32) → (Nat → Int32) → Prop} {s w : Nat} (hs : s < 12) (hw : w < 10) (cP nX cD : Int32) (aE aV aS aN aK aD aX aY aZ aT aC aW : Nat → Int32) (hj : J (nI (s + 1)) (dc_gE aE w (s * 10 + 10)) (dc_gV aE aV w (s * 10 + 10)) aS aN aK aD aX aY aZ aT aC aW) : ∀ (e d : Nat), d + e = 10 → wX_goForward_20 post J (nI w) (nI s) cP nX cD (e + 1) (nI d) (dc_gE aE w (s * 10 + d)) (dc_gV aE aV w (s * 10 + d)) aS aN aK aD aX aY aZ aT aC aW := by
  intro e
  induction e with
  | zero =>
    intro d hd
    obtain rfl : d = 10 := by omega
    exact br_t (nI_le (a := 10) (b := 10) (by omega) (by decide)) (nm_r (nI_1 s) hj)
  | succ e ih =>
    intro d hd
    have hn := ih (d + 1) (by omega)
    have hm : (s * 10 + d) % 10 = d := by omega
    have hcl : (nI (s * 10 + d)).toNatClampNeg = s * 10 + d := nI_clamp (by omega)
    have hcw : (nI (s * 10 + d) + nI w).toNatClampNeg = s * 10 + d + w := by rw [nI_add, nI_clamp (by omega)]
    have hrd : dc_gE aE w (s * 10 + d) (s * 10 + d + w) = aE (s * 10 + d + w) := if_neg (by omega)
    have K0 : ¬ ((s * 10 + d) % 10 + w < 10 ∧ aE (s * 10 + d + w) ≠ 0) → wX_goForward_58 post J (wX_goForward_20 post J (nI w) (nI s) cP nX cD (e + 1)) (nI w) (nI s) (nI d) (nI (s * 10 + d)) cP nX cD (dc_gE aE w (s * 10 + d)) (dc_gV aE aV w (s * 10 + d)) aS aN aK aD aX aY aZ aT aC aW := by
      intro h
      refine ⟨vp_in_nI (by omega) (by omega), nm_r (e' := dc_gE aE w (s * 10 + d + 1)) (by rw [hcl, dc_n0, dc_gEn h]) (br_t rfl (nm_r (nI_1 d) ?_))⟩
      rw [dc_gVn h]
      exact hn
    refine br_f (nI_ge (a := d) (b := 10) (by omega) (by decide)) (nm_r (dc_ix s d) (pk_le 10 (d + w) (fun h => K0 (fun z => absurd z.1 (by omega))) (fun h => ?_) rfl (nI_add d w)))
    refine ⟨pk_in (s * 10 + d + w) 120 (by omega) (nI_add _ _), ?_⟩
    by_cases z : aE (s * 10 + d + w) = 0
    · exact br_t (by rw [hcw, hrd]; exact z) (K0 (fun q => q.2 z))
    · have hy : (s * 10 + d) % 10 + w < 10 ∧ aE (s * 10 + d + w) ≠ 0 := ⟨by omega, z⟩
      refine br_f (by rw [hcw, hrd]; exact z) ⟨vp_in_nI (by omega) (by omega), nm_r (e' := dc_gE aE w (s * 10 + d + 1)) (by rw [hcl, dc_n1, dc_gEy hy]) (br_f (by decide) ⟨pk_in (s * 10 + d + w) 120 (by omega) (nI_add _ _), vp_in_nI (by omega) (by omega), nm_r (e' := dc_gV aE aV w (s * 10 + d + 1)) (by rw [hcl, hcw, dc_gVy hy]) (nm_r (nI_1 d) hn)⟩)⟩
theorem dc_go12 {post : SX → Prop} {w : Nat} (hw : w < 10) (cP nX cD : Int32) (aE aV aS aN aK aD aX aY aZ aT aC aW : Nat → Int32) (hp : post (cP, nX, cD, dc_gE aE w 120, dc_gV aE aV w 120, aS, aN, aK, aD, aX, aY, aZ, aT, aC, aW)) : ∀ (e s : Nat), s + e = 12 → wX_goForward_12 post (nI w) cP nX cD (e + 1) (nI s) (dc_gE aE w (s * 10)) (dc_gV aE aV w (s * 10)) aS aN aK aD aX aY aZ aT aC aW := by
  intro e
  induction e with
  | zero =>
    intro s hs
    obtain rfl : s = 12 := by omega
    exact br_t (nI_le (a := 12) (b := 12) (by omega) (by decide)) hp
  | succ e ih =>
    intro s hs
    have h := ih (s + 1) (by omega)
    rw [show (s + 1) * 10 = s * 10 + 10 by omega] at h
    exact br_f (nI_ge (a := s) (b := 12) (by omega) (by decide)) ⟨11, dc_go20 (by omega) hw cP nX cD aE aV aS aN aK aD aX aY aZ aT aC aW h 10 0 rfl⟩
theorem dc_goX {post : SX → Prop} {w t : Nat} (hw : w < 10) (cP cD : Int32) (aE aV aS aN aK aD aX aY aZ aT aC aW : Nat → Int32) (hp : post (cP, nI (t + w), cD, dc_gE aE w 120, dc_gV aE aV w 120, aS, aN, aK, aD, aX, aY, aZ, aT, aC, aW)) : wpX_goForward post (cP, nI t, cD, aE, aV, aS, aN, aK, aD, aX, aY, aZ, aT, aC, aW) (nI w) := by
  unfold wpX_goForward
  refine nm_r (nI_add t w) ⟨13, ?_⟩
  have h := dc_go12 hw cP (nI (t + w)) cD aE aV aS aN aK aD aX aY aZ aT aC aW hp 12 0 rfl
  rw [Nat.zero_mul, dc_gE0, dc_gV0] at h
  exact h
/-! takeNewValues: what is left and what is new while n signals are done -/
def dc_tE (a : Nat → Int32) (n : Nat) : Nat → Int32 := fun k => if k < n * 10 ∧ k % 10 = 0 then 0 else a k
def dc_tS (a v s : Nat → Int32) (n : Nat) : Nat → Int32 := fun j => if j < n ∧ a (j * 10) ≠ 0 then v (j * 10) else s j
def dc_tN (a v s g : Nat → Int32) (n : Nat) : Nat → Int32 := fun j => if j < n ∧ a (j * 10) ≠ 0 ∧ s j ≠ v (j * 10) then g j + 1 else g j
def dc_tC (a v s : Nat → Int32) : Nat → Int32
  | 0 => 0
  | n + 1 => if a (n * 10) ≠ 0 ∧ s n ≠ v (n * 10) then dc_tC a v s n ||| ((1 : Int32) <<< (nI n &&& 31)) else dc_tC a v s n
theorem dc_tE0 (a : Nat → Int32) : dc_tE a 0 = a := by
  funext k
  exact if_neg (by omega)
theorem dc_tS0 (a v s : Nat → Int32) : dc_tS a v s 0 = s := by
  funext k
  exact if_neg (by omega)
theorem dc_tN0 (a v s g : Nat → Int32) : dc_tN a v s g 0 = g := by
  funext k
  exact if_neg (by omega)
theorem dc_tEn {a : Nat → Int32} {n : Nat} (h : a (n * 10) = 0) : dc_tE a n = dc_tE a (n + 1) := by
  funext k
  unfold dc_tE
  by_cases h1 : k = n * 10
  · rw [h1, if_neg (by omega), if_pos (by omega), h]
  · by_cases h2 : k < n * 10 ∧ k % 10 = 0
    · rw [if_pos h2, if_pos (by omega)]
    · rw [if_neg h2, if_neg (by omega)]
theorem dc_tEy (a : Nat → Int32) (n : Nat) : upd (dc_tE a n) (n * 10) 0 = dc_tE a (n + 1) := by
  funext k
  simp only [dc_tE, upd]
  by_cases h1 : k = n * 10
  · rw [if_pos h1, if_pos (by omega)]
  · rw [if_neg h1]
    by_cases h2 : k < n * 10 ∧ k % 10 = 0
    · rw [if_pos h2, if_pos (by omega)]
    · rw [if_neg h2, if_neg (by omega)]
theorem dc_ltS {j n : Nat} (h : j ≠ n) : j < n + 1 ↔ j < n := by omega
theorem dc_tSk {a v s : Nat → Int32} {n : Nat} (h : a (n * 10) ≠ 0 → s n = v (n * 10)) : dc_tS a v s n = dc_tS a v s (n + 1) := by
  funext j
  simp only [dc_tS]
  by_cases h1 : j = n
  · subst h1
    rw [if_neg (fun z => absurd z.1 (by omega))]
    by_cases h2 : a (j * 10) ≠ 0
    · rw [if_pos ⟨by omega, h2⟩, h h2]
    · rw [if_neg (fun z => h2 z.2)]
  · simp only [dc_ltS h1]
theorem dc_tSy {a v s : Nat → Int32} {n : Nat} (h : a (n * 10) ≠ 0) : upd (dc_tS a v s n) n (v (n * 10)) = dc_tS a v s (n + 1) := by
  funext j
  simp only [dc_tS, upd]
  by_cases h1 : j = n
  · subst h1
    rw [if_pos rfl, if_pos ⟨by omega, h⟩]
  · rw [if_neg h1]; simp only [dc_ltS h1]
theorem dc_tNk {a v s g : Nat → Int32} {n : Nat} (h : ¬ (a (n * 10) ≠ 0 ∧ s n ≠ v (n * 10))) : dc_tN a v s g n = dc_tN a v s g (n + 1) := by
  funext j
  simp only [dc_tN]
  by_cases h1 : j = n
  · subst h1
    rw [if_neg (fun z => h z.2), if_neg (fun z => h z.2)]
  · simp only [dc_ltS h1]
theorem dc_tNy {a v s g : Nat → Int32} {n : Nat} (h : a (n * 10) ≠ 0 ∧ s n ≠ v (n * 10)) : upd (dc_tN a v s g n) n (dc_tN a v s g n n + 1) = dc_tN a v s g (n + 1) := by
  have e : dc_tN a v s g n n = g n := if_neg (fun z => absurd z.1 (by omega))
  rw [e]
  funext j
  simp only [dc_tN, upd]
  by_cases h1 : j = n
  · subst h1
    rw [if_pos rfl, if_pos ⟨by omega, h⟩]
  · rw [if_neg h1]; simp only [dc_ltS h1]
theorem dc_tk4 {post : Int32 → SX → Prop} (cP nX cD : Int32) (aE aV aS aN aK aD aX aY aZ aT aC aW : Nat → Int32) (hp : post (dc_tC aE aV aS 12) (cP, nX, cD, dc_tE aE 12, aV, dc_tS aE aV aS 12, dc_tN aE aV aS aN 12, aK, aD, aX, aY, aZ, aT, aC, aW)) : ∀ (e n : Nat), n + e = 12 → wX_takeNewValues_4 post cP nX cD (e + 1) (dc_tC aE aV aS n) (nI n) (dc_tE aE n) aV (dc_tS aE aV aS n) (dc_tN aE aV aS aN n) aK aD aX aY aZ aT aC aW := by
  intro e
  induction e with
  | zero =>
    intro n hn
    obtain rfl : n = 12 := by omega
    exact br_t (nI_le (a := 12) (b := 12) (by omega) (by decide)) hp
  | succ e ih =>
    intro n hn
    have h := ih (n + 1) (by omega)
    have hc : (nI n).toNatClampNeg = n := nI_clamp (by omega)
    have hc10 : (nI (n * 10)).toNatClampNeg = n * 10 := nI_clamp (by omega)
    have hi : vp_in (nI n) 12 := vp_in_nI (by omega) (by omega)
    have hi10 : vp_in (nI (n * 10)) 120 := vp_in_nI (by omega) (by omega)
    have r1 : dc_tE aE n (n * 10) = aE (n * 10) := if_neg (by omega)
    have r2 : dc_tS aE aV aS n n = aS n := if_neg (fun z => absurd z.1 (by omega))
    refine br_f (nI_ge (a := n) (b := 12) (by omega) (by decide)) (nm_r (dc_ix0 n) ⟨hi10, ?_⟩)
    by_cases z : aE (n * 10) = 0
    · refine br_t (by rw [hc10, r1]; exact z) (nm_r (nI_1 n) ?_)
      rw [dc_tEn z, dc_tSk (fun q => absurd z q), dc_tNk (fun q => q.1 z)]
      have e1 : dc_tC aE aV aS (n + 1) = dc_tC aE aV aS n := if_neg (fun q => q.1 z)
      rw [e1] at h
      exact h
    · refine br_f (by rw [hc10, r1]; exact z) ⟨hi10, nm_r (e' := dc_tE aE (n + 1)) (by rw [hc10, dc_n0, dc_tEy]) ⟨hi, hi10, ?_⟩⟩
      by_cases q : aS n = aV (n * 10)
      · refine br_t (by rw [hc, hc10, r2]; exact q) (nm_r (nI_1 n) ?_)
        rw [dc_tSk (fun _ => q), dc_tNk (fun y => y.2 q)]
        have e1 : dc_tC aE aV aS (n + 1) = dc_tC aE aV aS n := if_neg (fun y => y.2 q)
        rw [e1] at h
        exact h
      · have e1 : dc_tC aE aV aS (n + 1) = dc_tC aE aV aS n ||| ((1 : Int32) <<< (nI n &&& 31)) := if_pos ⟨z, q⟩
        rw [e1] at h
        exact br_f (by rw [hc, hc10, r2]; exact q) ⟨hi10, hi, nm_r (e' := dc_tS aE aV aS (n + 1)) (by rw [hc, hc10, dc_tSy z]) ⟨hi, hi, nm_r (e' := dc_tN aE aV aS aN (n + 1)) (by rw [hc, dc_tNy ⟨z, q⟩]) (nm_e (nm_r (nI_1 n) h))⟩⟩
theorem dc_tkX {post : Int32 → SX → Prop} (cP nX cD : Int32) (aE aV aS aN aK aD aX aY aZ aT aC aW : Nat → Int32) (hp : post (dc_tC aE aV aS 12) (cP, nX, cD, dc_tE aE 12, aV, dc_tS aE aV aS 12, dc_tN aE aV aS aN 12, aK, aD, aX, aY, aZ, aT, aC, aW)) : wpX_takeNewValues post (cP, nX, cD, aE, aV, aS, aN, aK, aD, aX, aY, aZ, aT, aC, aW) := by
  refine ⟨13, ?_⟩
  have h := dc_tk4 cP nX cD aE aV aS aN aK aD aX aY aZ aT aC aW hp 12 0 rfl
  rw [dc_tE0, dc_tS0, dc_tN0] at h
  exact h
/-! workOut, carryOut -/
def dc_res (k x y s c : Int32) : Int32 := if k = 0 then x + y else if k = 1 then x &&& y else if k = 2 then x ^^^ y else if k = 3 then x + c else if k = 4 then (if s = 0 then y else x) else x ^^^ (-1)
def dc_kd (k : Int32) : Prop := k = 0 ∨ k = 1 ∨ k = 2 ∨ k = 3 ∨ k = 4 ∨ k = 5
theorem dc_workX {post : Int32 → Prop} {p x y z : Nat} (cP nX cD : Int32) (aE aV aS aN aK aD aX aY aZ aT aC aW : Nat → Int32) (hp : p < 8) (hx : x < 12) (hy : y < 12) (hz : z < 12) (ex : aX p = nI x) (ey : aY p = nI y) (ez : aZ p = nI z) (hk : dc_kd (aK p)) (h : post (dc_res (aK p) (aS x) (aS y) (aS z) (aC p))) : wpX_workOut post (cP, nX, cD, aE, aV, aS, aN, aK, aD, aX, aY, aZ, aT, aC, aW) (nI p) := by
  have hc : (nI p).toNatClampNeg = p := nI_clamp (by omega)
  have hi : vp_in (nI p) 8 := vp_in_nI (by omega) (by omega)
  have e1 : (aX (nI p).toNatClampNeg) = nI x := by rw [hc, ex]
  have e2 : (aY (nI p).toNatClampNeg) = nI y := by rw [hc, ey]
  have e3 : (aZ (nI p).toNatClampNeg) = nI z := by rw [hc, ez]
  refine ⟨hi, pk_in x 12 hx e1, nm_r (e' := aS x) (by rw [e1, nI_clamp (by omega)]) ⟨hi, pk_in y 12 hy e2, nm_r (e' := aS y) (by rw [e2, nI_clamp (by omega)]) ⟨hi, ?_⟩⟩⟩
  unfold dc_res at h
  rcases hk with k | k | k | k | k | k <;> rw [k] at h <;> refine nm_r (e' := _) (by rw [hc, k]) ?_
  · exact br_f (by decide) (br_f (by decide) (br_t rfl h))
  · exact br_f (by decide) (br_f (by decide) (br_f (by decide) (br_t rfl h)))
  · exact br_f (by decide) (br_f (by decide) (br_f (by decide) (br_f (by decide) (br_t rfl h))))
  · exact br_f (by decide) (br_f (by decide) (br_f (by decide) (br_f (by decide) (br_f (by decide) (br_t rfl ⟨hi, by rw [hc]; exact h⟩)))))
  · refine br_f (by decide) (br_f (by decide) (br_f (by decide) (br_f (by decide) (br_f (by decide) (br_f (by decide) (br_t rfl ⟨hi, pk_in z 12 hz e3, ?_⟩))))))
    have e4 : aS (aZ (nI p).toNatClampNeg).toNatClampNeg = aS z := by rw [e3, nI_clamp (by omega)]
    by_cases q : aS z = 0
    · refine br_t (by rw [e4]; exact q) ?_
      rw [if_pos q] at h
      exact h
    · refine br_f (by rw [e4]; exact q) ?_
      rw [if_neg q] at h
      exact h
  · exact br_f (by decide) (br_t (by decide) h)
theorem dc_carX {post : SX → Prop} {p x y z r d : Nat} (cP nX cD : Int32) (aE aV aS aN aK aD aX aY aZ aT aC aW : Nat → Int32) (hp : p < 8) (hx : x < 12) (hy : y < 12) (hz : z < 12) (hr : r < 12) (hd : d < 10) (ex : aX p = nI x) (ey : aY p = nI y) (ez : aZ p = nI z) (er : aT p = nI r) (ed : aD p = nI d) (hk : dc_kd (aK p)) (h : post (cP, nX, cD, upd (dc_out aE r d) (r * 10 + d) 1, upd aV (r * 10 + d) (dc_res (aK p) (aS x) (aS y) (aS z) (aC p)), aS, aN, aK, aD, aX, aY, aZ, aT, aC, aW)) : wpX_carryOut post (cP, nX, cD, aE, aV, aS, aN, aK, aD, aX, aY, aZ, aT, aC, aW) (nI p) := by
  unfold wpX_carryOut
  refine dc_workX cP nX cD aE aV aS aN aK aD aX aY aZ aT aC aW hp hx hy hz ex ey ez hk ?_
  have hc : (nI p).toNatClampNeg = p := nI_clamp (by omega)
  have hi : vp_in (nI p) 8 := vp_in_nI (by omega) (by omega)
  refine ⟨hi, hi, ?_⟩
  rw [hc, er, ed]
  exact dc_putX hr hd cP nX cD aE aV aS aN aK aD aX aY aZ aT aC aW h
