/-! the reference's list of changes, as a list of keys signal * 10 + delay still to go -/
/-- entry i of the list is the change with key k (t: the time now; b: the mark of the next delta cycle is up to date) -/
def dc_E (b : Bool) (t : Nat) (cv bG bL bT bN : Nat → Int32) (i k : Nat) : Prop :=
  k < 120 ∧ bG i = nI (k / 10) ∧ bT i = nI (t + k % 10) ∧ bL i = cv k ∧ (k % 10 ≠ 0 → bN i = 0) ∧ (b = true → k % 10 = 0 → bN i = 1)
def dc_L (E : Nat → Nat → Prop) : Nat → List Nat → Prop
  | _, [] => True
  | o, k :: r => E o k ∧ dc_L E (o + 1) r
theorem dc_Lmono {E E' : Nat → Nat → Prop} : ∀ (ks : List Nat) (o : Nat), (∀ i k, o ≤ i → i < o + ks.length → k ∈ ks → E i k → E' i k) → dc_L E o ks → dc_L E' o ks := by
  intro ks
  induction ks with
  | nil => intro o _ _; exact True.intro
  | cons a r ih =>
    intro o h hl
    refine ⟨h o a (Nat.le_refl _) (by simp) (by simp) hl.1, ih (o + 1) (fun i k h1 h2 h3 h4 => h i k (by omega) (by simp; omega) (by simp [h3]) h4) hl.2⟩
theorem dc_Lapp {E : Nat → Nat → Prop} : ∀ (a b : List Nat) (o : Nat), dc_L E o (a ++ b) ↔ dc_L E o a ∧ dc_L E (o + a.length) b := by
  intro a
  induction a with
  | nil => intro b o; simp [dc_L]
  | cons x r ih =>
    intro b o
    show E o x ∧ dc_L E (o + 1) (r ++ b) ↔ (E o x ∧ dc_L E (o + 1) r) ∧ _
    rw [ih b (o + 1), show o + 1 + r.length = o + (x :: r).length by simp; omega, and_assoc]
theorem dc_Lmap {E E' : Nat → Nat → Prop} (f : Nat → Nat) : ∀ (ks : List Nat) (o : Nat), (∀ i k, k ∈ ks → E i k → E' i (f k)) → dc_L E o ks → dc_L E' o (ks.map f) := by
  intro ks
  induction ks with
  | nil => intro o _ _; exact True.intro
  | cons a r ih =>
    intro o h hl
    exact ⟨h o a (by simp) hl.1, ih (o + 1) (fun i k h3 h4 => h i k (by simp [h3]) h4) hl.2⟩
theorem dc_Lall {E : Nat → Nat → Prop} {P : Nat → Prop} (h : ∀ i k, E i k → P k) : ∀ (ks : List Nat) (o : Nat), dc_L E o ks → ∀ k, k ∈ ks → P k := by
  intro ks
  induction ks with
  | nil => intro o _ k hk; simp at hk
  | cons a r ih =>
    intro o hl k hk
    rcases List.mem_cons.mp hk with e | e
    · rw [e]; exact h o a hl.1
    · exact ih (o + 1) hl.2 k e
theorem dc_nar {b : Bool} {t : Nat} {cv bG bL bT bN : Nat → Int32} {i k : Nat} (h : dc_E b t cv bG bL bT bN i k) (hb : b = true ∨ k % 10 ≠ 0) : vp_nar .boolean (bN i) = bN i := by
  by_cases z : k % 10 = 0
  · rw [h.2.2.2.2.2 (hb.resolve_right (fun q => q z)) z]; exact dc_n1
  · rw [h.2.2.2.2.1 z]; exact dc_n0
/-- a move of entry i to place j -/
theorem dc_mvE {b : Bool} {t : Nat} {cv bG bL bT bN : Nat → Int32} {i j k : Nat} (h : dc_E b t cv bG bL bT bN i k) : dc_E b t cv (upd bG j (bG i)) (upd bL j (bL i)) (upd bT j (bT i)) (upd bN j (bN i)) j k := by
  unfold dc_E
  rw [pk_us, pk_us, pk_us, pk_us]
  exact h
theorem dc_frE {b : Bool} {t : Nat} {cv bG bL bT bN : Nat → Int32} {g l m n : Int32} {i j k : Nat} (hj : i ≠ j) (h : dc_E b t cv bG bL bT bN i k) : dc_E b t cv (upd bG j g) (upd bL j l) (upd bT j m) (upd bN j n) i k := by
  unfold dc_E
  rw [pk_un hj, pk_un hj, pk_un hj, pk_un hj]
  exact h
theorem dc_moveY {post : SY → Prop} {i j : Nat} (yP yC yN yD : Int32) (bV bE bK bD bO bC bW bG bL bT bN : Nat → Int32) (hi : i < 128) (hj : j < 128) (hn : vp_nar .boolean (bN i) = bN i) (hp : post (yP, yC, yN, yD, bV, bE, bK, bD, bO, bC, bW, upd bG j (bG i), upd bL j (bL i), upd bT j (bT i), upd bN j (bN i))) : wpY_move post (yP, yC, yN, yD, bV, bE, bK, bD, bO, bC, bW, bG, bL, bT, bN) (nI i) (nI j) := by
  have h1 : vp_in (nI i) 128 := vp_in_nI hi (by omega)
  have h2 : vp_in (nI j) 128 := vp_in_nI hj (by omega)
  have c1 : (nI i).toNatClampNeg = i := nI_clamp (by omega)
  have c2 : (nI j).toNatClampNeg = j := nI_clamp (by omega)
  exact ⟨h1, h2, nm_r (e' := upd bG j (bG i)) (by rw [c1, c2]) ⟨h1, h2, nm_r (e' := upd bL j (bL i)) (by rw [c1, c2]) ⟨h1, h2, nm_r (e' := upd bT j (bT i)) (by rw [c1, c2]) ⟨h1, h2, nm_r (e' := upd bN j (bN i)) (by rw [c1, c2, hn]) hp⟩⟩⟩⟩
/-- which keys a put at s, d leaves -/
def dc_q (s d k : Nat) : Bool := decide (¬ (s * 10 + d ≤ k ∧ k < s * 10 + 10))
theorem dc_put6 {s d t c : Nat} {v : Int32} (hs : s < 12) (hd : d < 10) (ht : t < 1000000000) (hc : c ≤ 120) (cv : Nat → Int32) (yP yD : Int32) (bV bE bK bD bO bC bW : Nat → Int32) : ∀ (R K : List Nat) (i : Nat) (bG bL bT bN : Nat → Int32), i + R.length = c → K.length ≤ i → (∀ k, k ∈ K → dc_q s d k = true) → dc_L (dc_E true t cv bG bL bT bN) 0 K → dc_L (dc_E true t cv bG bL bT bN) i R → ∃ cG cL cT cN : Nat → Int32, dc_L (dc_E true t (upd cv (s * 10 + d) v) cG cL cT cN) 0 (K ++ R.filter (dc_q s d) ++ [s * 10 + d]) ∧ ∀ post : SY → Prop, post (yP, nI (K ++ R.filter (dc_q s d) ++ [s * 10 + d]).length, nI t, yD, bV, bE, bK, bD, bO, bC, bW, cG, cL, cT, cN) → wY_put_6 post (nI s) v (nI d) (R.length + 1) (nI K.length) (nI i) yP (nI c) (nI t) yD bV bE bK bD bO bC bW bG bL bT bN := by
  intro R
  induction R with
  | nil =>
    intro K i bG bL bT bN hi hK hq hLK _
    obtain rfl : i = c := by simpa using hi
    have hin : vp_in (nI K.length) 128 := vp_in_nI (by omega) (by omega)
    have hcl : (nI K.length).toNatClampNeg = K.length := nI_clamp (by omega)
    have hlen : (K ++ List.filter (dc_q s d) [] ++ [s * 10 + d]).length = K.length + 1 := by simp
    refine ⟨upd bG K.length (nI s), upd bL K.length v, upd bT K.length (nI (t + d)), upd bN K.length (if d = 0 then 1 else 0), ?_, fun post hp => ?_⟩
    · rw [List.filter_nil, List.append_nil, dc_Lapp]
      refine ⟨dc_Lmono K 0 (fun i' k _ h2 h3 h4 => ?_) hLK, ?_, True.intro⟩
      · refine dc_frE (by omega) ?_
        obtain ⟨q1, q2, q3, q4, q5⟩ := h4
        refine ⟨q1, q2, q3, ?_, q5⟩
        rw [pk_un, q4]
        have := hq k h3
        simp only [dc_q, decide_eq_true_eq] at this
        omega
      · have hm : (s * 10 + d) % 10 = d := by omega
        have hv : (s * 10 + d) / 10 = s := by omega
        rw [Nat.zero_add]
        unfold dc_E
        rw [pk_us, pk_us, pk_us, pk_us, pk_us, hm, hv]
        exact ⟨by omega, rfl, rfl, rfl, fun z => if_neg z, fun _ z => if_pos z⟩
    · rw [hlen] at hp
      refine br_t (nI_le (by omega) (by omega)) ⟨hin, nm_r (e' := upd bG K.length (nI s)) (by rw [hcl]) ⟨hin, nm_r (e' := upd bL K.length v) (by rw [hcl]) ⟨hin, nm_r (e' := upd bT K.length (nI (t + d))) (by rw [hcl, nI_add]) ?_⟩⟩⟩
      refine pk_eq d 0 (fun z => ⟨hin, nm_r (e' := upd bN K.length 1) (by rw [hcl, dc_n1]) (nm_r (nI_1 _) ?_)⟩) (fun z => ⟨hin, nm_r (e' := upd bN K.length 0) (by rw [hcl, dc_n0]) (nm_r (nI_1 _) ?_)⟩)
      · rw [if_pos z] at hp
        exact hp
      · rw [if_neg z] at hp
        exact hp
  | cons k R ih =>
    intro K i bG bL bT bN hi hK hq hLK hLR
    rw [List.length_cons] at hi
    have hcl : (nI i).toNatClampNeg = i := nI_clamp (by omega)
    have hin : vp_in (nI i) 128 := vp_in_nI (by omega) (by omega)
    obtain ⟨hE, hLR'⟩ := hLR
    have hk120 : k < 120 := hE.1
    have q2 := hE.2.1
    have q3 := hE.2.2.1
    by_cases hqk : dc_q s d k = true
    · have e1 : K ++ [k] ++ List.filter (dc_q s d) R = K ++ List.filter (dc_q s d) (k :: R) := by
        rw [List.filter_cons_of_pos hqk, List.append_assoc]
        rfl
      have hk' : ¬ (s * 10 + d ≤ k ∧ k < s * 10 + 10) := by simpa only [dc_q, decide_eq_true_eq] using hqk
      have hq2 : ∀ k', k' ∈ K ++ [k] → dc_q s d k' = true := by
        intro k' hm
        rcases List.mem_append.mp hm with e | e
        · exact hq k' e
        · rw [List.mem_singleton.mp e]; exact hqk
      have hL2 : dc_L (dc_E true t cv (upd bG K.length (bG i)) (upd bL K.length (bL i)) (upd bT K.length (bT i)) (upd bN K.length (bN i))) 0 (K ++ [k]) := by
        rw [dc_Lapp]
        refine ⟨dc_Lmono K 0 (fun i' k' _ h2 _ h4 => dc_frE (by omega) h4) hLK, ?_, True.intro⟩
        rw [Nat.zero_add]
        exact dc_mvE hE
      obtain ⟨cG, cL, cT, cN, hI, hW⟩ := ih (K ++ [k]) (i + 1) (upd bG K.length (bG i)) (upd bL K.length (bL i)) (upd bT K.length (bT i)) (upd bN K.length (bN i)) (by omega) (by simp; omega) hq2 hL2 (dc_Lmono R (i + 1) (fun i' k' h1 _ _ h4 => dc_frE (by omega) h4) hLR')
      rw [e1] at hI hW
      refine ⟨cG, cL, cT, cN, hI, fun post hp => ?_⟩
      have hkeep : wY_put_42 post (wY_put_6 post (nI s) v (nI d) (R.length + 1)) (nI s) v (nI d) (nI K.length) (nI i) yP (nI c) (nI t) yD bV bE bK bD bO bC bW bG bL bT bN := by
        unfold wY_put_42
        refine dc_moveY yP (nI c) (nI t) yD bV bE bK bD bO bC bW bG bL bT bN (by omega) (by omega) (dc_nar hE (Or.inl rfl)) ?_
        refine nm_r (nI_1 _) (nm_r (nI_1 _) ?_)
        have h := hW post hp
        rw [List.length_append, List.length_singleton] at h
        exact h
      refine br_f (nI_ge (by omega) (by omega)) ⟨hin, ?_⟩
      exact pk_eq (k / 10) s (fun z => ⟨hin, pk_le (t + d) (t + k % 10) (fun z2 => absurd hk' (by omega)) (fun _ => hkeep) (nI_add t d) (by rw [hcl, q3])⟩) (fun _ => hkeep) (by rw [hcl, q2])
    · have e1 : List.filter (dc_q s d) (k :: R) = List.filter (dc_q s d) R := List.filter_cons_of_neg hqk
      have hk' : s * 10 + d ≤ k ∧ k < s * 10 + 10 := by
        simp only [dc_q, decide_eq_true_eq] at hqk
        omega
      obtain ⟨cG, cL, cT, cN, hI, hW⟩ := ih K (i + 1) bG bL bT bN (by omega) (by omega) hq hLK hLR'
      rw [e1]
      refine ⟨cG, cL, cT, cN, hI, fun post hp => ?_⟩
      refine br_f (nI_ge (by omega) (by omega)) ⟨hin, ?_⟩
      exact pk_eq (k / 10) s (fun z => ⟨hin, pk_le (t + d) (t + k % 10) (fun _ => nm_r (nI_1 _) (hW post hp)) (fun z2 => absurd hk' (by omega)) (nI_add t d) (by rw [hcl, q3])⟩) (fun z => absurd z (by omega)) (by rw [hcl, q2])
theorem dc_putY {s d t : Nat} (v : Int32) (hs : s < 12) (hd : d < 10) (ht : t < 1000000000) {cv : Nat → Int32} (yP yD : Int32) (bV bE bK bD bO bC bW bG bL bT bN : Nat → Int32) {ks : List Nat} (hc : ks.length ≤ 120) (hL : dc_L (dc_E true t cv bG bL bT bN) 0 ks) : ∃ cG cL cT cN : Nat → Int32, dc_L (dc_E true t (upd cv (s * 10 + d) v) cG cL cT cN) 0 (ks.filter (dc_q s d) ++ [s * 10 + d]) ∧ ∀ post : SY → Prop, post (yP, nI (ks.filter (dc_q s d) ++ [s * 10 + d]).length, nI t, yD, bV, bE, bK, bD, bO, bC, bW, cG, cL, cT, cN) → wpY_put post (yP, nI ks.length, nI t, yD, bV, bE, bK, bD, bO, bC, bW, bG, bL, bT, bN) (nI s) v (nI d) := by
  obtain ⟨cG, cL, cT, cN, hI, hW⟩ := dc_put6 (v := v) hs hd ht hc cv yP yD bV bE bK bD bO bC bW ks [] 0 bG bL bT bN (by omega) (by simp) (by simp) True.intro hL
  exact ⟨cG, cL, cT, cN, hI, fun post hp => ⟨ks.length + 1, hW post hp⟩⟩
/-! carryOut of the reference -/
theorem dc_carY {post : SY → Prop} {p x y z r d : Nat} (yP yC yN yD : Int32) (bV bE bK bD bO bC bW bG bL bT bN : Nat → Int32) (hp : p < 8) (hx : x < 12) (hy : y < 12) (hz : z < 12) (ex : bO p &&& 15 = nI x) (ey : (bO p >>> ((4 : Int32) &&& 31)) &&& 15 = nI y) (ez : (bO p >>> ((8 : Int32) &&& 31)) &&& 15 = nI z) (er : bO p >>> ((12 : Int32) &&& 31) = nI r) (ed : bD p = nI d) (hk : dc_kd (bK p)) (h : wpY_put post (yP, yC, yN, yD, bV, bE, bK, bD, bO, bC, bW, bG, bL, bT, bN) (nI r) (dc_res (bK p) (bV x) (bV y) (bV z) (bC p)) (nI d)) : wpY_carryOut post (yP, yC, yN, yD, bV, bE, bK, bD, bO, bC, bW, bG, bL, bT, bN) (nI p) := by
  have hc : (nI p).toNatClampNeg = p := nI_clamp (by omega)
  have hi : vp_in (nI p) 8 := vp_in_nI (by omega) (by omega)
  have hEnd : ∀ q, q = dc_res (bK p) (bV x) (bV y) (bV z) (bC p) → wY_carryOut_143 post (nI p) q yP yC yN yD bV bE bK bD bO bC bW bG bL bT bN := by
    intro q eq
    refine ⟨hi, hi, ?_⟩
    rw [hc, er, ed, eq]
    exact h
  have m0 : ∀ i : Int32, bK p ≠ i → ¬ bK (nI p).toNatClampNeg = i := by
    intro i h
    rw [hc]
    exact h
  have m1 : ∀ i : Int32, bK p = i → bK (nI p).toNatClampNeg = i := by
    intro i h
    rw [hc]
    exact h
  refine ⟨hi, pk_in x 12 hx (by rw [hc, ex]), nm_r (e' := bV x) (by rw [hc, ex, nI_clamp (by omega)]) ⟨hi, pk_in y 12 hy (by rw [hc, ey]), nm_r (e' := bV y) (by rw [hc, ey, nI_clamp (by omega)]) ⟨hi, pk_in z 12 hz (by rw [hc, ez]), nm_r (e' := bV z) (by rw [hc, ez, nI_clamp (by omega)]) (nm_e ⟨hi, ?_⟩)⟩⟩⟩
  unfold dc_res at hEnd
  rcases hk with k | k | k | k | k | k <;> simp only [k] at hEnd m0 m1
  · exact br_f (m0 _ (by decide)) ⟨hi, br_f (m0 _ (by decide)) ⟨hi, br_f (m0 _ (by decide)) ⟨hi, br_f (m0 _ (by decide)) ⟨hi, br_f (m0 _ (by decide)) (hEnd _ rfl)⟩⟩⟩⟩
  · exact br_t (m1 _ rfl) (nm_e ⟨hi, br_f (m0 _ (by decide)) ⟨hi, br_f (m0 _ (by decide)) ⟨hi, br_f (m0 _ (by decide)) ⟨hi, br_f (m0 _ (by decide)) (hEnd _ rfl)⟩⟩⟩⟩)
  · exact br_f (m0 _ (by decide)) ⟨hi, br_t (m1 _ rfl) (nm_e ⟨hi, br_f (m0 _ (by decide)) ⟨hi, br_f (m0 _ (by decide)) ⟨hi, br_f (m0 _ (by decide)) (hEnd _ rfl)⟩⟩⟩)⟩
  · exact br_f (m0 _ (by decide)) ⟨hi, br_f (m0 _ (by decide)) ⟨hi, br_t (m1 _ rfl) ⟨hi, nm_e ⟨hi, br_f (m0 _ (by decide)) ⟨hi, br_f (m0 _ (by decide)) (hEnd _ (by rw [hc]; rfl))⟩⟩⟩⟩⟩
  · refine br_f (m0 _ (by decide)) ⟨hi, br_f (m0 _ (by decide)) ⟨hi, br_f (m0 _ (by decide)) ⟨hi, br_t (m1 _ rfl) ?_⟩⟩⟩
    by_cases q : bV z = 0
    · exact br_t q ⟨hi, br_f (m0 _ (by decide)) (hEnd _ (by simp [q]))⟩
    · exact br_f q ⟨hi, br_f (m0 _ (by decide)) (hEnd _ (by simp [q]))⟩
  · exact br_f (m0 _ (by decide)) ⟨hi, br_f (m0 _ (by decide)) ⟨hi, br_f (m0 _ (by decide)) ⟨hi, br_f (m0 _ (by decide)) ⟨hi, br_t (m1 _ rfl) (nm_e (hEnd _ rfl))⟩⟩⟩⟩
