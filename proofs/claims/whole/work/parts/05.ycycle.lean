/-! update, nextTime, anyNext, coming of the reference -/
/-- values, events and the set of the changed while the keys of a list are updated -/
def dc_up (cv : Nat → Int32) : List Nat → (Nat → Int32) → (Nat → Int32) → Int32 → (Nat → Int32) × (Nat → Int32) × Int32
  | [], v, e, x => (v, e, x)
  | k :: R, v, e, x => if k % 10 = 0 ∧ v (k / 10) ≠ cv k then dc_up cv R (upd v (k / 10) (cv k)) (upd e (k / 10) (e (k / 10) + 1)) (x ||| ((1 : Int32) <<< (nI (k / 10) &&& 31))) else dc_up cv R v e x
def dc_f0 (k : Nat) : Bool := decide (k % 10 ≠ 0)
def dc_bI (b : Bool) : Int32 := if b then 1 else 0
theorem dc_up7 {t c : Nat} {b : Bool} (ht : t < 1000000000) (hc : c ≤ 120) (cv : Nat → Int32) (yP yD : Int32) (bK bD bO bC bW : Nat → Int32) : ∀ (R K : List Nat) (i : Nat) (x : Int32) (bV bE bG bL bT bN : Nat → Int32), i + R.length = c → K.length ≤ i → (∀ k, k ∈ K → dc_f0 k = true) → dc_L (dc_E true t cv bG bL bT bN) 0 K → dc_L (dc_E b t cv bG bL bT bN) i R → ∃ cG cL cT cN : Nat → Int32, dc_L (dc_E true t cv cG cL cT cN) 0 (K ++ R.filter dc_f0) ∧ ∀ post : Int32 → SY → Prop, post (dc_up cv R bV bE x).2.2 (yP, nI (K ++ R.filter dc_f0).length, nI t, yD, (dc_up cv R bV bE x).1, (dc_up cv R bV bE x).2.1, bK, bD, bO, bC, bW, cG, cL, cT, cN) → wY_update_7 post (dc_bI b) (R.length + 1) x (nI K.length) (nI i) yP (nI c) (nI t) yD bV bE bK bD bO bC bW bG bL bT bN := by
  intro R
  induction R with
  | nil =>
    intro K i x bV bE bG bL bT bN hi hK hq hLK _
    obtain rfl : i = c := by simpa using hi
    rw [List.filter_nil, List.append_nil]
    exact ⟨bG, bL, bT, bN, hLK, fun post hp => br_t (nI_le (by omega) (by omega)) hp⟩
  | cons k R ih =>
    intro K i x bV bE bG bL bT bN hi hK hq hLK hLR
    rw [List.length_cons] at hi
    have hcl : (nI i).toNatClampNeg = i := nI_clamp (by omega)
    have hin : vp_in (nI i) 128 := vp_in_nI (by omega) (by omega)
    obtain ⟨hE, hLR'⟩ := hLR
    have hhead : ∀ (post : Int32 → SY → Prop) (z0 : Int32), (k % 10 = 0 → z0 = 1) → (k % 10 ≠ 0 → z0 = 0) → wY_update_49 post (wY_update_7 post (dc_bI b) (R.length + 1)) (dc_bI b) x (nI K.length) (nI i) z0 yP (nI c) (nI t) yD bV bE bK bD bO bC bW bG bL bT bN → wY_update_7 post (dc_bI b) (R.length + 1 + 1) x (nI K.length) (nI i) yP (nI c) (nI t) yD bV bE bK bD bO bC bW bG bL bT bN := by
      intro post z0 h1 h0 h
      refine br_f (nI_ge (by omega) (by omega)) ?_
      cases b with
      | false =>
        refine br_t rfl ⟨hin, ?_⟩
        exact pk_eq (t + k % 10) t (fun z => by rw [h1 (by omega)] at h; exact h) (fun z => by rw [h0 (by omega)] at h; exact h) (by rw [hcl, hE.2.2.1])
      | true =>
        refine br_f (by decide) ⟨hin, ?_⟩
        rw [hcl]
        by_cases z : k % 10 = 0
        · rw [hE.2.2.2.2.2 rfl z, ← h1 z]; exact h
        · rw [hE.2.2.2.2.1 z, ← h0 z]; exact h
    by_cases hk : k % 10 = 0
    · have e1 : List.filter dc_f0 (k :: R) = List.filter dc_f0 R := List.filter_cons_of_neg (by simp only [dc_f0, decide_eq_true_eq]; omega)
      rw [e1]
      obtain ⟨q1, q2, q3, q4, q5⟩ := hE
      have hsg : bG (nI i).toNatClampNeg = nI (k / 10) := by rw [hcl, q2]
      have hsi : vp_in (bG (nI i).toNatClampNeg) 12 := pk_in (k / 10) 12 (by omega) hsg
      have hsc : (bG (nI i).toNatClampNeg).toNatClampNeg = k / 10 := by rw [hsg, nI_clamp (by omega)]
      have hvl : bL (nI i).toNatClampNeg = cv k := by rw [hcl, q4]
      by_cases z : bV (k / 10) = cv k
      · have e2 : dc_up cv (k :: R) bV bE x = dc_up cv R bV bE x := if_neg (fun y => y.2 z)
        rw [e2]
        obtain ⟨cG, cL, cT, cN, hI, hW⟩ := ih K (i + 1) x bV bE bG bL bT bN (by omega) (by omega) hq hLK hLR'
        refine ⟨cG, cL, cT, cN, hI, fun post hp => hhead post 1 (fun _ => rfl) (fun y => absurd hk y) ?_⟩
        exact br_f (by decide) ⟨hin, hsi, hin, br_t (by rw [hsc, hvl]; exact z) (br_f (by decide) (nm_r (nI_1 _) (hW post hp)))⟩
      · have e2 : dc_up cv (k :: R) bV bE x = dc_up cv R (upd bV (k / 10) (cv k)) (upd bE (k / 10) (bE (k / 10) + 1)) (x ||| ((1 : Int32) <<< (nI (k / 10) &&& 31))) := if_pos ⟨hk, z⟩
        rw [e2]
        obtain ⟨cG, cL, cT, cN, hI, hW⟩ := ih K (i + 1) (x ||| ((1 : Int32) <<< (nI (k / 10) &&& 31))) (upd bV (k / 10) (cv k)) (upd bE (k / 10) (bE (k / 10) + 1)) bG bL bT bN (by omega) (by omega) hq hLK hLR'
        refine ⟨cG, cL, cT, cN, hI, fun post hp => hhead post 1 (fun _ => rfl) (fun y => absurd hk y) ?_⟩
        exact br_f (by decide) ⟨hin, hsi, hin, br_f (by rw [hsc, hvl]; exact z) ⟨hin, hin, hsi, nm_r (e' := upd bV (k / 10) (cv k)) (by rw [hsc, hvl]) ⟨hin, hsi, hsi, nm_r (e' := upd bE (k / 10) (bE (k / 10) + 1)) (by rw [hsc]) ⟨hin, nm_r (e' := x ||| ((1 : Int32) <<< (nI (k / 10) &&& 31))) (by rw [hsg]) (br_f (by decide) (nm_r (nI_1 _) (hW post hp)))⟩⟩⟩⟩
    · have hqk : dc_f0 k = true := by simp only [dc_f0, decide_eq_true_eq]; exact hk
      have e1 : K ++ [k] ++ List.filter dc_f0 R = K ++ List.filter dc_f0 (k :: R) := by
        rw [List.filter_cons_of_pos hqk, List.append_assoc]
        rfl
      have e2 : dc_up cv (k :: R) bV bE x = dc_up cv R bV bE x := if_neg (fun z => hk z.1)
      rw [e2]
      have hq2 : ∀ k', k' ∈ K ++ [k] → dc_f0 k' = true := by
        intro k' hm
        rcases List.mem_append.mp hm with e | e
        · exact hq k' e
        · rw [List.mem_singleton.mp e]; exact hqk
      have hL2 : dc_L (dc_E true t cv (upd bG K.length (bG i)) (upd bL K.length (bL i)) (upd bT K.length (bT i)) (upd bN K.length (bN i))) 0 (K ++ [k]) := by
        rw [dc_Lapp]
        refine ⟨dc_Lmono K 0 (fun i' k' _ h2 _ h4 => dc_frE (by omega) h4) hLK, ?_, True.intro⟩
        rw [Nat.zero_add]
        have h5 := dc_mvE (j := K.length) hE
        exact ⟨h5.1, h5.2.1, h5.2.2.1, h5.2.2.2.1, h5.2.2.2.2.1, fun _ z => absurd z hk⟩
      obtain ⟨cG, cL, cT, cN, hI, hW⟩ := ih (K ++ [k]) (i + 1) x bV bE (upd bG K.length (bG i)) (upd bL K.length (bL i)) (upd bT K.length (bT i)) (upd bN K.length (bN i)) (by omega) (by simp; omega) hq2 hL2 (dc_Lmono R (i + 1) (fun i' k' h1 _ _ h4 => dc_frE (by omega) h4) hLR')
      rw [e1] at hI hW
      refine ⟨cG, cL, cT, cN, hI, fun post hp => hhead post 0 (fun y => absurd y hk) (fun _ => rfl) ?_⟩
      refine br_t rfl (br_t rfl ?_)
      refine dc_moveY yP (nI c) (nI t) yD bV bE bK bD bO bC bW bG bL bT bN (by omega) (by omega) (dc_nar hE (Or.inr hk)) ?_
      refine nm_r (nI_1 _) (nm_r (nI_1 _) ?_)
      have h := hW post hp
      rw [List.length_append, List.length_singleton] at h
      exact h
theorem dc_upY {t : Nat} {b : Bool} (ht : t < 1000000000) {cv : Nat → Int32} (yP yD : Int32) (bV bE bK bD bO bC bW bG bL bT bN : Nat → Int32) {ks : List Nat} (hc : ks.length ≤ 120) (hL : dc_L (dc_E b t cv bG bL bT bN) 0 ks) : ∃ cG cL cT cN : Nat → Int32, dc_L (dc_E true t cv cG cL cT cN) 0 (ks.filter dc_f0) ∧ ∀ post : Int32 → SY → Prop, post (dc_up cv ks bV bE 0).2.2 (yP, nI (ks.filter dc_f0).length, nI t, yD, (dc_up cv ks bV bE 0).1, (dc_up cv ks bV bE 0).2.1, bK, bD, bO, bC, bW, cG, cL, cT, cN) → wpY_update post (yP, nI ks.length, nI t, yD, bV, bE, bK, bD, bO, bC, bW, bG, bL, bT, bN) (dc_bI b) := by
  obtain ⟨cG, cL, cT, cN, hI, hW⟩ := dc_up7 ht hc cv yP yD bK bD bO bC bW ks [] 0 0 bV bE bG bL bT bN (by omega) (by simp) (by simp) True.intro hL
  exact ⟨cG, cL, cT, cN, hI, fun post hp => ⟨ks.length + 1, hW post hp⟩⟩
/-! anyNext -/
theorem dc_any2 {post : Int32 → Prop} {t c : Nat} (hc : c ≤ 120) {cv : Nat → Int32} (yP yN yD : Int32) (bV bE bK bD bO bC bW bG bL bT bN : Nat → Int32) : ∀ (R : List Nat) (i : Nat), i + R.length = c → dc_L (dc_E true t cv bG bL bT bN) i R → ((∃ k, k ∈ R ∧ k % 10 = 0) → post 1) → ((∀ k, k ∈ R → k % 10 ≠ 0) → post 0) → wY_anyNext_2 post yP (nI c) yN yD bV bE bK bD bO bC bW bG bL bT bN (R.length + 1) (nI i) := by
  intro R
  induction R with
  | nil =>
    intro i hi _ _ h0
    obtain rfl : i = c := by simpa using hi
    exact br_t (nI_le (by omega) (by omega)) (h0 (by simp))
  | cons k R ih =>
    intro i hi hL h1 h0
    rw [List.length_cons] at hi
    have hcl : (nI i).toNatClampNeg = i := nI_clamp (by omega)
    have hin : vp_in (nI i) 128 := vp_in_nI (by omega) (by omega)
    refine br_f (nI_ge (by omega) (by omega)) ⟨hin, ?_⟩
    by_cases z : k % 10 = 0
    · exact br_f (by rw [hcl, hL.1.2.2.2.2.2 rfl z]; decide) (h1 ⟨k, by simp, z⟩)
    · refine br_t (by rw [hcl, hL.1.2.2.2.2.1 z]) (nm_r (nI_1 _) (ih (i + 1) (by omega) hL.2 (fun ⟨k', q1, q2⟩ => h1 ⟨k', by simp [q1], q2⟩) (fun h => h0 (fun k' hk' => ?_))))
      rcases List.mem_cons.mp hk' with e | e
      · rw [e]; exact z
      · exact h k' e
theorem dc_anyY {post : Int32 → Prop} {t : Nat} {b : Bool} {cv : Nat → Int32} (yP yN yD : Int32) (bV bE bK bD bO bC bW bG bL bT bN : Nat → Int32) {ks : List Nat} (hc : ks.length ≤ 120) (hL : dc_L (dc_E true t cv bG bL bT bN) 0 ks) (h1 : b = true → ∃ k, k ∈ ks ∧ k % 10 = 0) (h0 : b = false → ∀ k, k ∈ ks → k % 10 ≠ 0) (hp : post (dc_bI b)) : wpY_anyNext post (yP, nI ks.length, yN, yD, bV, bE, bK, bD, bO, bC, bW, bG, bL, bT, bN) := by
  refine ⟨ks.length + 1, dc_any2 hc yP yN yD bV bE bK bD bO bC bW bG bL bT bN ks 0 (by omega) hL (fun ⟨k, q1, q2⟩ => ?_) (fun h => ?_)⟩
  · cases b with
    | false => exact absurd q2 (h0 rfl k q1)
    | true => exact hp
  · cases b with
    | false => exact hp
    | true => obtain ⟨k, q1, q2⟩ := h1 rfl; exact absurd q2 (h k q1)
/-! nextTime -/
theorem dc_m5 {n : Nat} (h : n < 2 ^ 31) : ¬ nI n = -5 := by
  intro e
  have h2 : (nI n).toInt = (-5 : Int32).toInt := by rw [e]
  rw [nI_toInt h, show (-5 : Int32).toInt = -5 by decide] at h2
  omega
theorem dc_nx5 {post : Int32 → Prop} {t c w : Nat} {b : Bool} (ht : t < 1000000000) (hc : c ≤ 120) {cv : Nat → Int32} (yP yN yD : Int32) (bV bE bK bD bO bC bW bG bL bT bN : Nat → Int32) (hp : post (nI (t + w))) : ∀ (R : List Nat) (i m : Nat), i + R.length = c → m < 10 → dc_L (dc_E b t cv bG bL bT bN) i R → w ≤ m → (∀ k, k ∈ R → w ≤ k % 10) → (m = w ∨ ∃ k, k ∈ R ∧ k % 10 = w) → wY_nextTime_5 post yP (nI c) yN yD bV bE bK bD bO bC bW bG bL bT bN (R.length + 1) (nI (t + m)) (nI i) := by
  intro R
  induction R with
  | nil =>
    intro i m hi _ _ _ _ hw
    obtain rfl : i = c := by simpa using hi
    rcases hw with e | ⟨k, q, _⟩
    · rw [e]
      exact br_t (nI_le (by omega) (by omega)) hp
    · simp at q
  | cons k R ih =>
    intro i m hi hm hL hwm hwR hw
    rw [List.length_cons] at hi
    have hcl : (nI i).toNatClampNeg = i := nI_clamp (by omega)
    have hin : vp_in (nI i) 128 := vp_in_nI (by omega) (by omega)
    have hk := hwR k (by simp)
    refine br_f (nI_ge (by omega) (by omega)) (br_f (dc_m5 (by omega)) ⟨hin, ?_⟩)
    refine pk_le (t + m) (t + k % 10) (fun z => nm_r (nI_1 _) (ih (i + 1) m (by omega) hm hL.2 hwm (fun k' q => hwR k' (by simp [q])) ?_)) (fun z => ⟨hin, nm_r (e' := nI (t + k % 10)) (by rw [hcl, hL.1.2.2.1]) (nm_r (nI_1 _) (ih (i + 1) (k % 10) (by omega) (by omega) hL.2 hk (fun k' q => hwR k' (by simp [q])) ?_))⟩) rfl (by rw [hcl, hL.1.2.2.1])
    · rcases hw with e | ⟨k', q1, q2⟩
      · exact Or.inl e
      · rcases List.mem_cons.mp q1 with e | e
        · subst e; exact Or.inl (by omega)
        · exact Or.inr ⟨k', e, q2⟩
    · rcases hw with e | ⟨k', q1, q2⟩
      · exact absurd hk (by omega)
      · rcases List.mem_cons.mp q1 with e | e
        · subst e; exact Or.inl q2
        · exact Or.inr ⟨k', e, q2⟩
theorem dc_nxY {post : Int32 → Prop} {t w : Nat} {b : Bool} (ht : t < 1000000000) {cv : Nat → Int32} (yP yN yD : Int32) (bV bE bK bD bO bC bW bG bL bT bN : Nat → Int32) {ks : List Nat} (hc : ks.length ≤ 120) (hL : dc_L (dc_E b t cv bG bL bT bN) 0 ks) (hw : ∀ k, k ∈ ks → w ≤ k % 10) (hx : ∃ k, k ∈ ks ∧ k % 10 = w) (hp : post (nI (t + w))) : wpY_nextTime post (yP, nI ks.length, yN, yD, bV, bE, bK, bD, bO, bC, bW, bG, bL, bT, bN) := by
  refine ⟨ks.length + 1, ?_⟩
  cases ks with
  | nil => obtain ⟨k, q, _⟩ := hx; simp at q
  | cons k R =>
    rw [List.length_cons] at hc ⊢
    refine br_f (nI_ge (a := 0) (by omega) (by omega)) (br_t rfl ⟨vp_in_nI (n := 0) (by omega) (by omega), nm_r (e' := nI (t + k % 10)) hL.1.2.2.1 (nm_r (nI_1 0) (dc_nx5 ht hc yP yN yD bV bE bK bD bO bC bW bG bL bT bN hp R (0 + 1) (k % 10) (by omega) (by omega) hL.2 (hw k (by simp)) (fun k' q => hw k' (by simp [q])) ?_))⟩)
    obtain ⟨k', q1, q2⟩ := hx
    rcases List.mem_cons.mp q1 with e | e
    · subst e; exact Or.inl q2
    · exact Or.inr ⟨k', e, q2⟩
theorem dc_nxY0 {post : Int32 → Prop} (yP yN yD : Int32) (bV bE bK bD bO bC bW bG bL bT bN : Nat → Int32) (hp : post (-5)) : wpY_nextTime post (yP, 0, yN, yD, bV, bE, bK, bD, bO, bC, bW, bG, bL, bT, bN) := ⟨1, br_t (by decide) hp⟩
/-! coming -/
theorem dc_cmN {post : Int32 → Prop} {t c : Nat} {b : Bool} (hc : c ≤ 120) {cv : Nat → Int32} {x1 : Int32} (yP yN yD : Int32) (bV bE bK bD bO bC bW bG bL bT bN : Nat → Int32) (hp : post 0) : ∀ (R : List Nat) (i : Nat), i + R.length = c → dc_L (dc_E b t cv bG bL bT bN) i R → (∀ k, k ∈ R → nI (k / 10) ≠ x1) → wY_coming_4 post x1 yP (nI c) yN yD bV bE bK bD bO bC bW bG bL bT bN (R.length + 1) (-1) (nI i) := by
  intro R
  induction R with
  | nil =>
    intro i hi _ _
    obtain rfl : i = c := by simpa using hi
    exact br_t (nI_le (by omega) (by omega)) (br_f (by decide) hp)
  | cons k R ih =>
    intro i hi hL hn
    rw [List.length_cons] at hi
    have hcl : (nI i).toNatClampNeg = i := nI_clamp (by omega)
    have hin : vp_in (nI i) 128 := vp_in_nI (by omega) (by omega)
    exact br_f (nI_ge (by omega) (by omega)) ⟨hin, br_f (by rw [hcl, hL.1.2.1]; exact hn k (by simp)) (nm_r (nI_1 _) (ih (i + 1) (by omega) hL.2 (fun k' q => hn k' (by simp [q]))))⟩
theorem dc_cmS {post : Int32 → Prop} {t c s w : Nat} {b : Bool} (ht : t < 1000000000) (hs : s < 12) (hw : w < 10) (hc : c ≤ 120) {cv : Nat → Int32} (yP yN yD : Int32) (bV bE bK bD bO bC bW bG bL bT bN : Nat → Int32) (hp : post (cv (s * 10 + w))) : ∀ (R : List Nat) (i j m : Nat), i + R.length = c → j < c → m < 10 → dc_E b t cv bG bL bT bN j (s * 10 + m) → dc_L (dc_E b t cv bG bL bT bN) i R → w ≤ m → (∀ k, k ∈ R → k / 10 = s → w ≤ k % 10) → (m = w ∨ s * 10 + w ∈ R) → wY_coming_4 post (nI s) yP (nI c) yN yD bV bE bK bD bO bC bW bG bL bT bN (R.length + 1) (nI j) (nI i) := by
  intro R
  induction R with
  | nil =>
    intro i j m hi hj hm hE _ _ _ hx
    obtain rfl : i = c := by simpa using hi
    rcases hx with e | q
    · refine br_t (nI_le (by omega) (by omega)) (br_t (nI_pos' (by omega)) ⟨vp_in_nI (by omega) (by omega), ?_⟩)
      rw [nI_clamp (by omega), hE.2.2.2.1, e]
      exact hp
    · simp at q
  | cons k R ih =>
    intro i j m hi hj hm hE hL hwm hwR hx
    rw [List.length_cons] at hi
    have hcl : (nI i).toNatClampNeg = i := nI_clamp (by omega)
    have hcj : (nI j).toNatClampNeg = j := nI_clamp (by omega)
    have hin : vp_in (nI i) 128 := vp_in_nI (by omega) (by omega)
    have hjn : vp_in (nI j) 128 := vp_in_nI (by omega) (by omega)
    have hk120 : k < 120 := hL.1.1
    refine br_f (nI_ge (by omega) (by omega)) ⟨hin, ?_⟩
    refine pk_eq (k / 10) s (fun z => br_f (nI_pos (by omega)) ⟨hin, hjn, ?_⟩) (fun z => nm_r (nI_1 _) (ih (i + 1) j m (by omega) hj hm hE hL.2 hwm (fun k' q => hwR k' (by simp [q])) ?_)) (by rw [hcl, hL.1.2.1])
    · have hk := hwR k (by simp) z
      have hkk : k = s * 10 + k % 10 := by omega
      refine pk_le (t + m) (t + k % 10) (fun y => nm_r (nI_1 _) (ih (i + 1) j m (by omega) hj hm hE hL.2 hwm (fun k' q => hwR k' (by simp [q])) ?_)) (fun y => nm_r (nI_1 _) (ih (i + 1) i (k % 10) (by omega) (by omega) (by omega) (by rw [← hkk]; exact hL.1) hL.2 hk (fun k' q => hwR k' (by simp [q])) ?_)) (by rw [hcj, hE.2.2.1, show (s * 10 + m) % 10 = m by omega]) (by rw [hcl, hL.1.2.2.1])
      · rcases hx with e | q
        · exact Or.inl e
        · rcases List.mem_cons.mp q with e | e
          · exact Or.inl (by omega)
          · exact Or.inr e
      · rcases hx with e | q
        · exact absurd hk (by omega)
        · rcases List.mem_cons.mp q with e | e
          · exact Or.inl (by omega)
          · exact Or.inr e
    · rcases hx with e | q
      · exact Or.inl e
      · rcases List.mem_cons.mp q with e | e
        · exact absurd z (by omega)
        · exact Or.inr e
theorem dc_cmF {post : Int32 → Prop} {t c s w : Nat} {b : Bool} (ht : t < 1000000000) (hs : s < 12) (hw : w < 10) (hc : c ≤ 120) {cv : Nat → Int32} (yP yN yD : Int32) (bV bE bK bD bO bC bW bG bL bT bN : Nat → Int32) (hp : post (cv (s * 10 + w))) : ∀ (R : List Nat) (i : Nat), i + R.length = c → dc_L (dc_E b t cv bG bL bT bN) i R → (∀ k, k ∈ R → k / 10 = s → w ≤ k % 10) → s * 10 + w ∈ R → wY_coming_4 post (nI s) yP (nI c) yN yD bV bE bK bD bO bC bW bG bL bT bN (R.length + 1) (-1) (nI i) := by
  intro R
  induction R with
  | nil => intro i _ _ _ q; simp at q
  | cons k R ih =>
    intro i hi hL hwR hx
    rw [List.length_cons] at hi
    have hcl : (nI i).toNatClampNeg = i := nI_clamp (by omega)
    have hin : vp_in (nI i) 128 := vp_in_nI (by omega) (by omega)
    have hk120 : k < 120 := hL.1.1
    refine br_f (nI_ge (by omega) (by omega)) ⟨hin, ?_⟩
    refine pk_eq (k / 10) s (fun z => br_t (by decide) (nm_r (nI_1 _) ?_)) (fun z => nm_r (nI_1 _) (ih (i + 1) (by omega) hL.2 (fun k' q => hwR k' (by simp [q])) ?_)) (by rw [hcl, hL.1.2.1])
    · have hk := hwR k (by simp) z
      have hkk : k = s * 10 + k % 10 := by omega
      refine dc_cmS ht hs hw hc yP yN yD bV bE bK bD bO bC bW bG bL bT bN hp R (i + 1) i (k % 10) (by omega) (by omega) (by omega) (by rw [← hkk]; exact hL.1) hL.2 hk (fun k' q => hwR k' (by simp [q])) ?_
      rcases List.mem_cons.mp hx with e | e
      · exact Or.inl (by omega)
      · exact Or.inr e
    · rcases List.mem_cons.mp hx with e | e
      · exact absurd z (by omega)
      · exact e
/-! coming of the component -/
theorem dc_cmX {post : Int32 → Prop} {s : Nat} (hs : s < 12) (cP nX cD : Int32) (aE aV aS aN aK aD aX aY aZ aT aC aW : Nat → Int32) : ∀ (e d : Nat), d + e = 10 → (∀ w, d ≤ w → w < 10 → aE (s * 10 + w) ≠ 0 → (∀ d', d ≤ d' → d' < w → aE (s * 10 + d') = 0) → post (aV (s * 10 + w))) → ((∀ d', d ≤ d' → d' < 10 → aE (s * 10 + d') = 0) → post 0) → wX_coming_11 post (nI s) cP nX cD aE aV aS aN aK aD aX aY aZ aT aC aW (e + 1) (nI d) := by
  intro e
  induction e with
  | zero =>
    intro d hd _ h0
    obtain rfl : d = 10 := by omega
    exact br_t (nI_le (a := 10) (b := 10) (by omega) (by decide)) (h0 (fun d' h1 h2 => absurd h1 (by omega)))
  | succ e ih =>
    intro d hd h1 h0
    have hcl : (nI (s * 10 + d)).toNatClampNeg = s * 10 + d := nI_clamp (by omega)
    have hin : vp_in (nI (s * 10 + d)) 120 := vp_in_nI (by omega) (by omega)
    refine br_f (nI_ge (a := d) (b := 10) (by omega) (by decide)) (nm_r (dc_ix s d) ⟨hin, ?_⟩)
    by_cases z : aE (s * 10 + d) = 0
    · refine br_t (by rw [hcl]; exact z) (nm_r (nI_1 d) (ih (d + 1) (by omega) (fun w q1 q2 q3 q4 => h1 w (by omega) q2 q3 (fun d' g1 g2 => ?_)) (fun h => h0 (fun d' g1 g2 => ?_))))
      · by_cases g : d' = d
        · rw [g]; exact z
        · exact q4 d' (by omega) g2
      · by_cases g : d' = d
        · rw [g]; exact z
        · exact h d' (by omega) g2
    · refine br_f (by rw [hcl]; exact z) ⟨hin, ?_⟩
      rw [hcl]
      exact h1 d (by omega) (by omega) z (fun d' g1 g2 => absurd g1 (by omega))
