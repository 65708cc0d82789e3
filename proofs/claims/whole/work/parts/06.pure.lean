/-! the two pictures of the pending changes -/
/-- the flags that are set are those of the keys in the list -/
def dc_P (ks : List Nat) (a : Nat → Int32) : Prop := ks.Nodup ∧ (∀ k, k ∈ ks → k < 120) ∧ ∀ k, k < 120 → (a k ≠ 0 ↔ k ∈ ks)
theorem dc_cnt0 (a : Nat → Int32) : ∀ n, (∀ k, k < n → a k = 0) → dc_cnt a n = 0 := by
  intro n
  induction n with
  | zero => intro _; rfl
  | succ n ih =>
    intro h
    show dc_cnt a n + _ = 0
    rw [ih (fun k hk => h k (by omega)), if_pos (h n (by omega))]
theorem dc_cntU (a : Nat → Int32) (x : Nat) : ∀ n, n ≤ x → dc_cnt (upd a x 0) n = dc_cnt a n := by
  intro n
  induction n with
  | zero => intro _; rfl
  | succ n ih =>
    intro h
    show dc_cnt (upd a x 0) n + _ = dc_cnt a n + _
    rw [ih (by omega), pk_un (by omega)]
theorem dc_cntV (a : Nat → Int32) (x : Nat) (hx : a x ≠ 0) : ∀ n, x < n → dc_cnt a n = dc_cnt (upd a x 0) n + 1 := by
  intro n
  induction n with
  | zero => intro h; omega
  | succ n ih =>
    intro h
    show dc_cnt a n + _ = dc_cnt (upd a x 0) n + _ + 1
    by_cases e : n = x
    · subst e
      rw [dc_cntU a n n (Nat.le_refl _), pk_us, if_neg hx, if_pos rfl]
    · rw [ih (by omega), pk_un e]
      omega
theorem dc_cntL : ∀ (ks : List Nat) (a : Nat → Int32), ks.Nodup → (∀ k, k ∈ ks → k < 120) → (∀ k, k < 120 → (a k ≠ 0 ↔ k ∈ ks)) → dc_cnt a 120 = ks.length := by
  intro ks
  induction ks with
  | nil =>
    intro a _ _ h
    exact dc_cnt0 a 120 (fun k hk => Classical.byContradiction (fun q => absurd ((h k hk).mp q) (by simp)))
  | cons x r ih =>
    intro a hn hl h
    have hn2 := List.nodup_cons.mp hn
    have hx := hl x (by simp)
    rw [dc_cntV a x ((h x hx).mpr (by simp)) 120 hx, List.length_cons, ih (upd a x 0) hn2.2 (fun k q => hl k (by simp [q])) ?_]
    intro k hk
    by_cases e : k = x
    · subst e
      rw [pk_us]
      exact ⟨fun q => absurd rfl q, fun q => absurd q hn2.1⟩
    · rw [pk_un e, h k hk, List.mem_cons]
      exact ⟨fun q => q.resolve_left e, Or.inr⟩
theorem dc_cntP {ks : List Nat} {a : Nat → Int32} (h : dc_P ks a) : dc_cnt a 120 = ks.length := dc_cntL ks a h.1 h.2.1 h.2.2
theorem dc_cntle (a : Nat → Int32) : ∀ n, dc_cnt a n ≤ n := by
  intro n
  induction n with
  | zero => exact Nat.le_refl _
  | succ n ih =>
    show dc_cnt a n + _ ≤ n + 1
    split <;> omega
theorem dc_len {ks : List Nat} {a : Nat → Int32} (h : dc_P ks a) : ks.length ≤ 120 := by
  rw [← dc_cntP h]
  exact dc_cntle a 120
theorem dc_Pput {ks : List Nat} {a : Nat → Int32} {s d : Nat} (hs : s < 12) (hd : d < 10) (h : dc_P ks a) : dc_P (ks.filter (dc_q s d) ++ [s * 10 + d]) (upd (dc_out a s d) (s * 10 + d) 1) := by
  obtain ⟨h1, h2, h3⟩ := h
  refine ⟨?_, ?_, ?_⟩
  · rw [List.nodup_append]
    refine ⟨List.Pairwise.filter _ h1, by simp, ?_⟩
    intro x hx y hy e
    rw [List.mem_singleton] at hy
    have hq := (List.mem_filter.mp hx).2
    simp only [dc_q, decide_eq_true_eq] at hq
    omega
  · intro k hk
    rcases List.mem_append.mp hk with e | e
    · exact h2 k (List.mem_filter.mp e).1
    · rw [List.mem_singleton.mp e]; omega
  · intro k hk
    rw [List.mem_append, List.mem_filter, List.mem_singleton]
    by_cases e : k = s * 10 + d
    · rw [e, pk_us]
      exact ⟨fun _ => Or.inr rfl, fun _ => by decide⟩
    · rw [pk_un e]
      unfold dc_out
      simp only [dc_q, decide_eq_true_eq]
      by_cases g : s * 10 + d ≤ k ∧ k < s * 10 + 10
      · rw [if_pos g]
        exact ⟨fun q => absurd rfl q, fun q => by rcases q with q | q; exact absurd g q.2; exact absurd q e⟩
      · rw [if_neg g, h3 k hk]
        exact ⟨fun q => Or.inl ⟨q, g⟩, fun q => by rcases q with q | q; exact q.1; exact absurd q e⟩
theorem dc_ndmap (w : Nat) : ∀ ks : List Nat, ks.Nodup → (∀ k, k ∈ ks → w ≤ k) → (ks.map (fun k => k - w)).Nodup := by
  intro ks
  induction ks with
  | nil => intro _ _; simp
  | cons x r ih =>
    intro hn hw
    have hn2 := List.nodup_cons.mp hn
    rw [List.map_cons, List.nodup_cons]
    refine ⟨fun q => ?_, ih hn2.2 (fun k q => hw k (by simp [q]))⟩
    obtain ⟨y, hy, e⟩ := List.mem_map.mp q
    have g1 := hw x (by simp)
    have g2 := hw y (by simp [hy])
    have : y = x := by omega
    subst this
    exact hn2.1 hy
theorem dc_Pgo {ks : List Nat} {a : Nat → Int32} {w : Nat} (hw : ∀ k, k ∈ ks → w ≤ k % 10) (h : dc_P ks a) : dc_P (ks.map (fun k => k - w)) (dc_gE a w 120) := by
  obtain ⟨h1, h2, h3⟩ := h
  refine ⟨dc_ndmap w ks h1 (fun k hk => ?_), ?_, ?_⟩
  · have := hw k hk
    omega
  · intro k hk
    obtain ⟨y, hy, e⟩ := List.mem_map.mp hk
    have := h2 y hy
    omega
  · intro k hk
    have e : dc_gE a w 120 k = if k % 10 + w < 10 ∧ a (k + w) ≠ 0 then 1 else 0 := if_pos hk
    rw [e, List.mem_map]
    by_cases g : k % 10 + w < 10 ∧ a (k + w) ≠ 0
    · rw [if_pos g]
      exact ⟨fun _ => ⟨k + w, (h3 (k + w) (by omega)).mp g.2, by omega⟩, fun _ => by decide⟩
    · rw [if_neg g]
      refine ⟨fun q => absurd rfl q, fun ⟨y, hy, e2⟩ => absurd ?_ g⟩
      have g1 := hw y hy
      have g2 := h2 y hy
      have g3 : k + w = y := by omega
      rw [g3]
      exact ⟨by omega, (h3 y g2).mpr hy⟩
theorem dc_Ego {ks : List Nat} {a cv bG bL bT bN : Nat → Int32} {t w : Nat} (hw : ∀ k, k ∈ ks → w ≤ k % 10) (h : dc_P ks a) (hL : dc_L (dc_E true t cv bG bL bT bN) 0 ks) : dc_L (dc_E (decide (w = 0)) (t + w) (dc_gV a cv w 120) bG bL bT bN) 0 (ks.map (fun k => k - w)) := by
  refine dc_Lmap _ ks 0 (fun i k hk hE => ?_) hL
  obtain ⟨q1, q2, q3, q4, q5, q6⟩ := hE
  have g := hw k hk
  have m1 : (k - w) % 10 = k % 10 - w := by omega
  have m2 : (k - w) / 10 = k / 10 := by omega
  have m3 : k - w + w = k := by omega
  refine ⟨by omega, by rw [m2]; exact q2, by rw [q3, m1]; exact congrArg nI (by omega), ?_, fun z => q5 (by omega), fun z y => q6 rfl ?_⟩
  · have e : dc_gV a cv w 120 (k - w) = cv (k - w + w) := if_pos ⟨by omega, by omega, by rw [m3]; exact (h.2.2 k q1).mpr hk⟩
    rw [e, m3, q4]
  · have := of_decide_eq_true z
    omega
theorem dc_Ptk {ks : List Nat} {a : Nat → Int32} (h : dc_P ks a) : dc_P (ks.filter dc_f0) (dc_tE a 12) := by
  obtain ⟨h1, h2, h3⟩ := h
  refine ⟨List.Pairwise.filter _ h1, fun k hk => h2 k (List.mem_filter.mp hk).1, fun k hk => ?_⟩
  rw [List.mem_filter]
  simp only [dc_f0, decide_eq_true_eq, dc_tE]
  by_cases g : k % 10 = 0
  · rw [if_pos ⟨by omega, g⟩]
    exact ⟨fun q => absurd rfl q, fun q => absurd g q.2⟩
  · rw [if_neg (fun q => g q.2), h3 k hk]
    exact ⟨fun q => ⟨q, g⟩, fun q => q.1⟩
/-! the new values, by both sides -/
theorem dc_b1 : ∀ n, n < 32 → ∀ i, i < 32 → bt ((1 : Int32) <<< (nI n &&& 31)) i = decide (i = n) := by decide +kernel
theorem dc_upS (cv : Nat → Int32) : ∀ (R : List Nat) (v e : Nat → Int32) (x : Int32), (∀ k, k ∈ R → k < 120) →
    (∀ j, (dc_up cv R v e x).1 j = if j * 10 ∈ R then cv (j * 10) else v j) ∧
    (∀ j, (dc_up cv R v e x).2.1 j = if j * 10 ∈ R ∧ v j ≠ cv (j * 10) then e j + 1 else e j) ∧
    (∀ b, b < 32 → bt (dc_up cv R v e x).2.2 b = (bt x b || decide (b * 10 ∈ R ∧ v b ≠ cv (b * 10)))) := by
  intro R
  induction R with
  | nil =>
    intro v e x _
    refine ⟨fun j => ?_, fun j => ?_, fun b _ => ?_⟩
    · rw [if_neg (by simp)]; rfl
    · rw [if_neg (by simp)]; rfl
    · rw [decide_eq_false (by simp), Bool.or_false]; rfl
  | cons k R ih =>
    intro v e x hl
    have hk := hl k (by simp)
    by_cases g : k % 10 = 0 ∧ v (k / 10) ≠ cv k
    · have e2 : dc_up cv (k :: R) v e x = dc_up cv R (upd v (k / 10) (cv k)) (upd e (k / 10) (e (k / 10) + 1)) (x ||| ((1 : Int32) <<< (nI (k / 10) &&& 31))) := if_pos g
      rw [e2]
      obtain ⟨i1, i2, i3⟩ := ih (upd v (k / 10) (cv k)) (upd e (k / 10) (e (k / 10) + 1)) (x ||| ((1 : Int32) <<< (nI (k / 10) &&& 31))) (fun k' q => hl k' (by simp [q]))
      obtain ⟨n, rfl⟩ : ∃ n, k = n * 10 := ⟨k / 10, by omega⟩
      have hn : n * 10 / 10 = n := by omega
      rw [hn] at i1 i2 i3 g ⊢
      refine ⟨fun j => ?_, fun j => ?_, fun b hb => ?_⟩
      · rw [i1]
        by_cases q : j = n
        · subst q
          rw [pk_us, if_pos (show j * 10 ∈ j * 10 :: R by simp)]
          split <;> rfl
        · have q2 : j * 10 ≠ n * 10 := by omega
          rw [pk_un q]
          simp only [List.mem_cons, q2, false_or]
      · rw [i2]
        by_cases q : j = n
        · subst q
          rw [pk_us, pk_us, if_neg (fun z => z.2 rfl), if_pos ⟨by simp, g.2⟩]
        · have q2 : j * 10 ≠ n * 10 := by omega
          rw [pk_un q, pk_un q]
          simp only [List.mem_cons, q2, false_or]
      · rw [i3 b hb, b_or, dc_b1 n (by omega) b hb]
        by_cases q : b = n
        · subst q
          rw [pk_us, decide_eq_true rfl, Bool.or_true, Bool.true_or, decide_eq_true (⟨by simp, g.2⟩ : b * 10 ∈ b * 10 :: R ∧ v b ≠ cv (b * 10)), Bool.or_true]
        · have q2 : b * 10 ≠ n * 10 := by omega
          rw [pk_un q, decide_eq_false q, Bool.or_false]
          simp only [List.mem_cons, q2, false_or]
    · have e2 : dc_up cv (k :: R) v e x = dc_up cv R v e x := if_neg g
      rw [e2]
      obtain ⟨i1, i2, i3⟩ := ih v e x (fun k' q => hl k' (by simp [q]))
      have hx : ∀ j, j * 10 = k → v j = cv (j * 10) := by
        intro j ej
        have : k / 10 = j := by omega
        rw [ej]
        exact Classical.byContradiction (fun q => g ⟨by omega, by rw [this]; exact q⟩)
      have hy : ∀ j, (j * 10 ∈ k :: R ∧ v j ≠ cv (j * 10)) ↔ (j * 10 ∈ R ∧ v j ≠ cv (j * 10)) := by
        intro j
        rw [List.mem_cons]
        exact ⟨fun q => ⟨q.1.resolve_left (fun z => q.2 (hx j z)), q.2⟩, fun q => ⟨Or.inr q.1, q.2⟩⟩
      refine ⟨fun j => ?_, fun j => ?_, fun b hb => ?_⟩
      · rw [i1]
        by_cases q : j * 10 = k
        · rw [if_pos (show j * 10 ∈ k :: R by simp [q])]
          split
          · rfl
          · exact hx j q
        · simp only [List.mem_cons, q, false_or]
      · rw [i2]
        simp only [hy]
      · rw [i3 b hb]
        simp only [hy]
theorem dc_tCb (a v s : Nat → Int32) : ∀ n, n ≤ 32 → ∀ b, b < 32 → bt (dc_tC a v s n) b = decide (b < n ∧ a (b * 10) ≠ 0 ∧ s b ≠ v (b * 10)) := by
  intro n
  induction n with
  | zero =>
    intro _ b _
    rw [decide_eq_false (fun z => absurd z.1 (by omega))]
    exact b_0 b
  | succ n ih =>
    intro hn b hb
    have i1 := ih (by omega) b hb
    by_cases g : a (n * 10) ≠ 0 ∧ s n ≠ v (n * 10)
    · have e : dc_tC a v s (n + 1) = dc_tC a v s n ||| ((1 : Int32) <<< (nI n &&& 31)) := if_pos g
      rw [e, b_or, i1, dc_b1 n (by omega) b hb]
      by_cases q : b = n
      · subst q
        rw [decide_eq_true (rfl : b = b), Bool.or_true, decide_eq_true (⟨by omega, g⟩ : b < b + 1 ∧ a (b * 10) ≠ 0 ∧ s b ≠ v (b * 10))]
      · rw [decide_eq_false q, Bool.or_false]
        simp only [dc_ltS q]
    · have e : dc_tC a v s (n + 1) = dc_tC a v s n := if_neg g
      rw [e, i1]
      by_cases q : b = n
      · subst q
        rw [decide_eq_false (fun z => g z.2), decide_eq_false (fun z => g z.2)]
      · simp only [dc_ltS q]
theorem dc_upEq {ks : List Nat} {a : Nat → Int32} (v s g : Nat → Int32) (h : dc_P ks a) : dc_up v ks s g 0 = (dc_tS a v s 12, dc_tN a v s g 12, dc_tC a v s 12) := by
  obtain ⟨h1, h2, h3⟩ := h
  have hM : ∀ j, j * 10 ∈ ks ↔ (j < 12 ∧ a (j * 10) ≠ 0) := by
    intro j
    constructor
    · intro q
      have := h2 _ q
      exact ⟨by omega, (h3 _ this).mpr q⟩
    · intro q
      exact (h3 (j * 10) (by omega)).mp q.2
  obtain ⟨i1, i2, i3⟩ := dc_upS v ks s g 0 h2
  have e1 : (dc_up v ks s g 0).1 = dc_tS a v s 12 := by
    funext j
    rw [i1]
    simp only [hM, dc_tS]
  have e2 : (dc_up v ks s g 0).2.1 = dc_tN a v s g 12 := by
    funext j
    rw [i2]
    simp only [hM, dc_tN, and_assoc]
  have e3 : (dc_up v ks s g 0).2.2 = dc_tC a v s 12 := by
    apply b_ext
    intro b hb
    rw [i3 b hb, dc_tCb a v s 12 (by omega) b hb, b_0, Bool.false_or]
    simp only [hM, and_assoc]
  rw [← e1, ← e2, ← e3]
/-! watching -/
theorem dc_4095 : ∀ i, i < 32 → bt 4095 i = decide (i < 12) := by decide +kernel
theorem dc_watch (W x : Int32) (hx : ∀ b, b < 32 → 12 ≤ b → bt x b = false) : (W &&& 4095) &&& x = W &&& x := by
  apply b_ext
  intro i hi
  rw [b_and, b_and, b_and, dc_4095 i hi]
  by_cases g : i < 12
  · rw [decide_eq_true g, Bool.and_true]
  · rw [hx i hi (by omega), Bool.and_false, Bool.and_false]
theorem dc_tChi (a v s : Nat → Int32) : ∀ b, b < 32 → 12 ≤ b → bt (dc_tC a v s 12) b = false := by
  intro b hb h
  rw [dc_tCb a v s 12 (by omega) b hb]
  exact decide_eq_false (fun z => absurd z.1 (by omega))
/-! the operands packed in one int -/
theorem dc_15 : ∀ i, i < 32 → bt 15 i = decide (i < 4) := by decide +kernel
theorem dc_op0 (x : Int32) : (x &&& 65535) &&& 15 = x &&& 15 := by
  apply b_ext
  intro i hi
  rw [b_and, b_and, b_and, b_65535, dc_15 i hi]
  by_cases g : i < 4
  · rw [decide_eq_true g, decide_eq_true (show i < 16 by omega), Bool.and_true]
  · rw [decide_eq_false g, Bool.and_false, Bool.and_false]
theorem dc_opn (x : Int32) (n : Nat) (hn : n ≤ 12) : ((x &&& 65535) >>> (nI n &&& 31)) &&& 15 = (x >>> (nI n &&& 31)) &&& 15 := by
  apply b_ext
  intro i hi
  rw [b_and, b_and, dc_15 i hi, b_sshr n (by omega) _ hi, b_sshr n (by omega) _ hi]
  by_cases g : i < 4
  · rw [if_pos (by omega), if_pos (by omega), b_and, b_65535, decide_eq_true (show n + i < 16 by omega), Bool.and_true]
  · rw [decide_eq_false g, Bool.and_false, Bool.and_false]
theorem dc_op12 (x : Int32) : (x &&& 65535) >>> (nI 12 &&& 31) = (x >>> (nI 12 &&& 31)) &&& 15 := by
  apply b_ext
  intro i hi
  rw [b_and, dc_15 i hi, b_sshr 12 (by omega) _ hi, b_sshr 12 (by omega) _ hi]
  by_cases g : i < 4
  · rw [if_pos (by omega), if_pos (by omega), b_and, b_65535, decide_eq_true (show 12 + i < 16 by omega), decide_eq_true g]
  · rw [decide_eq_false g, Bool.and_false]
    by_cases g2 : 12 + i < 32
    · rw [if_pos g2, b_and, b_65535, decide_eq_false (show ¬ 12 + i < 16 by omega), Bool.and_false]
    · rw [if_neg g2, b_and, b_65535, decide_eq_false (show ¬ 31 < 16 by omega), Bool.and_false]
