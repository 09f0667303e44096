/-! ===== PURE 18: counts; windows, order, turn ===== -/
theorem cntZ_mon {p : Nat → Bool} {m n : Nat} (h : m ≤ n) : cntZ p m ≤ cntZ p n := by
  induction n with
  | zero => have : m = 0 := by omega
            subst this; exact Nat.le_refl _
  | succ n ih =>
    rw [cntZ_succ]
    rcases Nat.lt_or_ge m (n + 1) with q | q
    · have := ih (by omega)
      omega
    · have e : m = n + 1 := by omega
      subst e
      rw [cntZ_succ]
      exact Nat.le_refl _
theorem cntZ_ltn {p : Nat → Bool} {k n : Nat} (hk : k < n) (hp : p k = true) : cntZ p k < cntZ p n := by
  have h1 : cntZ p (k + 1) ≤ cntZ p n := cntZ_mon hk
  rw [cntZ_succ, if_pos hp] at h1
  omega
theorem cntZ_or {p q r : Nat → Bool} {n : Nat} (h : ∀ i, i < n → r i = (p i || q i)) (hd : ∀ i, i < n → (p i && q i) = false) : cntZ r n = cntZ p n + cntZ q n := by
  unfold cntZ
  rw [← sumZ_add]
  refine sumZ_congr fun i hi => ?_
  have h1 := h i hi
  have h2 := hd i hi
  show (if r i = true then 1 else 0) = (if p i = true then 1 else 0) + (if q i = true then 1 else 0)
  rw [h1]
  revert h2
  cases p i <;> cases q i <;> intro h2
  · rfl
  · rfl
  · rfl
  · exact absurd h2 (by decide)
theorem cntZ_sub {p q : Nat → Bool} {n : Nat} (h : ∀ i, i < n → p i = true → q i = true) : cntZ p n ≤ cntZ q n := by
  refine sumZ_mono fun i hi => ?_
  show (if p i = true then 1 else 0) ≤ if q i = true then 1 else 0
  cases hp : p i
  · rw [bF]; exact Nat.zero_le _
  · rw [h i hi hp]; exact Nat.le_refl _
theorem cntZ_0 {p : Nat → Bool} {n : Nat} (h : ∀ i, i < n → p i = false) : cntZ p n = 0 := by
  unfold cntZ
  rw [sumZ_congr (g := fun _ => 0) (fun i hi => by rw [h i hi]; rfl), sumZ_zero]
theorem cntZ_ex {p : Nat → Bool} {n : Nat} (h : cntZ p n ≠ 0) : ∃ k, k < n ∧ p k = true := by
  induction n with
  | zero => exact absurd rfl h
  | succ n ih =>
    by_cases q : cntZ p n = 0
    · rw [cntZ_succ, q] at h
      cases hp : p n
      · rw [hp] at h; exact absurd rfl h
      · exact ⟨n, by omega, hp⟩
    · obtain ⟨k, h1, h2⟩ := ih q
      exact ⟨k, by omega, h2⟩
theorem cntZ_1 {p : Nat → Bool} {n k : Nat} (hk : k < n) (hp : p k = true) (hu : ∀ i, i < n → p i = true → i = k) : cntZ p n = 1 := by
  unfold cntZ
  refine Eq.trans (sumZ_congr fun i hi => ?_) (sumZ_one hk 1)
  by_cases q : i = k
  · rw [if_pos q, q, if_pos hp]
  · rw [if_neg q, if_neg (fun z => q (hu i hi z))]
theorem cntZ_slt {p q : Nat → Bool} {n k : Nat} (h : ∀ i, i < n → p i = true → q i = true) (hk : k < n) (hq : q k = true) (hp : p k = false) : cntZ p n < cntZ q n := by
  have h1 : cntZ (fun i => p i || (i == k)) n = cntZ p n + cntZ (fun i => i == k) n := cntZ_or (fun _ _ => rfl) (fun i hi => by
    by_cases z : i = k
    · subst z; rw [hp]; rfl
    · rw [show (i == k) = false from by simpa using z, Bool.and_false])
  have h2 : cntZ (fun i => i == k) n = 1 := cntZ_1 hk (by simp) (fun i _ z => by simpa using z)
  have h3 : cntZ (fun i => p i || (i == k)) n ≤ cntZ q n := cntZ_sub (fun i hi z => by
    rw [Bool.or_eq_true] at z
    rcases z with z | z
    · exact h i hi z
    · have : i = k := by simpa using z
      rw [this]; exact hq)
  omega
/-! values of windows, and how many lie below -/
/-- no window ahead has its sum -/
def fzB (Q s : Nat → Nat) (v : Nat) : Bool := decide (cntZ (fun u => lies Q u && (s u == s v)) v = 0)
def lqN (Q s : Nat → Nat) (m : Nat) : Nat := cntZ (fun v => (lies Q v && decide (s v < m)) && fzB Q s v) 80
def uqN (Q s : Nat → Nat) : Nat := cntZ (fun v => lies Q v && fzB Q s v) 80
def ltN (Q s : Nat → Nat) (m : Nat) : Nat := cntZ (fun v => lies Q v && decide (s v < m)) 80
def eqN (Q s : Nat → Nat) (m : Nat) : Nat := cntZ (fun v => lies Q v && (s v == m)) 80
def ValZ (Q s : Nat → Nat) (m : Nat) : Prop := ∃ a, a < 80 ∧ lies Q a = true ∧ s a = m
def AbvN (Q s : Nat → Nat) (t n : Nat) (r : Int32) : Prop := (r = -nI 1 ∧ ∀ a, a < n → lies Q a = true → s a < t) ∨ ∃ m, r = nI m ∧ t ≤ m ∧ (∃ a, a < n ∧ lies Q a = true ∧ s a = m) ∧ ∀ a, a < n → lies Q a = true → t ≤ s a → m ≤ s a
theorem firstZ {Q s : Nat → Nat} {m : Nat} : ∀ a, a < 80 → lies Q a = true → s a = m → ∃ b, b < 80 ∧ lies Q b = true ∧ s b = m ∧ fzB Q s b = true := by
  intro a
  induction a using Nat.strongRecOn with
  | _ a ih =>
    intro ha hl hm
    cases hf : fzB Q s a
    · unfold fzB at hf
      obtain ⟨k, h1, h2⟩ := cntZ_ex (of_decide_eq_false hf)
      rw [Bool.and_eq_true] at h2
      exact ih k h1 (by omega) h2.1 (by rw [← hm]; simpa using h2.2)
    · exact ⟨a, ha, hl, hm, hf⟩
theorem fz_uni {Q s : Nat → Nat} {a b : Nat} (la : lies Q a = true) (lb : lies Q b = true) (h : s a = s b) (fa : fzB Q s a = true) (fb : fzB Q s b = true) : a = b := by
  have key : ∀ x y, x < y → lies Q x = true → s x = s y → fzB Q s y = true → False := by
    intro x y hxy lx hs hf
    unfold fzB at hf
    have h0 := of_decide_eq_true hf
    have := cntZ_ltn (p := fun u => lies Q u && (s u == s y)) hxy (by show (lies Q x && (s x == s y)) = true; rw [lx, hs]; simp)
    omega
  rcases Nat.lt_trichotomy a b with q | q | q
  · exact (key a b q la h fb).elim
  · exact q
  · exact (key b a q lb h.symm fa).elim
theorem lqN_lt {Q s : Nat → Nat} {m m' : Nat} (hv : ValZ Q s m) (h : m < m') : lqN Q s m < lqN Q s m' := by
  obtain ⟨a, ha, hl, hm⟩ := hv
  obtain ⟨b, hb, lb, sb, fb⟩ := firstZ a ha hl hm
  refine cntZ_slt (fun i hi z => ?_) hb (by show ((lies Q b && decide (s b < m')) && fzB Q s b) = true; rw [lb, fb, decide_eq_true (by omega)]; rfl) (by show ((lies Q b && decide (s b < m)) && fzB Q s b) = false; rw [decide_eq_false (by omega), Bool.and_false, Bool.false_and])
  rw [Bool.and_eq_true, Bool.and_eq_true] at z ⊢
  have := of_decide_eq_true z.1.2
  exact ⟨⟨z.1.1, decide_eq_true (by omega)⟩, z.2⟩
theorem lqN_inj {Q s : Nat → Nat} {m m' : Nat} (hv : ValZ Q s m) (hv' : ValZ Q s m') (h : lqN Q s m = lqN Q s m') : m = m' := by
  rcases Nat.lt_trichotomy m m' with q | q | q
  · have := lqN_lt hv q; omega
  · exact q
  · have := lqN_lt hv' q; omega
theorem lqN_uq {Q s : Nat → Nat} {m : Nat} (hv : ValZ Q s m) : lqN Q s m < uqN Q s := by
  obtain ⟨a, ha, hl, hm⟩ := hv
  obtain ⟨b, hb, lb, sb, fb⟩ := firstZ a ha hl hm
  refine cntZ_slt (fun i hi z => ?_) hb (by show (lies Q b && fzB Q s b) = true; rw [lb, fb]; rfl) (by show ((lies Q b && decide (s b < m)) && fzB Q s b) = false; rw [decide_eq_false (by omega), Bool.and_false, Bool.false_and])
  rw [Bool.and_eq_true, Bool.and_eq_true] at z
  rw [Bool.and_eq_true]
  exact ⟨z.1.1, z.2⟩
theorem uqN_le {Q s : Nat → Nat} : uqN Q s ≤ 80 := cntZ_le
/-- where a walk from sum to sum stands: at the i-th sum, or past all i of them -/
def StpZ (Q s : Nat → Nat) (i : Nat) (r : Int32) : Prop := (∃ m, r = nI m ∧ ValZ Q s m ∧ lqN Q s m = i) ∨ (r = -nI 1 ∧ uqN Q s = i)
theorem stp_0 {Q s : Nat → Nat} {r : Int32} (h : AbvN Q s 0 80 r) : StpZ Q s 0 r := by
  rcases h with ⟨h1, h2⟩ | ⟨m, h1, h2, h3, h4⟩
  · refine Or.inr ⟨h1, cntZ_0 fun i hi => ?_⟩
    cases hl : lies Q i
    · rfl
    · have := h2 i hi hl; omega
  · refine Or.inl ⟨m, h1, h3, cntZ_0 fun i hi => ?_⟩
    cases hl : lies Q i
    · rfl
    · have := h4 i hi hl (Nat.zero_le _)
      rw [decide_eq_false (by omega)]; rfl
theorem one_fz {Q s : Nat → Nat} {m : Nat} (hv : ValZ Q s m) : cntZ (fun v => (lies Q v && (s v == m)) && fzB Q s v) 80 = 1 := by
  obtain ⟨a, ha, hl, hm⟩ := hv
  obtain ⟨b, hb, lb, sb, fb⟩ := firstZ a ha hl hm
  refine cntZ_1 hb (by rw [lb, fb, sb]; simp) (fun i hi z => ?_)
  rw [Bool.and_eq_true, Bool.and_eq_true] at z
  exact fz_uni z.1.1 lb (by rw [sb]; simpa using z.1.2) z.2 fb
theorem stp_1 {Q s : Nat → Nat} {m : Nat} {r : Int32} (hv : ValZ Q s m) (h : AbvN Q s (m + 1) 80 r) : StpZ Q s (lqN Q s m + 1) r := by
  rcases h with ⟨h1, h2⟩ | ⟨m', h1, h2, h3, h4⟩
  · refine Or.inr ⟨h1, ?_⟩
    rw [← one_fz hv]
    refine cntZ_or (fun i hi => ?_) (fun i hi => ?_)
    · cases hl : lies Q i
      · rfl
      · have b := h2 i hi hl
        by_cases q : s i < m
        · rw [decide_eq_true q]; cases fzB Q s i <;> simp
        · rw [decide_eq_false q, show (s i == m) = true from by rw [show s i = m from by omega]; simp]; cases fzB Q s i <;> rfl
    · by_cases q : s i < m
      · rw [show (s i == m) = false from by rw [beq_eq_false_iff_ne]; omega]; simp
      · rw [decide_eq_false q]; simp
  · refine Or.inl ⟨m', h1, h3, ?_⟩
    rw [← one_fz hv]
    refine cntZ_or (fun i hi => ?_) (fun i hi => ?_)
    · cases hl : lies Q i
      · rfl
      · have b := h4 i hi hl
        by_cases q : s i < m
        · rw [decide_eq_true q, decide_eq_true (by omega : s i < m')]; cases fzB Q s i <;> simp
        · rw [decide_eq_false q]
          by_cases q2 : s i = m
          · rw [q2, decide_eq_true (by omega : m < m')]; cases fzB Q s i <;> simp
          · have := b (by omega)
            rw [decide_eq_false (by omega : ¬ s i < m'), show (s i == m) = false from by simpa using q2]; rfl
    · by_cases q : s i < m
      · rw [show (s i == m) = false from by rw [beq_eq_false_iff_ne]; omega]; simp
      · rw [decide_eq_false q]; simp
theorem ltN_0 {Q s : Nat → Nat} {m : Nat} (h : ∀ a, a < 80 → lies Q a = true → 0 ≤ s a → m ≤ s a) : ltN Q s m = 0 := cntZ_0 fun i hi => by
  cases hl : lies Q i
  · rfl
  · have := h i hi hl (Nat.zero_le _)
    rw [decide_eq_false (by omega)]; rfl
theorem ltN_1 {Q s : Nat → Nat} {m m' : Nat} (h2 : m + 1 ≤ m') (h4 : ∀ a, a < 80 → lies Q a = true → m + 1 ≤ s a → m' ≤ s a) : ltN Q s m' = ltN Q s m + eqN Q s m := by
  refine cntZ_or (fun i hi => ?_) (fun i hi => ?_)
  · cases hl : lies Q i
    · rfl
    · have b := h4 i hi hl
      by_cases q : s i < m
      · rw [decide_eq_true q, decide_eq_true (by omega : s i < m')]; rfl
      · rw [decide_eq_false q]
        by_cases q2 : s i = m
        · rw [q2, decide_eq_true (by omega : m < m')]; simp
        · have := b (by omega)
          rw [decide_eq_false (by omega : ¬ s i < m'), show (s i == m) = false from by simpa using q2]; rfl
  · by_cases q : s i < m
    · rw [show (s i == m) = false from by rw [beq_eq_false_iff_ne]; omega]; simp
    · rw [decide_eq_false q]; simp
theorem ltN_all {Q s : Nat → Nat} {m : Nat} (h2 : ∀ a, a < 80 → lies Q a = true → s a < m + 1) : cntZ (fun v => lies Q v) 80 = ltN Q s m + eqN Q s m := by
  refine cntZ_or (fun i hi => ?_) (fun i hi => ?_)
  · cases hl : lies Q i
    · rfl
    · have b := h2 i hi hl
      by_cases q : s i < m
      · rw [decide_eq_true q]; rfl
      · rw [decide_eq_false q, show (s i == m) = true from by rw [show s i = m from by omega]; simp]; rfl
  · by_cases q : s i < m
    · rw [show (s i == m) = false from by rw [beq_eq_false_iff_ne]; omega]; simp
    · rw [decide_eq_false q]; simp
/-- how many windows are ahead of one, by rising sums -/
def ahN (Q s : Nat → Nat) (w : Nat) : Nat := ltN Q s (s w) + cntZ (fun v => lies Q v && (s v == s w)) w
theorem ahN_lt {Q s : Nat → Nat} {w w' : Nat} (hw : w < 80) (hw' : w' < 80) (l : lies Q w = true) (l' : lies Q w' = true) (h : s w < s w' ∨ (s w = s w' ∧ w < w')) : ahN Q s w < ahN Q s w' := by
  unfold ahN
  rcases h with h | ⟨h, h2⟩
  · have h1 := cntZ_ltn (p := fun v => lies Q v && (s v == s w)) hw (by show (lies Q w && (s w == s w)) = true; rw [l]; simp)
    have h2 : ltN Q s (s w) + eqN Q s (s w) ≤ ltN Q s (s w') := by
      unfold ltN eqN
      rw [← cntZ_or (r := fun v => lies Q v && decide (s v < s w + 1))]
      · refine cntZ_sub fun i hi z => ?_
        rw [Bool.and_eq_true] at z ⊢
        have := of_decide_eq_true z.2
        exact ⟨z.1, decide_eq_true (by omega)⟩
      · intro i hi
        cases lies Q i
        · rfl
        · by_cases q : s i < s w
          · rw [decide_eq_true q, decide_eq_true (by omega : s i < s w + 1)]; rfl
          · rw [decide_eq_false q]
            by_cases q2 : s i = s w
            · rw [q2, decide_eq_true (by omega : s w < s w + 1)]; simp
            · rw [decide_eq_false (by omega : ¬ s i < s w + 1), show (s i == s w) = false from by simpa using q2]; rfl
      · intro i hi
        by_cases q : s i < s w
        · rw [show (s i == s w) = false from by rw [beq_eq_false_iff_ne]; omega]; simp
        · rw [decide_eq_false q]; simp
    unfold eqN at h2
    omega
  · rw [h]
    have h1 := cntZ_ltn (p := fun v => lies Q v && (s v == s w')) h2 (by show (lies Q w && (s w == s w')) = true; rw [l, h]; simp)
    omega
theorem ahN_inj {Q s : Nat → Nat} {w w' : Nat} (hw : w < 80) (hw' : w' < 80) (l : lies Q w = true) (l' : lies Q w' = true) (h : ahN Q s w = ahN Q s w') : w = w' := by
  rcases Nat.lt_trichotomy (s w) (s w') with q | q | q
  · have := ahN_lt hw hw' l l' (Or.inl q); omega
  · rcases Nat.lt_trichotomy w w' with z | z | z
    · have := ahN_lt hw hw' l l' (Or.inr ⟨q, z⟩); omega
    · exact z
    · have := ahN_lt hw' hw l' l (Or.inr ⟨q.symm, z⟩); omega
  · have := ahN_lt hw' hw l' l (Or.inl q); omega
theorem ahN_all {Q s : Nat → Nat} {w : Nat} (hw : w < 80) (l : lies Q w = true) : ahN Q s w < cntZ (fun v => lies Q v) 80 := by
  unfold ahN
  have h1 := cntZ_ltn (p := fun v => lies Q v && (s v == s w)) hw (by show (lies Q w && (s w == s w)) = true; rw [l]; simp)
  have h2 : ltN Q s (s w) + cntZ (fun v => lies Q v && (s v == s w)) 80 ≤ cntZ (fun v => lies Q v) 80 := by
    unfold ltN
    rw [← cntZ_or (r := fun v => lies Q v && decide (s v < s w + 1))]
    · refine cntZ_sub fun i hi z => ?_
      rw [Bool.and_eq_true] at z
      exact z.1
    · intro i hi
      cases lies Q i
      · rfl
      · by_cases q : s i < s w
        · rw [decide_eq_true q, decide_eq_true (by omega : s i < s w + 1)]; rfl
        · rw [decide_eq_false q]
          by_cases q2 : s i = s w
          · rw [q2, decide_eq_true (by omega : s w < s w + 1)]; simp
          · rw [decide_eq_false (by omega : ¬ s i < s w + 1), show (s i == s w) = false from by simpa using q2]; rfl
    · intro i hi
      by_cases q : s i < s w
      · rw [show (s i == s w) = false from by rw [beq_eq_false_iff_ne]; omega]; simp
      · rw [decide_eq_false q]; simp
  omega
