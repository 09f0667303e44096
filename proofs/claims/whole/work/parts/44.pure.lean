/-! ===== PURE 6: windows: sums of cells, by rows and columns ===== -/
theorem sumZ_split (f : Nat → Nat) (m n : Nat) : sumZ f (m + n) = sumZ f m + sumZ (fun k => f (m + k)) n := by
  induction n with
  | zero => rfl
  | succ n ih =>
    show sumZ f (m + n) + f (m + n) = sumZ f m + (sumZ (fun k => f (m + k)) n + f (m + n))
    rw [ih]
    omega
theorem sumZ_grid (f : Nat → Nat) (n : Nat) : sumZ f (10 * n) = sumZ (fun r => sumZ (fun k => f (10 * r + k)) 10) n := by
  induction n with
  | zero => rfl
  | succ n ih =>
    show sumZ f (10 * n + 10) = sumZ (fun r => sumZ (fun k => f (10 * r + k)) 10) n + sumZ (fun k => f (10 * n + k)) 10
    rw [sumZ_split, ih]
theorem sumZ_ind (f : Nat → Nat) (s n N : Nat) (h : s + n ≤ N) : sumZ (fun r => if s ≤ r ∧ r < s + n then f r else 0) N = sumZ (fun d => f (s + d)) n := by
  obtain ⟨t, rfl⟩ : ∃ t, N = s + n + t := ⟨N - (s + n), by omega⟩
  rw [sumZ_split, sumZ_split]
  rw [sumZ_congr (f := fun r => if s ≤ r ∧ r < s + n then f r else 0) (g := fun _ => 0) (n := s) (fun i hi => if_neg (by omega)), sumZ_zero]
  rw [sumZ_congr (f := fun k => if s ≤ s + k ∧ s + k < s + n then f (s + k) else 0) (g := fun d => f (s + d)) (n := n) (fun i hi => if_pos (by omega))]
  rw [sumZ_congr (f := fun k => if s ≤ s + n + k ∧ s + n + k < s + n then f (s + n + k) else 0) (g := fun _ => 0) (n := t) (fun i hi => if_neg (by omega)), sumZ_zero]
  omega
theorem lies_iff {Q : Nat → Nat} {a : Nat} : lies Q a = true ↔ a / 10 + Q 0 ≤ 8 ∧ a % 10 + Q 1 ≤ 10 := by
  unfold lies
  rw [Bool.and_eq_true, decide_eq_true_eq, decide_eq_true_eq]
theorem inW_iff {Q : Nat → Nat} {a c : Nat} : inW Q a c = true ↔ (a / 10 ≤ c / 10 ∧ c / 10 < a / 10 + Q 0) ∧ (a % 10 ≤ c % 10 ∧ c % 10 < a % 10 + Q 1) := by
  unfold inW
  rw [Bool.and_eq_true, Bool.and_eq_true, Bool.and_eq_true, decide_eq_true_eq, decide_eq_true_eq, decide_eq_true_eq, decide_eq_true_eq]
theorem wsum_eq {Q : Nat → Nat} {g : Nat → Nat} {a : Nat} (hl : lies Q a = true) : wsum Q g a = sumZ (fun d => sumZ (fun k => g (a + 10 * d + k)) (Q 1)) (Q 0) := by
  obtain ⟨h1, h2⟩ := lies_iff.mp hl
  unfold wsum
  rw [show (80 : Nat) = 10 * 8 from rfl, sumZ_grid]
  have e1 : sumZ (fun r => sumZ (fun k => if inW Q a (10 * r + k) = true then g (10 * r + k) else 0) 10) 8 = sumZ (fun r => if a / 10 ≤ r ∧ r < a / 10 + Q 0 then sumZ (fun k => if a % 10 ≤ k ∧ k < a % 10 + Q 1 then g (10 * r + k) else 0) 10 else 0) 8 := by
    refine sumZ_congr fun r hr => ?_
    by_cases q : a / 10 ≤ r ∧ r < a / 10 + Q 0
    · rw [if_pos q]
      refine sumZ_congr fun k hk => ?_
      have d1 : (10 * r + k) / 10 = r := by omega
      have d2 : (10 * r + k) % 10 = k := by omega
      by_cases q2 : a % 10 ≤ k ∧ k < a % 10 + Q 1
      · rw [if_pos q2, if_pos (inW_iff.mpr (by rw [d1, d2]; exact ⟨q, q2⟩))]
      · rw [if_neg q2, if_neg (fun z => q2 (by have := (inW_iff.mp z).2; rw [d2] at this; exact this))]
    · rw [if_neg q]
      rw [sumZ_congr (g := fun _ => 0) (fun k hk => if_neg (fun z => q (by have := (inW_iff.mp z).1; rw [show (10 * r + k) / 10 = r from by omega] at this; exact this))), sumZ_zero]
  rw [e1, sumZ_ind _ _ _ _ h1]
  refine sumZ_congr fun d hd => ?_
  rw [sumZ_ind _ _ _ _ h2]
  refine sumZ_congr fun k hk => congrArg g ?_
  omega
/-- how many cells of a kind a window has -/
theorem cntZ_inW {Q : Nat → Nat} {p : Nat → Bool} {a : Nat} : cntZ (fun c => inW Q a c && p c) 80 = wsum Q (fun c => if p c then 1 else 0) a := by
  unfold cntZ wsum
  refine sumZ_congr fun c _ => ?_
  show (if (inW Q a c && p c) = true then 1 else 0) = if inW Q a c = true then (if p c = true then 1 else 0) else 0
  cases inW Q a c <;> cases p c <;> rfl
theorem wsum_le {Q : Nat → Nat} {g : Nat → Nat} {b a : Nat} (h : ∀ c, c < 80 → g c ≤ b) : wsum Q g a ≤ b * 80 := by
  unfold wsum
  refine sumZ_le fun c hc => ?_
  split
  · exact h c hc
  · omega
/-- a change of one cell -/
theorem wsum_upd {Q : Nat → Nat} {g g' : Nat → Nat} {a one : Nat} (h1 : one < 80) (hne : ∀ c, c < 80 → c ≠ one → g' c = g c) : wsum Q g' a + (if inW Q a one then g one else 0) = wsum Q g a + (if inW Q a one then g' one else 0) := by
  have key : ∀ f : Nat → Nat, wsum Q f a = sumZ (fun c => if c = one then 0 else (if inW Q a c then f c else 0)) 80 + (if inW Q a one then f one else 0) := by
    intro f
    unfold wsum
    rw [← sumZ_one (n := 80) (k := one) h1 (if inW Q a one = true then f one else 0), ← sumZ_add]
    refine sumZ_congr fun c hc => ?_
    by_cases q : c = one
    · subst q
      rw [if_pos rfl, if_pos rfl]
      omega
    · rw [if_neg q, if_neg q]
      rfl
  rw [key g, key g']
  have e : sumZ (fun c => if c = one then 0 else (if inW Q a c = true then g' c else 0)) 80 = sumZ (fun c => if c = one then 0 else (if inW Q a c = true then g c else 0)) 80 := by
    refine sumZ_congr fun c hc => ?_
    by_cases q : c = one
    · rw [if_pos q, if_pos q]
    · rw [if_neg q, if_neg q, hne c hc q]
  rw [e]
  omega
/-- the cells of a window, by rows and columns, are cells -/
theorem cell_lt {Q : Nat → Nat} {a d k : Nat} (ha : a < 80) (hl : lies Q a = true) (hd : d < Q 0) (hk : k < Q 1) : a + 10 * d + k < 80 ∧ inW Q a (a + 10 * d + k) = true := by
  obtain ⟨h1, h2⟩ := lies_iff.mp hl
  refine ⟨by omega, inW_iff.mpr ⟨⟨?_, ?_⟩, ?_, ?_⟩⟩ <;> omega
theorem lies_eq {σ : St} {Q : Nat → Nat} (h6 : σ.2 6 = nI (Q 0)) (h7 : σ.2 7 = nI (Q 1)) (hq : Q 0 ≤ 8 ∧ Q 1 ≤ 10) {a : Nat} (ha : a < 80) : f_X5_lies (nI a) σ = some (if lies Q a then nI 1 else nI 0) := by
  have g6 : gI σ 6 = nI (Q 0) := h6
  have g7 : gI σ 7 = nI (Q 1) := h7
  rw [e_X5_lies, g6, g7, pk_div (by omega) (by decide) (by decide), nI_add, jrem_nI (by omega) (by decide) (by decide), nI_add]
  by_cases q1 : a / 10 + Q 0 ≤ 8
  · rw [if_neg (nI_nlt (by omega) (by omega))]
    by_cases q2 : a % 10 + Q 1 ≤ 10
    · rw [if_neg (nI_nlt (by omega) (by omega)), if_pos (lies_iff.mpr ⟨q1, q2⟩)]
    · rw [if_pos (nI_lt (by omega) (by omega)), if_neg (fun z => q2 (lies_iff.mp z).2)]
  · rw [if_pos (nI_lt (by omega) (by omega)), if_neg (fun z => q1 (lies_iff.mp z).1)]
/-- spread: each cell of a window by so much -/
theorem spread_ok (σ : St) (k : Nat) (hk : lnC k = 80) (Q : Nat → Nat) (h6 : σ.2 6 = nI (Q 0)) (h7 : σ.2 7 = nI (Q 1)) (hq : Q 0 ≤ 8 ∧ Q 1 ≤ 10) {a : Nat} (ha : a < 80) (hl : lies Q a = true) (by_ : Int32) :
    ∃ r, f_X5_spread k (nI a) by_ σ = some (sAA σ k r) ∧ ∀ c, c < 80 → r c = if inW Q a c then σ.1 k c + by_ else σ.1 k c := by
  rw [e_X5_spread, e_X5_spread_J3]
  obtain ⟨hl1, hl2⟩ := lies_iff.mp hl
  -- a row of the window
  have inner : ∀ d, d < Q 0 → ∀ r0 : Nat → Int32, ∃ r, f_X5_spread_J15 k (nI a) by_ (nI d) (nI 0) (sAA σ k r0) = some (.inr (nI (d + 1), sAA σ k r)) ∧ ∀ c, c < 80 → r c = if a + 10 * d ≤ c ∧ c < a + 10 * d + Q 1 then r0 c + by_ else r0 c := by
    intro d hd r0
    rw [e_X5_spread_J15]
    have hm : ∃ y, loopN (f_X5_spread_L15 k (nI a) by_ (nI d)) 4096 (nI 0, sAA σ k r0) = some y ∧ ∃ r, y = sAA σ k r ∧ ∀ c, c < 80 → r c = if a + 10 * d ≤ c ∧ c < a + 10 * d + Q 1 then r0 c + by_ else r0 c := by
      refine loop_for (Inv := fun i v => v.1 = nI i ∧ ∃ r, v.2 = sAA σ k r ∧ ∀ c, c < 80 → r c = if a + 10 * d ≤ c ∧ c < a + 10 * d + i then r0 c + by_ else r0 c) (Q 1) ?_ ?_ (by omega) ⟨rfl, r0, rfl, fun c hc => by rw [if_neg (by omega)]⟩
      · rintro i ⟨x, s⟩ hi ⟨h1, r, h2, h3⟩
        dsimp only at h1 h2
        subst h1 h2
        have g7 : gI (sAA σ k r) 7 = nI (Q 1) := h7
        have hlt := cell_lt ha hl hd hi
        refine ⟨(nI (i + 1), sAA σ k (upd r (a + 10 * d + i) (r (a + 10 * d + i) + by_))), ?_, rfl, _, rfl, ?_⟩
        · rw [e_X5_spread_L15, g7, if_neg (nI_ge hi (by omega)), pk_mul, nI_add, nI_add, hk, gd_nI hlt.1 (by decide), gd_nI hlt.1 (by decide), rd_nI _ k (by omega), sA_nI _ _ _ (by omega), sAA_self, sAA_sAA, nI_add]
        · intro c hc
          unfold upd
          by_cases q : c = a + 10 * d + i
          · subst q
            rw [if_pos rfl, if_pos (by omega), h3 _ hc, if_neg (by omega)]
          · rw [if_neg q, h3 c hc]
            by_cases q2 : a + 10 * d ≤ c ∧ c < a + 10 * d + i
            · rw [if_pos q2, if_pos (by omega)]
            · rw [if_neg q2, if_neg (by omega)]
      · rintro ⟨x, s⟩ ⟨h1, r, h2, h3⟩
        dsimp only at h1 h2
        subst h1 h2
        have g7 : gI (sAA σ k r) 7 = nI (Q 1) := h7
        refine ⟨_, ?_, r, rfl, h3⟩
        rw [e_X5_spread_L15, g7, if_pos (nI_le (Nat.le_refl _) (by omega))]
    obtain ⟨y, e, r, rfl, h⟩ := hm
    exact ⟨r, by rw [bnd_of e, e_X5_spread_J46, nI_add], h⟩
  have hm : ∃ y, loopN (f_X5_spread_L3 k (nI a) by_) 4096 (nI 0, σ) = some y ∧ ∃ r, y = sAA σ k r ∧ ∀ c, c < 80 → r c = if inW Q a c then σ.1 k c + by_ else σ.1 k c := by
    refine loop_for (Inv := fun i v => v.1 = nI i ∧ ∃ r, v.2 = sAA σ k r ∧ ∀ c, c < 80 → r c = if inW Q a c = true ∧ c / 10 < a / 10 + i then σ.1 k c + by_ else σ.1 k c) (Q 0) ?_ ?_ (by omega) ⟨rfl, σ.1 k, (sAA_id σ k).symm, fun c hc => by rw [if_neg]; rintro ⟨z, z2⟩; have := (inW_iff.mp z).1.1; omega⟩
    · rintro i ⟨x, s⟩ hi ⟨h1, r, h2, h3⟩
      dsimp only at h1 h2
      subst h1 h2
      have g6 : gI (sAA σ k r) 6 = nI (Q 0) := h6
      obtain ⟨r', e, h'⟩ := inner i hi r
      refine ⟨(nI (i + 1), sAA σ k r'), ?_, rfl, _, rfl, ?_⟩
      · rw [e_X5_spread_L3, g6, if_neg (nI_ge hi (by omega)), e]
      · intro c hc
        rw [h' c hc, h3 c hc]
        by_cases q : a + 10 * i ≤ c ∧ c < a + 10 * i + Q 1
        · rw [if_pos q, if_neg (by rintro ⟨z, z2⟩; omega), if_pos ⟨inW_iff.mpr ⟨⟨by omega, by omega⟩, by omega, by omega⟩, by omega⟩]
        · rw [if_neg q]
          by_cases q2 : inW Q a c = true ∧ c / 10 < a / 10 + i
          · rw [if_pos q2, if_pos ⟨q2.1, by omega⟩]
          · rw [if_neg q2, if_neg]
            rintro ⟨z, z2⟩
            have w := inW_iff.mp z
            have : c / 10 = a / 10 + i := by
              rcases Nat.lt_or_ge (c / 10) (a / 10 + i) with y | y
              · exact absurd ⟨z, y⟩ q2
              · omega
            exact q ⟨by omega, by omega⟩
    · rintro ⟨x, s⟩ ⟨h1, r, h2, h3⟩
      dsimp only at h1 h2
      subst h1 h2
      have g6 : gI (sAA σ k r) 6 = nI (Q 0) := h6
      refine ⟨_, ?_, r, rfl, fun c hc => ?_⟩
      · rw [e_X5_spread_L3, g6, if_pos (nI_le (Nat.le_refl _) (by omega))]
      · rw [h3 c hc]
        by_cases q : inW Q a c = true
        · rw [if_pos ⟨q, (inW_iff.mp q).1.2⟩, if_pos q]
        · rw [if_neg (fun z => q z.1), if_neg q]
  obtain ⟨y, e, r, rfl, h⟩ := hm
  exact ⟨r, by rw [bnd_of e], h⟩
