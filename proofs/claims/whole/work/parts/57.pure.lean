/-! ===== PURE 19: windows, order, turn: the loops ===== -/
theorem bit_if {α : Type} (b : Bool) (x y : α) : (if (if b = true then nI 1 else nI 0) = nI 0 then x else y) = if b = true then y else x := by
  cases b
  · rw [bF, if_pos rfl, bF]
  · rw [bT, if_neg (by decide), bT]
/-- a loop that counts -/
theorem countOf_eq {σ : St} {Q s : Nat → Nat} (h5 : ∀ a, a < 80 → σ.1 5 a = smOf Q s a) (hs : ∀ a, s a < 2 ^ 30) {m : Nat} (hm : m < 2 ^ 30) : f_X5_countOf (nI m) σ = some (nI (eqN Q s m)) := by
  rw [e_X5_countOf, e_X5_countOf_J4]
  have e : loopN (f_X5_countOf_L4 (nI m) σ) 4096 (nI 0, nI 0) = some (nI (eqN Q s m)) := by
    refine loopN_run (tr := fun i => (nI (cntZ (fun v => lies Q v && (s v == m)) i), nI i)) 80 _ ?_ ?_ (by decide)
    · intro i hi
      have b := hs i
      rw [e_X5_countOf_L4, if_neg (nI_ge hi (by decide)), gd_nI hi (by decide), rd_nI _ 5 (by omega), h5 i hi, cntZ_succ, nI_add, nI_add]
      cases hl : lies Q i
      · rw [sm_n hl, if_neg (fun z => m1_ne (a := m) (by omega) z.symm)]; rfl
      · rw [sm_y hl]
        by_cases q : s i = m
        · rw [q, if_pos rfl, if_pos (by simp)]
        · rw [if_neg (by rw [nI_eq (by omega) (by omega)]; exact q), if_neg (by simpa using q)]; rfl
    · rw [e_X5_countOf_L4, if_pos (nI_le (Nat.le_refl _) (by decide))]; rfl
  rw [bnd_of e]
theorem countThin_eq {σ : St} {Q s : Nat → Nat} (h5 : ∀ a, a < 80 → σ.1 5 a = smOf Q s a) (hs : ∀ a, s a < 2 ^ 30) (h8 : σ.2 8 = nI (Q 2)) (hq : Q 2 ≤ 720) : f_X5_countThin σ = some (nI (cntZ (thinB Q s) 80)) := by
  rw [e_X5_countThin, e_X5_countThin_J4]
  have e : loopN (f_X5_countThin_L4 σ) 4096 (nI 0, nI 0) = some (nI (cntZ (thinB Q s) 80)) := by
    refine loopN_run (tr := fun i => (nI (cntZ (thinB Q s) i), nI i)) 80 _ ?_ ?_ (by decide)
    · intro i hi
      rw [e_X5_countThin_L4, if_neg (nI_ge hi (by decide)), bnd_of (isThin_eq hi (h5 i hi) h8 hq (hs i)), cntZ_succ, nI_add, nI_add, bit_if]
      cases thinB Q s i <;> rfl
    · rw [e_X5_countThin_L4, if_pos (nI_le (Nat.le_refl _) (by decide))]
  rw [bnd_of e]
theorem countThick_eq {σ : St} {Q s : Nat → Nat} (h5 : ∀ a, a < 80 → σ.1 5 a = smOf Q s a) (hs : ∀ a, s a < 2 ^ 30) (h9 : σ.2 9 = nI (Q 3)) (hq : Q 3 ≤ 720) : f_X5_countThick σ = some (nI (cntZ (fun v => lies Q v && decide (Q 3 < s v)) 80)) := by
  rw [e_X5_countThick, e_X5_countThick_J4]
  have g9 : gI σ 9 = nI (Q 3) := h9
  have e : loopN (f_X5_countThick_L4 σ) 4096 (nI 0, nI 0) = some (nI (cntZ (fun v => lies Q v && decide (Q 3 < s v)) 80)) := by
    refine loopN_run (tr := fun i => (nI (cntZ (fun v => lies Q v && decide (Q 3 < s v)) i), nI i)) 80 _ ?_ ?_ (by decide)
    · intro i hi
      have b := hs i
      rw [e_X5_countThick_L4, if_neg (nI_ge hi (by decide)), gd_nI hi (by decide), rd_nI _ 5 (by omega), h5 i hi, cntZ_succ, nI_add, nI_add, g9]
      cases hl : lies Q i
      · rw [sm_n hl, if_pos (m1_le (by omega))]; rfl
      · rw [sm_y hl]
        by_cases q : Q 3 < s i
        · rw [if_neg (nI_ge q (by omega)), if_pos (by simpa using q)]
        · rw [if_pos (nI_le (by omega) (by omega)), if_neg (by simpa using q)]; rfl
    · rw [e_X5_countThick_L4, if_pos (nI_le (Nat.le_refl _) (by decide))]
  rw [bnd_of e]
theorem sumZ_const (v n : Nat) : sumZ (fun _ => v) n = n * v := by
  induction n with
  | zero => rw [Nat.zero_mul]; rfl
  | succ n ih => rw [Nat.succ_mul, ← ih]; rfl
theorem cnt_lies {Q : Nat → Nat} (h : QOk Q) : cntZ (fun v => lies Q v) 80 = (9 - Q 0) * (11 - Q 1) := by
  obtain ⟨qa, qb, qc, qd, -⟩ := h
  unfold cntZ
  rw [show (80 : Nat) = 10 * 8 from rfl, sumZ_grid]
  have e1 : sumZ (fun r => sumZ (fun k => if lies Q (10 * r + k) = true then 1 else 0) 10) 8 = sumZ (fun r => if 0 ≤ r ∧ r < 0 + (9 - Q 0) then (11 - Q 1) else 0) 8 := by
    refine sumZ_congr fun r hr => ?_
    by_cases q : 0 ≤ r ∧ r < 0 + (9 - Q 0)
    · rw [if_pos q]
      have e2 : sumZ (fun k => if lies Q (10 * r + k) = true then 1 else 0) 10 = sumZ (fun k => if 0 ≤ k ∧ k < 0 + (11 - Q 1) then 1 else 0) 10 := by
        refine sumZ_congr fun k hk => ?_
        by_cases q2 : 0 ≤ k ∧ k < 0 + (11 - Q 1)
        · rw [if_pos q2, if_pos (lies_iff.mpr ⟨by omega, by omega⟩)]
        · rw [if_neg q2, if_neg (fun z => q2 (by have := (lies_iff.mp z).2; omega))]
      rw [e2, sumZ_ind (fun _ => 1) 0 (11 - Q 1) 10 (by omega), sumZ_const, Nat.mul_one]
    · rw [if_neg q, sumZ_congr (g := fun _ => 0) (fun k hk => if_neg (fun z => q (by have := (lies_iff.mp z).1; omega))), sumZ_zero]
  rw [e1, sumZ_ind (fun _ => 11 - Q 1) 0 (9 - Q 0) 8 (by omega), sumZ_const]
theorem count_eq {σ : St} {Q : Nat → Nat} (h6 : σ.2 6 = nI (Q 0)) (h7 : σ.2 7 = nI (Q 1)) (h : QOk Q) : f_X5_count σ = some (nI (cntZ (fun v => lies Q v) 80)) := by
  have g6 : gI σ 6 = nI (Q 0) := h6
  have g7 : gI σ 7 = nI (Q 1) := h7
  rw [cnt_lies h]
  obtain ⟨qa, qb, qc, qd, -⟩ := h
  rw [e_X5_count, g6, g7, pk_sub qb, pk_sub qd, nI_add, nI_add, pk_mul, show 8 - Q 0 + 1 = 9 - Q 0 from by omega, show 10 - Q 1 + 1 = 11 - Q 1 from by omega]
theorem sumAbove_ok {σ : St} {Q s : Nat → Nat} (h5 : ∀ a, a < 80 → σ.1 5 a = smOf Q s a) (hs : ∀ a, s a < 2 ^ 30) {t : Nat} {x : Int32} (hx : (x = -nI 1 ∧ t = 0) ∨ ∃ m, x = nI m ∧ t = m + 1 ∧ m < 2 ^ 30) : ∃ r, f_X5_sumAbove x σ = some r ∧ AbvN Q s t 80 r := by
  have hc : ∀ a, (nI (s a) ≤ x ↔ s a < t) := by
    intro a
    have b := hs a
    rcases hx with ⟨rfl, rfl⟩ | ⟨m, rfl, rfl, hm⟩
    · exact ⟨fun z => absurd z (m1_ge (by omega)), fun z => by omega⟩
    · constructor
      · intro z
        rcases Nat.lt_or_ge m (s a) with q | q
        · exact absurd z (nI_ge q (by omega))
        · omega
      · intro z; exact nI_le (by omega) (by omega)
  have hm : -nI 1 ≤ x := by
    rcases hx with ⟨rfl, rfl⟩ | ⟨m, rfl, rfl, hm⟩
    · decide
    · exact m1_le (by omega)
  rw [e_X5_sumAbove, e_X5_sumAbove_J4]
  have hl : ∃ y, loopN (f_X5_sumAbove_L4 x σ) 4096 (-nI 1, nI 0) = some y ∧ AbvN Q s t 80 y := by
    refine loop_for (Inv := fun i v => v.2 = nI i ∧ AbvN Q s t i v.1) 80 ?_ ?_ (by decide) ⟨rfl, Or.inl ⟨rfl, fun a ha => by omega⟩⟩
    · rintro i ⟨b, c⟩ hi ⟨h1, h2⟩
      dsimp only at h1 h2
      subst h1
      have bi := hs i
      have keep : (lies Q i = true → s i < t) → AbvN Q s t (i + 1) b := by
        intro hk
        rcases h2 with ⟨z1, z2⟩ | ⟨m, z1, z2, ⟨a, z3, z3b⟩, z4⟩
        · refine Or.inl ⟨z1, fun a ha la => ?_⟩
          by_cases q : a = i
          · subst q; exact hk la
          · exact z2 a (by omega) la
        · refine Or.inr ⟨m, z1, z2, ⟨a, by omega, z3b⟩, fun a ha la hta => ?_⟩
          by_cases q : a = i
          · subst q; have := hk la; omega
          · exact z4 a (by omega) la hta
      rw [e_X5_sumAbove_L4, if_neg (nI_ge hi (by decide)), gd_nI hi (by decide), gd_nI hi (by decide), rd_nI _ 5 (by omega), h5 i hi, nI_add, e_X5_sumAbove_J35, gd_nI hi (by decide), rd_nI _ 5 (by omega), h5 i hi, nI_add]
      cases hl : lies Q i
      · rw [sm_n hl, if_pos hm]
        exact ⟨_, rfl, rfl, keep (fun z => absurd (hl.symm.trans z) (by decide))⟩
      · rw [sm_y hl]
        by_cases q : s i < t
        · rw [if_pos ((hc i).mpr q)]
          exact ⟨_, rfl, rfl, keep (fun _ => q)⟩
        · rw [if_neg (fun z => q ((hc i).mp z))]
          rcases h2 with ⟨z1, z2⟩ | ⟨m, z1, z2, ⟨a, z3, z3b, z3c⟩, z4⟩
          · rw [if_pos z1]
            refine ⟨_, rfl, rfl, Or.inr ⟨s i, rfl, by omega, ⟨i, by omega, hl, rfl⟩, fun a ha la hta => ?_⟩⟩
            by_cases q : a = i
            · subst q; exact Nat.le_refl _
            · have := z2 a (by omega) la; omega
          · have bm : m < 2 ^ 30 := by rw [← z3c]; exact hs a
            rw [z1, if_neg (m1_ne (by omega))]
            by_cases q2 : m ≤ s i
            · rw [if_pos (nI_le q2 (by omega))]
              refine ⟨_, rfl, rfl, Or.inr ⟨m, rfl, z2, ⟨a, by omega, z3b, z3c⟩, fun a ha la hta => ?_⟩⟩
              by_cases q : a = i
              · subst q; exact q2
              · exact z4 a (by omega) la hta
            · rw [if_neg (nI_ge (by omega) (by omega))]
              refine ⟨_, rfl, rfl, Or.inr ⟨s i, rfl, by omega, ⟨i, by omega, hl, rfl⟩, fun a ha la hta => ?_⟩⟩
              by_cases q : a = i
              · subst q; exact Nat.le_refl _
              · have := z4 a (by omega) la hta; omega
    · rintro ⟨b, c⟩ ⟨h1, h2⟩
      dsimp only at h1 h2
      subst h1
      exact ⟨b, by rw [e_X5_sumAbove_L4, if_pos (nI_le (Nat.le_refl _) (by decide))], h2⟩
  obtain ⟨y, e, hy⟩ := hl
  exact ⟨y, by rw [bnd_of e], hy⟩
theorem val_lt {Q s : Nat → Nat} (hs : ∀ a, s a < 2 ^ 30) {m : Nat} (h : ValZ Q s m) : m < 2 ^ 30 := by
  obtain ⟨a, _, _, h3⟩ := h
  rw [← h3]; exact hs a
/-- a step of the walk from sum to sum -/
theorem stp_go {σ : St} {Q s : Nat → Nat} (h5 : ∀ a, a < 80 → σ.1 5 a = smOf Q s a) (hs : ∀ a, s a < 2 ^ 30) {i m : Nat} (hv : ValZ Q s m) (hi : lqN Q s m = i) : ∃ r, f_X5_sumAbove (nI m) σ = some r ∧ StpZ Q s (i + 1) r := by
  obtain ⟨r, e, h⟩ := sumAbove_ok h5 hs (t := m + 1) (Or.inr ⟨m, rfl, rfl, val_lt hs hv⟩)
  exact ⟨r, e, by rw [← hi]; exact stp_1 hv h⟩
theorem countUnlike_eq {σ : St} {Q s : Nat → Nat} (h5 : ∀ a, a < 80 → σ.1 5 a = smOf Q s a) (hs : ∀ a, s a < 2 ^ 30) : f_X5_countUnlike σ = some (nI (uqN Q s)) := by
  obtain ⟨r, e0, h0⟩ := sumAbove_ok h5 hs (t := 0) (Or.inl ⟨rfl, rfl⟩)
  rw [e_X5_countUnlike, bnd_of e0, e_X5_countUnlike_J8]
  have hl : ∃ y, loopN (f_X5_countUnlike_L8 σ) 4096 (nI 0, r) = some y ∧ y = nI (uqN Q s) := by
    refine loop_inv (Inv := fun i v => v.1 = nI i ∧ StpZ Q s i v.2) 80 ?_ ?_ (by decide) ⟨rfl, stp_0 h0⟩
    · rintro i ⟨b, c⟩ hi ⟨h1, h2⟩
      dsimp only at h1 h2
      subst h1
      rw [e_X5_countUnlike_L8, if_neg (nI_ge hi (by decide))]
      rcases h2 with ⟨m, z1, z2, z3⟩ | ⟨z1, z2⟩
      · obtain ⟨r', e, hr⟩ := stp_go h5 hs z2 z3
        have := val_lt hs z2
        left
        rw [z1, if_neg (m1_ne (by omega)), bnd_of e, nI_add]
        exact ⟨_, rfl, rfl, hr⟩
      · right
        rw [if_pos z1]
        exact ⟨_, rfl, by rw [z2]⟩
    · rintro ⟨b, c⟩ ⟨h1, h2⟩
      dsimp only at h1 h2
      subst h1
      refine ⟨_, by rw [e_X5_countUnlike_L8, if_pos (nI_le (Nat.le_refl _) (by decide))], ?_⟩
      rcases h2 with ⟨m, z1, z2, z3⟩ | ⟨z1, z2⟩
      · have := lqN_uq z2
        have := uqN_le (Q := Q) (s := s)
        omega
      · rw [z2]
  obtain ⟨y, e, rfl⟩ := hl
  rw [bnd_of e]
theorem unlikeSum_ok {σ : St} {Q s : Nat → Nat} (h5 : ∀ a, a < 80 → σ.1 5 a = smOf Q s a) (hs : ∀ a, s a < 2 ^ 30) {k : Nat} (hk : k < 2 ^ 31) : ∃ r, f_X5_unlikeSum (nI k) σ = some r ∧ ((∃ m, r = nI m ∧ ValZ Q s m ∧ lqN Q s m = k) ∨ (r = -nI 1 ∧ uqN Q s ≤ k)) := by
  rw [e_X5_unlikeSum]
  by_cases q : k < 80
  · rw [if_pos (nI_lt q (by decide))]
    obtain ⟨r, e0, h0⟩ := sumAbove_ok h5 hs (t := 0) (Or.inl ⟨rfl, rfl⟩)
    rw [bnd_of e0, e_X5_unlikeSum_J16]
    have hl : ∃ y, loopN (f_X5_unlikeSum_L16 (nI k) σ) 4096 (r, nI 0) = some y ∧ ((∃ m, y = nI m ∧ ValZ Q s m ∧ lqN Q s m = k) ∨ (y = -nI 1 ∧ uqN Q s ≤ k)) := by
      refine loop_inv (Inv := fun i v => v.2 = nI i ∧ StpZ Q s i v.1) k ?_ ?_ (by omega) ⟨rfl, stp_0 h0⟩
      · rintro i ⟨b, c⟩ hi ⟨h1, h2⟩
        dsimp only at h1 h2
        subst h1
        rw [e_X5_unlikeSum_L16, if_neg (nI_ge hi (by omega))]
        rcases h2 with ⟨m, z1, z2, z3⟩ | ⟨z1, z2⟩
        · obtain ⟨r', e, hr⟩ := stp_go h5 hs z2 z3
          have := val_lt hs z2
          left
          rw [z1, if_neg (m1_ne (by omega)), bnd_of e, nI_add]
          exact ⟨_, rfl, rfl, hr⟩
        · right
          rw [if_pos z1]
          exact ⟨_, rfl, Or.inr ⟨z1, by omega⟩⟩
      · rintro ⟨b, c⟩ ⟨h1, h2⟩
        dsimp only at h1 h2
        subst h1
        refine ⟨_, by rw [e_X5_unlikeSum_L16, if_pos (nI_le (Nat.le_refl _) (by omega))], ?_⟩
        rcases h2 with h2 | ⟨z1, z2⟩
        · exact Or.inl h2
        · exact Or.inr ⟨z1, by omega⟩
    obtain ⟨y, e, hy⟩ := hl
    exact ⟨y, by rw [bnd_of e], hy⟩
  · rw [if_neg (nI_nlt (by omega) hk)]
    have := uqN_le (Q := Q) (s := s)
    exact ⟨_, rfl, Or.inr ⟨rfl, by omega⟩⟩
theorem nI_dec (a : Nat) : nI (a + 1) + -nI 1 = nI a := by
  rw [← nI_add, Int32.add_assoc, show nI 1 + -nI 1 = 0 from by decide, Int32.add_zero]
theorem likeOne_ok {σ : St} {Q s : Nat → Nat} (h5 : ∀ a, a < 80 → σ.1 5 a = smOf Q s a) (hs : ∀ a, s a < 2 ^ 30) {m l : Nat} (hm : m < 2 ^ 30) (hl : l < eqN Q s m) : ∃ w, f_X5_likeOne (nI m) (nI l) σ = some (nI w) ∧ w < 80 ∧ lies Q w = true ∧ s w = m ∧ cntZ (fun v => lies Q v && (s v == m)) w = l := by
  have hl80 : l < 80 := by have : eqN Q s m ≤ 80 := cntZ_le; omega
  rw [e_X5_likeOne, e_X5_likeOne_J5]
  have hh : ∃ y, loopN (f_X5_likeOne_L5 (nI m) σ) 4096 (nI l, nI 0) = some y ∧ ∃ w, y = .inl (nI w) ∧ w < 80 ∧ lies Q w = true ∧ s w = m ∧ cntZ (fun v => lies Q v && (s v == m)) w = l := by
    refine loop_inv (Inv := fun i v => cntZ (fun v => lies Q v && (s v == m)) i ≤ l ∧ v = (nI (l - cntZ (fun v => lies Q v && (s v == m)) i), nI i)) 80 ?_ ?_ (by decide) ⟨Nat.zero_le _, rfl⟩
    · rintro i v hi ⟨h1, rfl⟩
      have bi := hs i
      rw [e_X5_likeOne_L5, if_neg (nI_ge hi (by decide)), gd_nI hi (by decide), rd_nI _ 5 (by omega), h5 i hi, nI_add, cntZ_succ]
      have skip : (lies Q i && (s i == m)) = false → cntZ (fun v => lies Q v && (s v == m)) i + (if (lies Q i && (s i == m)) = true then 1 else 0) = cntZ (fun v => lies Q v && (s v == m)) i := fun z => by rw [z]; rfl
      cases hl : lies Q i
      · rw [hl] at skip
        rw [sm_n hl, if_neg (fun z => m1_ne (a := m) (by omega) z.symm), skip rfl]
        exact Or.inl ⟨_, rfl, h1, rfl⟩
      · rw [hl] at skip
        rw [sm_y hl]
        by_cases q : s i = m
        · rw [q, if_pos rfl, show (true && (m == m)) = true from by simp, bT]
          rcases Nat.lt_or_ge (cntZ (fun v => lies Q v && (s v == m)) i) l with z | z
          · obtain ⟨d, hd⟩ : ∃ d, l - cntZ (fun v => lies Q v && (s v == m)) i = d + 1 := ⟨l - cntZ (fun v => lies Q v && (s v == m)) i - 1, by omega⟩
            rw [hd, if_neg (neq_f (a := d + 1) (b := 0) (by omega) (by omega) (by decide) rfl rfl), nI_dec]
            exact Or.inl ⟨_, rfl, by omega, by rw [show l - (cntZ (fun v => lies Q v && (s v == m)) i + 1) = d from by omega]⟩
          · rw [if_pos (by rw [show l - cntZ (fun v => lies Q v && (s v == m)) i = 0 from by omega])]
            exact Or.inr ⟨_, rfl, i, rfl, hi, hl, q, by omega⟩
        · rw [if_neg (by rw [nI_eq (by omega) (by omega)]; exact q), skip (by simpa using q)]
          exact Or.inl ⟨_, rfl, h1, rfl⟩
    · rintro v ⟨h1, rfl⟩
      unfold eqN at hl
      omega
  obtain ⟨y, e, w, rfl, hw⟩ := hh
  exact ⟨w, by rw [bnd_of e]; rfl, hw⟩
theorem rising_ok {σ : St} {Q s : Nat → Nat} (h5 : ∀ a, a < 80 → σ.1 5 a = smOf Q s a) (hs : ∀ a, s a < 2 ^ 30) {k : Nat} (hk : k < 2 ^ 31) : (∃ w, f_X5_rising (nI k) σ = some (nI w) ∧ w < 80 ∧ lies Q w = true ∧ ahN Q s w = k) ∨ (f_X5_rising (nI k) σ = some (-nI 1) ∧ cntZ (fun v => lies Q v) 80 ≤ k) := by
  obtain ⟨r, e0, h0⟩ := sumAbove_ok h5 hs (t := 0) (Or.inl ⟨rfl, rfl⟩)
  have hh : ∃ y, loopN (f_X5_rising_L11 σ) 4096 (nI k, r, nI 0) = some y ∧ ((∃ w, y = .inl (nI w) ∧ w < 80 ∧ lies Q w = true ∧ ahN Q s w = k) ∨ (y = .inr () ∧ cntZ (fun v => lies Q v) 80 ≤ k)) := by
    refine loop_inv (Inv := fun i v => v.2.2 = nI i ∧ ((∃ m, v.2.1 = nI m ∧ ValZ Q s m ∧ lqN Q s m = i ∧ ltN Q s m ≤ k ∧ v.1 = nI (k - ltN Q s m)) ∨ (v.2.1 = -nI 1 ∧ cntZ (fun v => lies Q v) 80 ≤ k))) 80 ?_ ?_ (by decide) ⟨rfl, ?_⟩
    · rintro i ⟨a, b, c⟩ hi ⟨h1, h2⟩
      dsimp only at h1 h2
      subst h1
      rw [e_X5_rising_L11, if_neg (nI_ge hi (by decide))]
      rcases h2 with ⟨m, rfl, z2, z3, z4, rfl⟩ | ⟨z1, z2⟩
      · have bm := val_lt hs z2
        have be : eqN Q s m ≤ 80 := cntZ_le
        rw [if_neg (m1_ne (by omega)), bnd_of (countOf_eq h5 hs bm)]
        by_cases q : eqN Q s m ≤ k - ltN Q s m
        · rw [if_pos (nI_le q (by omega))]
          obtain ⟨r', e, hr⟩ := sumAbove_ok h5 hs (t := m + 1) (Or.inr ⟨m, rfl, rfl, bm⟩)
          rw [bnd_of e, pk_sub q, nI_add]
          refine Or.inl ⟨_, rfl, rfl, ?_⟩
          have hst := stp_1 z2 hr
          rcases hr with ⟨w1, w2⟩ | ⟨m', w1, w2, w3, w4⟩
          · refine Or.inr ⟨w1, ?_⟩
            rw [ltN_all w2]; omega
          · have el := ltN_1 w2 w4
            refine Or.inl ⟨m', w1, w3, ?_, by omega, by show nI _ = nI _; congr 1; omega⟩
            rcases hst with ⟨m2, u1, u2, u3⟩ | ⟨u1, u2⟩
            · have em : m' = m2 := by
                have bm2 := val_lt hs u2
                have bm' := val_lt hs w3
                rw [w1] at u1
                exact (nI_eq (by omega) (by omega)).mp u1
              rw [em, u3, z3]
            · have bm' := val_lt hs w3
              rw [w1] at u1
              exact absurd u1 (m1_ne (by omega))
        · rw [if_neg (nI_ge (by omega) (by omega))]
          obtain ⟨w, e, w1, w2, w3, w4⟩ := likeOne_ok h5 hs bm (l := k - ltN Q s m) (by omega)
          rw [bnd_of e]
          refine Or.inr ⟨_, rfl, Or.inl ⟨w, rfl, w1, w2, ?_⟩⟩
          unfold ahN
          rw [w3, w4]; omega
      · rw [if_pos z1]
        exact Or.inr ⟨_, rfl, Or.inr ⟨rfl, z2⟩⟩
    · rintro ⟨a, b, c⟩ ⟨h1, h2⟩
      dsimp only at h1 h2
      subst h1
      refine ⟨_, by rw [e_X5_rising_L11, if_pos (nI_le (Nat.le_refl _) (by decide))], Or.inr ⟨rfl, ?_⟩⟩
      rcases h2 with ⟨m, _, z2, z3, _⟩ | ⟨z1, z2⟩
      · have := lqN_uq z2
        have := uqN_le (Q := Q) (s := s)
        omega
      · exact z2
    · rcases h0 with ⟨w1, w2⟩ | ⟨m, w1, w2, w3, w4⟩
      · refine Or.inr ⟨w1, ?_⟩
        rw [cntZ_0 (fun i hi => by
          cases hl : lies Q i
          · rfl
          · have := w2 i hi hl; omega)]
        exact Nat.zero_le _
      · have e0 := ltN_0 w4
        refine Or.inl ⟨m, w1, w3, ?_, by omega, by rw [e0]; rfl⟩
        exact cntZ_0 fun i hi => by
          cases hl : lies Q i
          · rfl
          · have := w4 i hi hl (Nat.zero_le _)
            rw [decide_eq_false (by omega)]; rfl
  obtain ⟨y, e, hy⟩ := hh
  rw [e_X5_rising, bnd_of e0, e_X5_rising_J11, bnd_of e]
  rcases hy with ⟨w, rfl, hw⟩ | ⟨rfl, hw⟩
  · exact Or.inl ⟨w, rfl, hw⟩
  · exact Or.inr ⟨rfl, hw⟩
