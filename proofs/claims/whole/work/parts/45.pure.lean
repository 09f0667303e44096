/-! ===== PURE 7: windows measured ===== -/
theorem sumOf_eq {σ : St} {F : FF} (h0 : ∀ c, c < 80 → σ.1 0 c = nI (F 0 c)) (h4 : ∀ c, c < 80 → σ.1 4 c = nI (F 4 c)) {c : Nat} (hc : c < 80) : f_X0_sumOf (nI c) σ = some (nI (cellSum F c)) := by
  rw [e_X0_sumOf, gd_nI hc (by decide), gd_nI hc (by decide), rd_nI _ 0 (by omega), rd_nI _ 4 (by omega), h0 c hc, h4 c hc, nI_add]
  rfl
/-- how many cells of twins g the first cells of a window's row have -/
def twRow (F : FF) (g a d e : Nat) : Nat := sumZ (fun k => if F 3 (a + 10 * d + k) == g then 1 else 0) e
/-- addUp: the sum of a window, and how many cells of each twins it has -/
theorem addUp_ok (σ : St) (F : FF) (Q : Nat → Nat) (h0 : ∀ c, c < 80 → σ.1 0 c = nI (F 0 c)) (h4 : ∀ c, c < 80 → σ.1 4 c = nI (F 4 c)) (h3 : ∀ c, c < 80 → σ.1 3 c = nI (F 3 c)) (ht : ∀ c, c < 80 → F 3 c ≤ 3) (hb : ∀ c, c < 80 → cellSum F c ≤ 18) (h6 : σ.2 6 = nI (Q 0)) (h7 : σ.2 7 = nI (Q 1)) (hq : Q 0 ≤ 8 ∧ Q 1 ≤ 10) {a : Nat} (ha : a < 80) (hl : lies Q a = true) (hz : ∀ g, g < 4 → σ.1 8 (80 * g + a) = nI 0) :
    ∃ r, f_X5_addUp (nI a) σ = some (sAA (sAA σ 8 r) 5 (upd (σ.1 5) a (nI (wsum Q (cellSum F) a)))) ∧ (∀ g, g < 4 → r (80 * g + a) = nI (sharesOf Q F g a)) ∧ ∀ g b, g < 4 → b < 80 → b ≠ a → r (80 * g + b) = σ.1 8 (80 * g + b) := by
  rw [e_X5_addUp, e_X5_addUp_J5]
  have inner : ∀ d, d < Q 0 → ∀ (r0 : Nat → Int32) (t0 : Nat) (k0 : Nat → Nat), (∀ g, g < 4 → r0 (80 * g + a) = nI (k0 g)) → ∃ r, f_X5_addUp_J17 (nI a) (nI t0) (nI d) (nI 0) (sAA σ 8 r0) = some (.inr (nI (t0 + sumZ (fun k => cellSum F (a + 10 * d + k)) (Q 1)), nI (d + 1), sAA σ 8 r)) ∧ (∀ g, g < 4 → r (80 * g + a) = nI (k0 g + twRow F g a d (Q 1))) ∧ ∀ g b, g < 4 → b < 80 → b ≠ a → r (80 * g + b) = r0 (80 * g + b) := by
    intro d hd r0 t0 k0 hk0
    rw [e_X5_addUp_J17]
    have hm : ∃ y, loopN (f_X5_addUp_L17 (nI a) (nI d)) 4096 (nI t0, nI 0, sAA σ 8 r0) = some y ∧ ∃ r, y = (nI (t0 + sumZ (fun k => cellSum F (a + 10 * d + k)) (Q 1)), sAA σ 8 r) ∧ (∀ g, g < 4 → r (80 * g + a) = nI (k0 g + twRow F g a d (Q 1))) ∧ ∀ g b, g < 4 → b < 80 → b ≠ a → r (80 * g + b) = r0 (80 * g + b) := by
      refine loop_for (Inv := fun i v => ∃ r, v = (nI (t0 + sumZ (fun k => cellSum F (a + 10 * d + k)) i), nI i, sAA σ 8 r) ∧ (∀ g, g < 4 → r (80 * g + a) = nI (k0 g + twRow F g a d i)) ∧ ∀ g b, g < 4 → b < 80 → b ≠ a → r (80 * g + b) = r0 (80 * g + b)) (Q 1) ?_ ?_ (by omega) ⟨r0, rfl, hk0, fun _ _ _ _ _ => rfl⟩
      · rintro i v hi ⟨r, rfl, q1, q2⟩
        have g7 : gI (sAA σ 8 r) 7 = nI (Q 1) := h7
        have hlt := (cell_lt ha hl hd hi).1
        have ht3 := ht _ hlt
        refine ⟨_, ?_, upd r (80 * F 3 (a + 10 * d + i) + a) (r (80 * F 3 (a + 10 * d + i) + a) + nI 1), rfl, ?_, ?_⟩
        · rw [e_X5_addUp_L17, g7, if_neg (nI_ge hi (by omega)), pk_mul, nI_add, nI_add, bnd_of (sumOf_eq (σ := sAA σ 8 r) (F := F) h0 h4 hlt), gd_nI hlt (by decide), rd_nI _ 3 (by omega), sAA_ne σ r (by decide : (3 : Nat) ≠ 8), h3 _ hlt, pk_mul, nI_add, gd_nI (by omega) (by decide), gd_nI (by omega) (by decide), rd_nI _ 8 (by omega), sA_nI _ _ _ (by omega), sAA_self, sAA_sAA, nI_add, nI_add]
          show _ = some (Sum.inr (nI (t0 + (sumZ (fun k => cellSum F (a + 10 * d + k)) i + cellSum F (a + 10 * d + i))), _, _))
          rw [← Nat.add_assoc t0]
        · intro g hg
          unfold upd twRow
          by_cases q : F 3 (a + 10 * d + i) = g
          · subst q
            rw [if_pos rfl, q1 _ hg, nI_add]
            show _ = nI (k0 _ + (sumZ _ i + (if F 3 (a + 10 * d + i) == F 3 (a + 10 * d + i) then 1 else 0)))
            rw [if_pos (beq_self_eq_true _)]
            rfl
          · rw [if_neg (by omega), q1 g hg]
            show _ = nI (k0 _ + (sumZ _ i + (if F 3 (a + 10 * d + i) == g then 1 else 0)))
            rw [if_neg (by simpa using q)]
            rfl
        · intro g b hg hb1 hb2
          unfold upd
          rw [if_neg (by omega)]
          exact q2 g b hg hb1 hb2
      · rintro v ⟨r, rfl, q1, q2⟩
        have g7 : gI (sAA σ 8 r) 7 = nI (Q 1) := h7
        refine ⟨_, ?_, r, rfl, q1, q2⟩
        rw [e_X5_addUp_L17, g7, if_pos (nI_le (Nat.le_refl _) (by omega))]
    obtain ⟨y, e, r, rfl, q1, q2⟩ := hm
    exact ⟨r, by rw [bnd_of e, e_X5_addUp_J74, nI_add], q1, q2⟩
  have hm : ∃ y, loopN (f_X5_addUp_L5 (nI a)) 4096 (nI 0, nI 0, σ) = some y ∧ ∃ r, y = (nI (wsum Q (cellSum F) a), sAA σ 8 r) ∧ (∀ g, g < 4 → r (80 * g + a) = nI (sharesOf Q F g a)) ∧ ∀ g b, g < 4 → b < 80 → b ≠ a → r (80 * g + b) = σ.1 8 (80 * g + b) := by
    refine loop_for (Inv := fun i v => ∃ r, v = (nI (sumZ (fun d => sumZ (fun k => cellSum F (a + 10 * d + k)) (Q 1)) i), nI i, sAA σ 8 r) ∧ (∀ g, g < 4 → r (80 * g + a) = nI (sumZ (fun d => twRow F g a d (Q 1)) i)) ∧ ∀ g b, g < 4 → b < 80 → b ≠ a → r (80 * g + b) = σ.1 8 (80 * g + b)) (Q 0) ?_ ?_ (by omega) ⟨σ.1 8, by rw [sAA_id]; rfl, hz, fun _ _ _ _ _ => rfl⟩
    · rintro i v hi ⟨r, rfl, q1, q2⟩
      have g6 : gI (sAA σ 8 r) 6 = nI (Q 0) := h6
      obtain ⟨r', e, q3, q4⟩ := inner i hi r _ _ q1
      refine ⟨_, ?_, r', rfl, q3, fun g b hg hb1 hb2 => by rw [q4 g b hg hb1 hb2, q2 g b hg hb1 hb2]⟩
      rw [e_X5_addUp_L5, g6, if_neg (nI_ge hi (by omega)), e]
      rfl
    · rintro v ⟨r, rfl, q1, q2⟩
      have g6 : gI (sAA σ 8 r) 6 = nI (Q 0) := h6
      refine ⟨(nI (wsum Q (cellSum F) a), sAA σ 8 r), ?_, r, rfl, ?_, q2⟩
      · rw [e_X5_addUp_L5, g6, if_pos (nI_le (Nat.le_refl _) (by omega)), wsum_eq hl]
      · intro g hg
        rw [q1 g hg]
        unfold sharesOf
        rw [if_pos hl, cntZ_inW, wsum_eq hl]
        rfl
  obtain ⟨y, e, r, rfl, q1, q2⟩ := hm
  refine ⟨r, ?_, q1, q2⟩
  rw [bnd_of e, e_X5_addUp_J80]
  dsimp only
  rw [gd_nI ha (by decide), sA_nI _ _ _ (by omega), sAA_ne σ r (by decide : (5 : Nat) ≠ 8)]
theorem isThin_eq {σ : St} {Q s : Nat → Nat} {a : Nat} (ha : a < 80) (h5 : σ.1 5 a = smOf Q s a) (h8 : σ.2 8 = nI (Q 2)) (hq : Q 2 ≤ 720) (hs : s a < 2 ^ 30) : f_X5_isThin (nI a) σ = some (if thinB Q s a then nI 1 else nI 0) := by
  have g8 : gI σ 8 = nI (Q 2) := h8
  rw [e_X5_isThin, g8, gd_nI ha (by decide), gd_nI ha (by decide), rd_nI _ 5 (by omega), h5]
  unfold smOf thinB
  cases hl : lies Q a
  · rw [bF, if_pos rfl, Bool.false_and, bF]
  · rw [bT, if_neg (m1_ne (by omega)), Bool.true_and]
    by_cases q : s a < Q 2
    · rw [if_neg (nI_ge q (by omega)), if_pos (decide_eq_true q)]
    · rw [if_pos (nI_le (by omega) (by omega)), if_neg (by simpa using q)]
theorem isFull_eq {σ : St} {Q s : Nat → Nat} {a : Nat} (ha : a < 80) (h5 : σ.1 5 a = smOf Q s a) (h9 : σ.2 9 = nI (Q 3)) (hq : Q 3 ≤ 720) (hs : s a < 2 ^ 30) : f_X5_isFull (nI a) σ = some (if fullB Q s a then nI 1 else nI 0) := by
  have g9 : gI σ 9 = nI (Q 3) := h9
  rw [e_X5_isFull, g9, gd_nI ha (by decide), gd_nI ha (by decide), rd_nI _ 5 (by omega), h5]
  unfold smOf fullB
  cases hl : lies Q a
  · rw [bF, if_pos rfl, Bool.false_and, bF]
  · rw [bT, if_neg (m1_ne (by omega)), Bool.true_and]
    by_cases q : Q 3 ≤ s a
    · rw [if_neg (nI_nlt q (by omega)), if_pos (decide_eq_true q)]
    · rw [if_pos (nI_lt (by omega) (by omega)), if_neg (by simpa using q)]
/-- the class's state with other rows of windows -/
def stW (σ : St) (a b c d : Nat → Int32) : St := (fun j => if j = 5 then a else if j = 6 then b else if j = 7 then c else if j = 8 then d else σ.1 j, σ.2)
theorem stW_id (σ : St) : stW σ (σ.1 5) (σ.1 6) (σ.1 7) (σ.1 8) = σ := by
  refine Prod.ext (funext fun j => ?_) rfl
  unfold stW
  dsimp only
  by_cases h5 : j = 5
  · rw [if_pos h5, h5]
  · rw [if_neg h5]
    by_cases h6 : j = 6
    · rw [if_pos h6, h6]
    · rw [if_neg h6]
      by_cases h7 : j = 7
      · rw [if_pos h7, h7]
      · rw [if_neg h7]
        by_cases h8 : j = 8
        · rw [if_pos h8, h8]
        · rw [if_neg h8]
theorem stW_5 (σ : St) (a b c d g : Nat → Int32) : sAA (stW σ a b c d) 5 g = stW σ g b c d := by
  refine Prod.ext (funext fun j => ?_) rfl
  by_cases h : j = 5
  · subst h; rfl
  · rw [sAA_ne _ _ h]
    unfold stW
    dsimp only
    rw [if_neg h, if_neg h]
theorem stW_6 (σ : St) (a b c d g : Nat → Int32) : sAA (stW σ a b c d) 6 g = stW σ a g c d := by
  refine Prod.ext (funext fun j => ?_) rfl
  by_cases h : j = 6
  · subst h; rfl
  · rw [sAA_ne _ _ h]
    unfold stW
    dsimp only
    by_cases h5 : j = 5
    · rw [if_pos h5, if_pos h5]
    · rw [if_neg h5, if_neg h5, if_neg h, if_neg h]
theorem stW_7 (σ : St) (a b c d g : Nat → Int32) : sAA (stW σ a b c d) 7 g = stW σ a b g d := by
  refine Prod.ext (funext fun j => ?_) rfl
  by_cases h : j = 7
  · subst h; rfl
  · rw [sAA_ne _ _ h]
    unfold stW
    dsimp only
    by_cases h5 : j = 5
    · rw [if_pos h5, if_pos h5]
    · rw [if_neg h5, if_neg h5]
      by_cases h6 : j = 6
      · rw [if_pos h6, if_pos h6]
      · rw [if_neg h6, if_neg h6, if_neg h, if_neg h]
theorem stW_8 (σ : St) (a b c d g : Nat → Int32) : sAA (stW σ a b c d) 8 g = stW σ a b c g := by
  refine Prod.ext (funext fun j => ?_) rfl
  by_cases h : j = 8
  · subst h; rfl
  · rw [sAA_ne _ _ h]
    unfold stW
    dsimp only
    by_cases h5 : j = 5
    · rw [if_pos h5, if_pos h5]
    · rw [if_neg h5, if_neg h5]
      by_cases h6 : j = 6
      · rw [if_pos h6, if_pos h6]
      · rw [if_neg h6, if_neg h6]
        by_cases h7 : j = 7
        · rw [if_pos h7, if_pos h7]
        · rw [if_neg h7, if_neg h7, if_neg h, if_neg h]
theorem add_0Z (x : Int32) : x + nI 0 = x := Int32.add_zero x
/-- one window counted in, if it is thin, if it is full -/
theorem spread2_ok (σ : St) (Q s : Nat → Nat) (h6 : σ.2 6 = nI (Q 0)) (h7 : σ.2 7 = nI (Q 1)) (h8 : σ.2 8 = nI (Q 2)) (h9 : σ.2 9 = nI (Q 3)) (hq : Q 0 ≤ 8 ∧ Q 1 ≤ 10) (hq2 : Q 2 ≤ 720) (hq3 : Q 3 ≤ 720) {i : Nat} (hi : i < 80) (hs : s i < 2 ^ 30) (a b c d : Nat → Int32) (ha : a i = smOf Q s i) :
    ∃ b' c', f_X5_measure_J53 (nI i) (stW σ a b c d) = some (.inr (nI (i + 1), stW σ a b' c' d)) ∧ (∀ k, k < 80 → b' k = if thinB Q s i && inW Q i k then b k + nI 1 else b k) ∧ ∀ k, k < 80 → c' k = if fullB Q s i && inW Q i k then c k + nI 1 else c k := by
  have full : ∀ b2 : Nat → Int32, ∃ c', f_X5_measure_J71 (nI i) (stW σ a b2 c d) = some (.inr (nI (i + 1), stW σ a b2 c' d)) ∧ ∀ k, k < 80 → c' k = if fullB Q s i && inW Q i k then c k + nI 1 else c k := by
    intro b2
    rw [e_X5_measure_J71, bnd_of (isFull_eq (σ := stW σ a b2 c d) (Q := Q) (s := s) hi ha h9 hq3 hs)]
    cases hf : fullB Q s i
    · rw [bF, if_pos rfl]
      exact ⟨c, by rw [nI_add], fun k _ => rfl⟩
    · have hl : lies Q i = true := by
        unfold fullB at hf
        rw [Bool.and_eq_true] at hf
        exact hf.1
      rw [bT, if_neg (by decide)]
      obtain ⟨r, e, hr⟩ := spread_ok (stW σ a b2 c d) 7 rfl Q h6 h7 hq hi hl (nI 1)
      rw [bnd_of e, stW_7]
      refine ⟨r, by rw [nI_add], fun k hk => ?_⟩
      rw [hr k hk]
      show (if inW Q i k = true then c k + nI 1 else c k) = _
      rw [Bool.true_and]
  rw [e_X5_measure_J53, bnd_of (isThin_eq (σ := stW σ a b c d) (Q := Q) (s := s) hi ha h8 hq2 hs)]
  cases hf : thinB Q s i
  · rw [bF, if_pos rfl]
    obtain ⟨c', e, h⟩ := full b
    exact ⟨b, c', e, fun k _ => rfl, h⟩
  · have hl : lies Q i = true := by
      unfold thinB at hf
      rw [Bool.and_eq_true] at hf
      exact hf.1
    rw [bT, if_neg (by decide)]
    obtain ⟨r, e, hr⟩ := spread_ok (stW σ a b c d) 6 rfl Q h6 h7 hq hi hl (nI 1)
    rw [bnd_of e, stW_6]
    obtain ⟨c', e2, h⟩ := full r
    refine ⟨r, c', e2, fun k hk => ?_, h⟩
    rw [hr k hk]
    show (if inW Q i k = true then b k + nI 1 else b k) = _
    rw [Bool.true_and]
theorem cntZ_succ (p : Nat → Bool) (n : Nat) : cntZ p (n + 1) = cntZ p n + (if p n then 1 else 0) := rfl
/-- measure of the windows: all anew -/
theorem wmeasure_ok (σ : St) (F : FF) (Q : Nat → Nat) (h0 : ∀ c, c < 80 → σ.1 0 c = nI (F 0 c)) (h3 : ∀ c, c < 80 → σ.1 3 c = nI (F 3 c)) (h4 : ∀ c, c < 80 → σ.1 4 c = nI (F 4 c)) (hF : ∀ c, c < 80 → F 0 c ≤ 9 ∧ F 1 c ≤ 1 ∧ F 2 c ≤ 3 ∧ F 3 c ≤ 3 ∧ F 4 c ≤ 9) (hC : CQ σ Q) (hQ : QOk Q) :
    ∃ a b c d, f_X5_measure σ = some (stW σ a b c d) ∧ CW (stW σ a b c d) Q (wsum Q (cellSum F)) ∧ ∀ g x, g < 4 → x < 80 → d (80 * g + x) = nI (sharesOf Q F g x) := by
  obtain ⟨-, h6, h7, h8, h9, -⟩ := hC
  obtain ⟨qa, qb, qc, qd, qe, qf, -⟩ := hQ
  have hb : ∀ c, c < 80 → cellSum F c ≤ 18 := fun c hc => by have := hF c hc; unfold cellSum; omega
  have hs : ∀ x, wsum Q (cellSum F) x < 2 ^ 30 := fun x => by have := wsum_le (Q := Q) (a := x) hb; omega
  obtain ⟨b0, e1, hb0⟩ := fill_ok σ 6 (nI 0) 80 rfl (by decide)
  obtain ⟨c0, e2, hc0⟩ := fill_ok (sAA σ 6 b0) 7 (nI 0) 80 rfl (by decide)
  obtain ⟨d0, e3, hd0⟩ := fill_ok (sAA (sAA σ 6 b0) 7 c0) 8 (nI 0) 320 rfl (by decide)
  have est : sAA (sAA (sAA σ 6 b0) 7 c0) 8 d0 = stW σ (σ.1 5) b0 c0 d0 := by
    conv => lhs; rw [← stW_id σ]
    rw [stW_6, stW_7, stW_8]
  rw [e_X5_measure, bnd_of e1, bnd_of e2, bnd_of e3, est, e_X5_measure_J26]
  generalize hw : wsum Q (cellSum F) = s at hs ⊢
  have hm : ∃ y, loopN f_X5_measure_L26 4096 (nI 0, stW σ (σ.1 5) b0 c0 d0) = some y ∧ ∃ a b c d, y = stW σ a b c d ∧ (∀ x, x < 80 → a x = smOf Q s x) ∧ (∀ k, k < 80 → b k = nI (cntZ (fun x => thinB Q s x && inW Q x k) 80)) ∧ (∀ k, k < 80 → c k = nI (cntZ (fun x => fullB Q s x && inW Q x k) 80)) ∧ ∀ g x, g < 4 → x < 80 → d (80 * g + x) = if x < 80 then nI (sharesOf Q F g x) else nI 0 := by
    refine loop_for (Inv := fun i v => ∃ a b c d, v = (nI i, stW σ a b c d) ∧ (∀ x, x < i → a x = smOf Q s x) ∧ (∀ k, k < 80 → b k = nI (cntZ (fun x => thinB Q s x && inW Q x k) i)) ∧ (∀ k, k < 80 → c k = nI (cntZ (fun x => fullB Q s x && inW Q x k) i)) ∧ ∀ g x, g < 4 → x < 80 → d (80 * g + x) = if x < i then nI (sharesOf Q F g x) else nI 0) 80 ?_ ?_ (by decide) ⟨_, _, _, _, rfl, fun x hx => by omega, fun k hk => hb0 k hk, fun k hk => hc0 k hk, fun g x hg hx => by rw [if_neg (by omega)]; exact hd0 _ (by omega)⟩
    · rintro i v hi ⟨a, b, c, d, rfl, q5, q6, q7, q8⟩
      -- the sum of this window
      have one : ∃ d', (bnd (f_X5_lies (nI i) (stW σ (upd a i (-nI 1)) b c d)) (fun r4 => if r4 = nI 0 then (f_X5_measure_J53 (nI i) (stW σ (upd a i (-nI 1)) b c d)) else (bnd (f_X5_addUp (nI i) (stW σ (upd a i (-nI 1)) b c d)) (fun r9 => f_X5_measure_J53 (nI i) r9)))) = f_X5_measure_J53 (nI i) (stW σ (upd a i (smOf Q s i)) b c d') ∧ ∀ g x, g < 4 → x < 80 → d' (80 * g + x) = if x < i + 1 then nI (sharesOf Q F g x) else nI 0 := by
        rw [bnd_of (lies_eq (σ := stW σ (upd a i (-nI 1)) b c d) h6 h7 ⟨qb, qd⟩ hi)]
        cases hl : lies Q i
        · rw [bF, if_pos rfl]
          refine ⟨d, ?_, fun g x hg hx => ?_⟩
          · unfold smOf
            rw [hl, if_neg (by decide)]
          · rw [q8 g x hg hx]
            by_cases q : x < i
            · rw [if_pos q, if_pos (by omega)]
            · rw [if_neg q]
              by_cases q2 : x = i
              · subst q2
                rw [if_pos (by omega)]
                unfold sharesOf
                rw [hl, if_neg (by decide)]
              · rw [if_neg (by omega)]
        · rw [bT, if_neg (by decide)]
          obtain ⟨r, e, r1, r2⟩ := addUp_ok (stW σ (upd a i (-nI 1)) b c d) F Q h0 h4 h3 (fun c hc => (hF c hc).2.2.2.1) hb h6 h7 ⟨qb, qd⟩ hi hl (fun g hg => by show d _ = _; rw [q8 g i hg hi, if_neg (by omega)])
          rw [bnd_of e, stW_8, stW_5, hw]
          refine ⟨r, ?_, fun g x hg hx => ?_⟩
          · have : upd (upd a i (-nI 1)) i (nI (s i)) = upd a i (smOf Q s i) := by
              funext j
              unfold upd smOf
              by_cases q : j = i
              · rw [if_pos q, if_pos q, hl, if_pos rfl]
              · rw [if_neg q, if_neg q, if_neg q]
            show f_X5_measure_J53 (nI i) (stW σ (upd (upd a i (-nI 1)) i (nI (s i))) b c r) = _
            rw [this]
          · by_cases q2 : x = i
            · subst q2
              rw [r1 g hg, if_pos (by omega)]
            · rw [r2 g x hg hx q2]
              show d _ = _
              rw [q8 g x hg hx]
              by_cases q : x < i
              · rw [if_pos q, if_pos (by omega)]
              · rw [if_neg q, if_neg (by omega)]
      obtain ⟨d', e, hd'⟩ := one
      obtain ⟨b', c', e5, hb', hc'⟩ := spread2_ok σ Q s h6 h7 h8 h9 ⟨qb, qd⟩ qe qf hi (hs i) (upd a i (smOf Q s i)) b c d' (by unfold upd; rw [if_pos rfl])
      refine ⟨_, ?_, upd a i (smOf Q s i), b', c', d', rfl, ?_, ?_, ?_, hd'⟩
      · rw [e_X5_measure_L26, if_neg (nI_ge hi (by decide)), gd_nI hi (by decide), sA_nI _ _ _ (by omega)]
        rw [show (stW σ a b c d).1 5 = a from rfl, stW_5, e, e5]
      · intro x hx
        unfold upd
        by_cases q : x = i
        · rw [if_pos q, q]
        · rw [if_neg q, q5 x (by omega)]
      · intro k hk
        rw [hb' k hk, q6 k hk, cntZ_succ]
        cases (thinB Q s i && inW Q i k)
        · rfl
        · show nI _ + nI 1 = _
          rw [nI_add]
          rfl
      · intro k hk
        rw [hc' k hk, q7 k hk, cntZ_succ]
        cases (fullB Q s i && inW Q i k)
        · rfl
        · show nI _ + nI 1 = _
          rw [nI_add]
          rfl
    · rintro v ⟨a, b, c, d, rfl, q5, q6, q7, q8⟩
      refine ⟨_, ?_, a, b, c, d, rfl, q5, q6, q7, q8⟩
      rw [e_X5_measure_L26, if_pos (nI_le (Nat.le_refl _) (by decide))]
  obtain ⟨y, e, a, b, c, d, rfl, q5, q6, q7, q8⟩ := hm
  refine ⟨a, b, c, d, by rw [bnd_of e], ⟨q5, q6, q7⟩, fun g x hg hx => ?_⟩
  rw [q8 g x hg hx, if_pos hx]
