/-! ===== PURE 32: a row filled with the least ===== -/
/-- two loops, turn by turn -/
theorem loop_twoQ {V W Y Z : Type} {b1 : V → Option (Y ⊕ V)} {b2 : W → Option (Z ⊕ W)} {Post : Y → Z → Prop} (Inv : Nat → V → W → Prop) (b : Nat)
    (hs : ∀ i v w, i < b → Inv i v w → (∃ v' w', b1 v = some (.inr v') ∧ b2 w = some (.inr w') ∧ Inv (i + 1) v' w') ∨ (∃ y z, b1 v = some (.inl y) ∧ b2 w = some (.inl z) ∧ Post y z))
    (he : ∀ v w, Inv b v w → ∃ y z, b1 v = some (.inl y) ∧ b2 w = some (.inl z) ∧ Post y z) {fuel : Nat} (hf : b < fuel) {v0 : V} {w0 : W} (h0 : Inv 0 v0 w0) : ∃ y z, loopN b1 fuel v0 = some y ∧ loopN b2 fuel w0 = some z ∧ Post y z := by
  have key : ∀ (n i : Nat) (v : V) (w : W), i ≤ b → b - i < n → Inv i v w → ∃ y z, loopN b1 n v = some y ∧ loopN b2 n w = some z ∧ Post y z := by
    intro n
    induction n with
    | zero => intro i v w _ h; omega
    | succ n ih =>
      intro i v w hi hn hv
      rcases Nat.lt_or_ge i b with h | h
      · rcases hs i v w h hv with ⟨v', w', e1, e2, hv'⟩ | ⟨y, z, e1, e2, hy⟩
        · rw [loop_r e1, loop_r e2]
          exact ih (i + 1) v' w' (by omega) (by omega) hv'
        · rw [loop_l e1, loop_l e2]
          exact ⟨y, z, rfl, rfl, hy⟩
      · have e : i = b := by omega
        subst e
        obtain ⟨y, z, e1, e2, hy⟩ := he v w hv
        rw [loop_l e1, loop_l e2]
        exact ⟨y, z, rfl, rfl, hy⟩
  exact key fuel 0 v0 w0 (by omega) (by omega) h0
def sumI (f : Nat → Int32) : Nat → Int32
  | 0 => nI 0
  | n + 1 => sumI f n + f n
theorem sumI_congr {f g : Nat → Int32} {n : Nat} (h : ∀ i, i < n → f i = g i) : sumI f n = sumI g n := by
  induction n with
  | zero => rfl
  | succ n ih => unfold sumI; rw [ih (fun i hi => h i (by omega)), h n (by omega)]
theorem sumI_fst (f : Nat → Int32) : ∀ n, sumI f (n + 1) = f 0 + sumI (fun k => f (k + 1)) n
  | 0 => by
    show nI 0 + f 0 = f 0 + nI 0
    exact Int32.add_comm _ _
  | n + 1 => by
    show sumI f (n + 1) + f (n + 1) = f 0 + (sumI (fun k => f (k + 1)) n + f (n + 1))
    rw [sumI_fst f n, Int32.add_assoc]
theorem sumI_rev (g : Nat → Int32) : ∀ n, sumI (fun k => g (n - 1 - k)) n = sumI g n
  | 0 => rfl
  | n + 1 => by
    rw [sumI_fst]
    have e : sumI (fun k => g (n + 1 - 1 - (k + 1))) n = sumI (fun k => g (n - 1 - k)) n := sumI_congr fun k hk => congrArg g (by omega)
    rw [e, sumI_rev g n]
    show g (n + 1 - 1 - 0) + sumI g n = sumI g n + g n
    rw [show n + 1 - 1 - 0 = n from by omega, Int32.add_comm]
theorem jmin_alt (t x : Int32) : jmin t x = if x ≤ t then x else t := by
  unfold jmin
  by_cases q : x < t
  · rw [if_pos q, if_pos (fa_of_lt q).1]
  · rw [if_neg q]
    by_cases z : x ≤ t
    · rw [if_pos z]
      rcases fa_three x t with y | y | y
      · exact absurd y q
      · exact y.symm
      · exact absurd z (fa_of_lt y).2.1
    · rw [if_neg z]
def colQ (i W j : Nat) : Int32 := if j < W then nI (i + W - 1 - j) else nI i + -nI 1
theorem colQ_y {i W j : Nat} (h : j < W) : colQ i W j = nI (i + W - 1 - j) := if_pos h
theorem colQ_n {i W : Nat} : colQ i W W = nI i + -nI 1 := if_neg (Nat.lt_irrefl _)
theorem colQ_s {i W j : Nat} (h : j < W) : nI (i + W - 1 - j) + -nI 1 = colQ i W (j + 1) := by
  by_cases q : j + 1 < W
  · rw [colQ_y q]; exact nI_prdQ (by omega)
  · have e : j + 1 = W := by omega
    subst e
    rw [colQ_n, show i + (j + 1) - 1 - j = i from by omega]
theorem lowQ_toInt {i : Nat} (h : i < 2 ^ 29) : (nI i + -nI 1).toInt = (i : Int) - 1 := by
  rw [Int32.add_neg_eq_sub, pk_sub_toInt (by omega) (by decide)]
  rfl
/-- what the class's line and the reference's results hold of each other, in a row -/
def RlQ (σ μ s s' : St) (A : Nat → Int32) : Prop := (∀ k, k < 10 → s.1 14 k = A k + s'.1 12 k) ∧ FmZ [14] [] σ s ∧ FmZ [12] [] μ s'
theorem stretch_ok {s : St} {W i : Nat} (h7 : s.2 7 = nI W) (hi : i + W ≤ 10) (hW : 1 ≤ W) : f_X1_stretch (nI (i + W - 1)) s = some (sumI (fun k => s.1 14 (i + k)) W) := by
  have g7 : gI s 7 = nI W := h7
  have lo : (nI (i + W - 1) - nI W).toInt = (i : Int) - 1 := by
    rw [pk_sub_toInt (by omega) (by omega)]; omega
  have e : loopN (f_X1_stretch_L4 (nI (i + W - 1)) s) 4096 (nI 0, nI (i + W - 1)) = some (sumI (fun k => s.1 14 (i + W - 1 - k)) W) := by
    have e0 : (nI 0, nI (i + W - 1)) = (sumI (fun k => s.1 14 (i + W - 1 - k)) 0, colQ i W 0) := by rw [colQ_y (by omega)]; rfl
    rw [e0]
    refine loopN_run (tr := fun j => (sumI (fun k => s.1 14 (i + W - 1 - k)) j, colQ i W j)) W _ ?_ ?_ (by omega)
    · intro j hj
      rw [colQ_y hj, e_X1_stretch_L4, g7, if_neg, gd_nI (by omega) (by decide), rd_nI _ 14 (by omega), colQ_s hj]
      · rfl
      · rw [Int32.le_iff_toInt_le, lo, nI_toInt (by omega)]
        omega
    · rw [colQ_n, e_X1_stretch_L4, g7, if_pos]
      rw [Int32.le_iff_toInt_le, lo, lowQ_toInt (by omega)]
      omega
  rw [e_X1_stretch, e_X1_stretch_J4, bnd_of e]
  refine congrArg some ?_
  rw [← sumI_rev (fun k => s.1 14 (i + k)) W]
  exact sumI_congr fun k hk => congrArg (s.1 14) (by omega)
theorem sim_row : Sim2 TieZ f_X6_row f_X7_row := by
  intro x y σ μ h
  obtain ⟨F, Q, n, t, o, P, h1, h2, h3, h4, h5, h6, h7, h8, h9, h10⟩ := id h
  have bad : ∃ r σ' μ', f_X6_row_J20 σ = some (r, σ') ∧ f_X7_row_J20 μ = some (r, μ') ∧ TieZ σ' μ' := by
    rw [e_X6_row_J20, e_X7_row_J20]
    exact ref_bnd h (-2) (by decide)
  rw [e_X6_row, e_X7_row]
  by_cases hx : (0 ≤ x ∧ x ≤ nI 7)
  · obtain ⟨r, hr, rfl⟩ := in_nI (b := 7) (by decide) hx
    rw [bnd_of (isIn_nI hr (by decide)), bnd_of (in7_nI hr (by decide)), if_neg (by decide : ¬ nI 1 = nI 0), if_neg (by decide : ¬ nI 1 = nI 0)]
    by_cases hy : (0 ≤ y ∧ y ≤ nI 90)
    · rw [bnd_of (isIn_t (a := nI 0) (b := nI 90) hy), bnd_of (in7_t (a := nI 0) (b := nI 90) hy), if_neg (by decide : ¬ nI 1 = nI 0), if_neg (by decide : ¬ nI 1 = nI 0)]
      obtain ⟨-, -, qc, qd, -⟩ := id h2
      generalize hW : Q 1 = W at qc qd
      -- the rows at first
      obtain ⟨s0, hs0⟩ : ∃ s0, s0 = sAA σ 14 (va_cpy (σ.1 0) (σ.1 14) (nI (10 * r)).toNatClampNeg (nI 0).toNatClampNeg (nI 10).toNatClampNeg) := ⟨_, rfl⟩
      have f0 : FmZ [14] [] σ s0 := by rw [hs0]; exact FmZ.sAA FmZ.rfl' (by decide) _
      have row0 : ∀ k, k < 10 → s0.1 14 k = nI (F 0 (10 * r + k)) := by
        intro k hk
        rw [hs0, sAA_self, nI_clamp (by omega), nI_clamp (by decide), nI_clamp (by decide)]
        unfold va_cpy
        rw [if_pos (by omega), show 10 * r + (k - 0) = 10 * r + k from by omega]
        exact h3.1 _ (by omega)
      obtain ⟨rz, ez, hz, -⟩ := loop_store (σ := μ) (k := 12) (off := 0) (N := 10) (new := fun _ => nI 0) (body := f_X7_row_L32 (nI r) y (nI 0)) (fuel := 4096) (by decide) (fun i q hi _ _ => by
        rw [e_X7_row_L32, if_neg (nI_ge hi (by decide)), gd_nI (by omega) (by decide), sA_nI _ _ _ (by omega), sAA_self, sAA_sAA, nI_add, Nat.zero_add]) (fun q => by
        rw [e_X7_row_L32, if_pos (nI_le (Nat.le_refl 10) (by decide))])
      have R0 : RlQ σ μ s0 (sAA μ 12 rz) (fun k => nI (F 0 (10 * r + k))) := by
        refine ⟨fun k hk => ?_, f0, FmZ.sAA FmZ.rfl' (by decide) _⟩
        have := hz k hk
        rw [Nat.zero_add] at this
        rw [row0 k hk, sAA_self, this, add_0Z]
      have c7 : ∀ s, FmZ [14] [] σ s → gI s 7 = nI W := fun s hf => by show s.2 7 = _; rw [hf.2 7 (by decide), ← hW]; exact h4.2.2.1
      have m1 : ∀ s, FmZ [12] [] μ s → rd s 3 (nI 1) = nI W := fun s hf => by rw [rd_nI _ 3 (by decide), hf.1 3 (by decide), ← hW]; exact h7 1 (by decide)
      have cs : ∀ s k, FmZ [14] [] σ s → k < 10 → rd s 1 (nI (10 * r + k)) = nI (F 1 (10 * r + k)) := fun s k hf hk => by rw [rd_nI _ 1 (by omega), hf.1 1 (by decide)]; exact h3.2.1 _ (by omega)
      have ms : ∀ s k, FmZ [12] [] μ s → k < 10 → rd s 0 (nI (80 + 10 * r + k)) = nI (F 1 (10 * r + k)) := fun s k hf hk => by rw [rd_nI _ 0 (by omega), hf.1 0 (by decide), Nat.add_assoc]; exact h6.2.1 _ (by omega)
      have ma : ∀ s k, FmZ [12] [] μ s → k < 10 → rd s 0 (nI (10 * r + k)) = nI (F 0 (10 * r + k)) := fun s k hf hk => by rw [rd_nI _ 0 (by omega), hf.1 0 (by decide)]; exact h6.1 _ (by omega)
      -- one stretch
      have one : ∀ i (b0 : Int32) s s', i + W ≤ 10 → RlQ σ μ s s' (fun k => nI (F 0 (10 * r + k))) → (∃ b s1 s1', bnd (f_X1_stretch (nI (i + W - 1)) s) (fun r1 => f_X1_leastInRow_J55 (nI r) y b0 (nI (i + W - 1)) (y - r1) (nI (i + W - 1)) s) = some (.inr (b, nI (i + 1 + W - 1), s1)) ∧ f_X7_row_J77 (nI r) y b0 (nI i) y (nI i) s' = some (.inr (b, nI (i + 1), s1')) ∧ RlQ σ μ s1 s1' (fun k => nI (F 0 (10 * r + k)))) ∨ (∃ s1 s1', bnd (f_X1_stretch (nI (i + W - 1)) s) (fun r1 => f_X1_leastInRow_J55 (nI r) y b0 (nI (i + W - 1)) (y - r1) (nI (i + W - 1)) s) = some (.inl (.inl (-nI 1, s1))) ∧ f_X7_row_J77 (nI r) y b0 (nI i) y (nI i) s' = some (.inl (.inl (-nI 1, s1'))) ∧ RlQ σ μ s1 s1' (fun k => nI (F 0 (10 * r + k)))) := by
        intro i b0 s s' hi hR
        have lo : (nI (i + W - 1) - nI W).toInt = (i : Int) - 1 := by
          rw [pk_sub_toInt (by omega) (by omega)]; omega
        -- what is lacking
        have lack : loopN (f_X7_row_L77 (nI r) y b0 (nI i) s') 4096 (y, nI i) = some (y - sumI (fun k => s.1 14 (i + k)) W) := by
          have e0 : (y, nI i) = (y - sumI (fun k => s.1 14 (i + k)) 0, nI (i + 0)) := by
            show (y, nI i) = (y - nI 0, nI i)
            rw [show y - nI 0 = y from Int32.sub_zero y]
          rw [e0]
          refine loopN_run (tr := fun j => (y - sumI (fun k => s.1 14 (i + k)) j, nI (i + j))) W _ ?_ ?_ (by omega)
          · intro j hj
            rw [e_X7_row_L77, gd_nI (by decide) (by decide), m1 s' hR.2.2, nI_add, if_neg (nI_ge (by omega) (by omega)), pk_mul, nI_add, gd_nI (by omega) (by decide), gd_nI (by omega) (by decide), ma s' (i + j) hR.2.2 (by omega), rd_nI _ 12 (by omega), nI_add, Int32.sub_sub]
            have := hR.1 (i + j) (by omega)
            dsimp only at this
            rw [← this]
            rfl
          · rw [e_X7_row_L77, gd_nI (by decide) (by decide), m1 s' hR.2.2, nI_add, if_pos (nI_le (Nat.le_refl _) (by omega))]
        rw [bnd_of (stretch_ok (c7 s hR.2.1) hi qc), e_X7_row_J77, bnd_of lack, e_X7_row_J122, gd_nI (by decide) (by decide), m1 s' hR.2.2, nI_add, pk_sub (by omega), e_X1_leastInRow_J55, e_X7_row_J135]
        generalize y - sumI (fun k => s.1 14 (i + k)) W = lk
        have two : ∃ v w, loopN (f_X1_leastInRow_L55 (nI r) y (nI (i + W - 1))) 4096 (b0, lk, nI (i + W - 1), s) = some v ∧ loopN (f_X7_row_L135 (nI r) y (nI i)) 4096 (b0, lk, nI (i + W - 1), s') = some w ∧ v.1 = w.1 ∧ v.2.1 = w.2.1 ∧ RlQ σ μ v.2.2 w.2.2 (fun k => nI (F 0 (10 * r + k))) := by
          refine loop_twoQ (Inv := fun j v w => v.1 = w.1 ∧ v.2.1 = w.2.1 ∧ v.2.2.1 = colQ i W j ∧ w.2.2.1 = colQ i W j ∧ RlQ σ μ v.2.2.2 w.2.2.2 (fun k => nI (F 0 (10 * r + k)))) W ?_ ?_ (by omega) ⟨rfl, rfl, by rw [colQ_y (by omega)]; rfl, by rw [colQ_y (by omega)]; rfl, hR⟩
          · rintro j ⟨a1, a2, a3, a4⟩ ⟨d1, d2, d3, d4⟩ hj ⟨q1, q2, q3, q4, q5⟩
            dsimp only at q1 q2 q3 q4 q5
            subst q1 q2 q3 q4
            have hcol : i + W - 1 - j < 10 := by omega
            have bF1 := (h1.1 (10 * r + (i + W - 1 - j)) (by omega)).2.1
            rw [colQ_y hj, e_X1_leastInRow_L55, e_X7_row_L135, c7 a4 q5.2.1, if_neg (by
              rw [Int32.le_iff_toInt_le, lo, nI_toInt (by omega)]
              omega), if_neg (nI_nlt (by omega) (by omega))]
            by_cases z : a2 ≤ nI 0
            · right
              rw [if_pos z, if_pos z]
              exact ⟨_, _, rfl, rfl, rfl, rfl, q5⟩
            · left
              have step : ∀ t0 : Int32, ∃ v' w', f_X1_leastInRow_J107 (nI r) y a1 (nI (i + W - 1)) a2 (nI (i + W - 1 - j)) t0 a4 = some (.inr v') ∧ f_X7_row_J193 (nI r) y a1 (nI i) a2 (nI (i + W - 1 - j)) t0 d4 = some (.inr w') ∧ v'.1 = w'.1 ∧ v'.2.1 = w'.2.1 ∧ v'.2.2.1 = colQ i W (j + 1) ∧ w'.2.2.1 = colQ i W (j + 1) ∧ RlQ σ μ v'.2.2.2 w'.2.2.2 (fun k => nI (F 0 (10 * r + k))) := by
                intro t0
                have e193 : f_X7_row_J193 (nI r) y a1 (nI i) a2 (nI (i + W - 1 - j)) t0 d4 = f_X7_row_J209 (nI r) y a1 (nI i) a2 (nI (i + W - 1 - j)) (jmin t0 a2) d4 := by
                  rw [jmin_alt, e_X7_row_J193]
                  by_cases z2 : a2 ≤ t0
                  · rw [if_pos z2, if_pos z2]
                  · rw [if_neg z2, if_neg z2]
                rw [e193, e_X1_leastInRow_J107, e_X7_row_J209]
                generalize jmin t0 a2 = pt
                rw [gd_nI hcol (by decide), gd_nI hcol (by decide), gd_nI (by omega) (by decide), gd_nI (by omega) (by decide), rd_nI _ 14 (by omega), rd_nI _ 12 (by omega), colQ_s hj]
                refine ⟨_, _, rfl, rfl, rfl, rfl, rfl, rfl, fun k hk => ?_, FmZ.sA q5.2.1 (by decide) _ _, FmZ.sA q5.2.2 (by decide) _ _⟩
                dsimp only
                rw [sA_at _ _ (by omega), sA_at _ _ (by omega)]
                unfold upd
                by_cases z2 : k = i + W - 1 - j
                · have := q5.1 (i + W - 1 - j) hcol
                  dsimp only at this
                  rw [if_pos z2, if_pos z2, this, Int32.add_assoc, z2]
                · rw [if_neg z2, if_neg z2]
                  exact q5.1 k hk
              rw [if_neg z, if_neg z, pk_mul, nI_add, nI_add, nI_add, gd_nI (by omega) (by decide), gd_nI (by omega) (by decide), cs a4 _ q5.2.1 hcol, ms d4 _ q5.2.2 hcol, ma d4 _ q5.2.2 hcol, gd_nI (by omega) (by decide), gd_nI (by omega) (by decide), gd_nI (by omega) (by decide), rd_nI _ 14 (by omega), rd_nI _ 12 (by omega)]
              by_cases z2 : F 1 (10 * r + (i + W - 1 - j)) = 0
              · have e9 : nI 9 - a4.1 14 (i + W - 1 - j) = nI 9 - nI (F 0 (10 * r + (i + W - 1 - j))) - d4.1 12 (i + W - 1 - j) := by
                  rw [Int32.sub_sub]
                  exact congrArg (fun v => nI 9 - v) (q5.1 (i + W - 1 - j) hcol)
                rw [if_pos (by rw [z2]), if_neg (by rw [z2]; decide), e9]
                exact step _
              · have e1 : F 1 (10 * r + (i + W - 1 - j)) = 1 := by omega
                rw [if_neg (by rw [e1]; decide), if_pos (by rw [e1])]
                exact step _
          · rintro ⟨a1, a2, a3, a4⟩ ⟨d1, d2, d3, d4⟩ ⟨q1, q2, q3, q4, q5⟩
            dsimp only at q1 q2 q3 q4 q5
            subst q1 q2 q3 q4
            rw [colQ_n, e_X1_leastInRow_L55, e_X7_row_L135, c7 a4 q5.2.1, if_pos (by
              rw [Int32.le_iff_toInt_le, lo, lowQ_toInt (by omega)]
              omega), if_pos (by
              rw [Int32.lt_iff_toInt_lt, lowQ_toInt (by omega), nI_toInt (by omega)]
              omega)]
            exact ⟨_, _, rfl, rfl, rfl, rfl, q5⟩
        obtain ⟨⟨v1, v2, v3⟩, ⟨w1, w2, w3⟩, e1, e2, k1, k2, k3⟩ := two
        dsimp only at k1 k2 k3
        subst k1 k2
        rw [bnd_of e1, bnd_of e2]
        dsimp only
        rw [e_X1_leastInRow_J148, e_X7_row_J241]
        by_cases z : v2 ≤ nI 0
        · left
          rw [if_pos z, if_pos z, nI_add, nI_add, show i + W - 1 + 1 = i + 1 + W - 1 from by omega]
          exact ⟨_, _, _, rfl, rfl, k3⟩
        · right
          rw [if_neg z, if_neg z]
          exact ⟨_, _, rfl, rfl, k3⟩
      have out : ∃ v w, loopN (f_X1_leastInRow_L34 (nI r) y) 4096 (nI 0, nI (0 + W - 1), s0) = some v ∧ loopN (f_X7_row_L56 (nI r) y) 4096 (nI 0, nI 0, sAA μ 12 rz) = some w ∧ ∃ b s s', (v = .inl (b, s) ∨ v = .inr (b, s)) ∧ (w = .inl (b, s') ∨ w = .inr (b, s')) ∧ RlQ σ μ s s' (fun k => nI (F 0 (10 * r + k))) := by
        refine loop_twoQ (Inv := fun i v w => v.1 = w.1 ∧ v.2.1 = nI (i + W - 1) ∧ w.2.1 = nI i ∧ RlQ σ μ v.2.2 w.2.2 (fun k => nI (F 0 (10 * r + k)))) (11 - W) ?_ ?_ (by omega) ⟨rfl, rfl, rfl, R0⟩
        · rintro i ⟨a1, a2, a3⟩ ⟨d1, d2, d3⟩ hi ⟨q1, q2, q3, q4⟩
          dsimp only at q1 q2 q3 q4
          subst q1 q2 q3
          rw [e_X1_leastInRow_L34, e_X7_row_L56, gd_nI (by decide) (by decide), m1 d3 q4.2.2, nI_add, if_neg (nI_ge (by omega) (by omega)), if_neg (nI_nlt (by omega) (by omega))]
          rcases one i a1 a3 d3 (by omega) q4 with ⟨b, s1, s1', e1, e2, hR1⟩ | ⟨s1, s1', e1, e2, hR1⟩
          · exact Or.inl ⟨_, _, e1, e2, rfl, rfl, rfl, hR1⟩
          · exact Or.inr ⟨_, _, e1, e2, _, _, _, Or.inl rfl, Or.inl rfl, hR1⟩
        · rintro ⟨a1, a2, a3⟩ ⟨d1, d2, d3⟩ ⟨q1, q2, q3, q4⟩
          dsimp only at q1 q2 q3 q4
          subst q1 q2 q3
          rw [e_X1_leastInRow_L34, e_X7_row_L56, gd_nI (by decide) (by decide), m1 d3 q4.2.2, nI_add, if_pos (nI_le (by omega) (by omega)), if_pos (nI_lt (by omega) (by omega))]
          exact ⟨_, _, rfl, rfl, _, _, _, Or.inr rfl, Or.inr rfl, q4⟩
      obtain ⟨v, w, e1, e2, b, s, s', hv, hw, hR⟩ := out
      have hT : TieZ s s' := (h.scC (hR.2.1.mono (by decide) (by decide))).scM (hR.2.2.mono (by decide) (by decide))
      refine ⟨b, s, s', ?_, ?_, hT⟩
      · have el : f_X1_leastInRow (nI r) y σ = some (b, s) := by
          rw [e_X1_leastInRow, pk_mul, gq_ok (by
            rw [nI_clamp (by omega), nI_clamp (by decide), nI_clamp (by decide)]
            exact ⟨nI_nn (by omega), by decide, by decide, by omega, by omega⟩), ← hs0, c7 s0 f0, pk_sub qc, e_X1_leastInRow_J34, show W - 1 = 0 + W - 1 from by omega, bnd_of e1]
          rcases hv with rfl | rfl
          · rfl
          · rfl
        rw [bnd_of el]
      · rw [e_X7_row_J32, bnd_of ez, e_X7_row_J53, e_X7_row_J56, bnd_of e2]
        rcases hw with rfl | rfl
        · rfl
        · rfl
    · rw [bnd_of (isIn_n hy), bnd_of (in7_n hy), if_pos (rfl : nI 0 = nI 0), if_pos (rfl : nI 0 = nI 0)]
      exact bad
  · rw [bnd_of (isIn_n hx), bnd_of (in7_n hx), if_pos (rfl : nI 0 = nI 0), if_pos (rfl : nI 0 = nI 0)]
    exact bad
