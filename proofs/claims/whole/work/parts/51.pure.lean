/-! ===== PURE 13: draw, rules, undo ===== -/
def drX (s : Nat) : Nat → Nat
  | 0 => s
  | n + 1 => (drX s n * 1103515245 + 12345) % 2147483648
theorem drX_lt {s : Nat} (h : s < 2147483648) : ∀ n, drX s n < 2147483648 := by
  intro n
  cases n with
  | zero => exact h
  | succ n => exact Nat.mod_lt _ (by decide)
def drS (s v i : Nat) : Nat := drX s (i + 1) / 65536 % (v + 1)
theorem jlrem_lN {a b : Nat} (ha : a < 2 ^ 63) (h0 : 0 < b) (hb : b < 2 ^ 63) : jlrem (lN a) (lN b) = lN (a % b) := pk_lRem ha h0 hb
theorem litL (n : Nat) : (OfNat.ofNat n : Int64) = lN n := fa_litL n
theorem drNext {s n : Nat} (hs : s < 2147483648) : jlrem ((lN (drX s n) * (1103515245 : Int64)) + (12345 : Int64)) (2147483648 : Int64) = lN (drX s (n + 1)) := by
  have h := drX_lt hs n
  rw [litL 1103515245, litL 12345, litL 2147483648, lN_mul, lN_add, jlrem_lN (by omega) (by decide) (by decide)]
  rfl
theorem drShape {s v n : Nat} (hs : s < 2147483648) (hv : v ≤ 9) : (jlrem (lN (drX s (n + 1)) / (65536 : Int64)) (lN (v + 1))).toInt32 = nI (drS s v n) := by
  have h := drX_lt hs (n + 1)
  rw [litL 65536, pk_lDiv (by omega) (by decide) (by decide), jlrem_lN (by omega) (by omega) (by omega), lN_i]
  rfl
theorem drS_le {s v n : Nat} : drS s v n ≤ v := by
  have := Nat.mod_lt (drX s (n + 1) / 65536) (show 0 < v + 1 by omega)
  unfold drS
  omega
theorem dzl_ne {α : Type} {y : Int64} {e : Option α} (h : ¬ y = 0) : dzl y e = e := if_neg h
theorem lN_ne0 {n : Nat} (h0 : 0 < n) (h : n < 2 ^ 31) : ¬ lN n = 0 := by
  intro e
  have := (lN_eq (a := n) (b := 0) h (by decide)).mp e
  omega
theorem drawShapes_ok (σ : St) {s v : Nat} (hs : s < 2147483648) (hv : v ≤ 9) : ∃ r, f_X0_drawShapes (nI s) (nI v) σ = some (sAA σ 0 r) ∧ ∀ c, c < 80 → r c = nI (drS s v c) := by
  have ev : jmax (nI v) (nI 0) = nI v := by
    unfold jmax
    rw [if_neg (nI_nlt (Nat.zero_le _) (by omega))]
  rw [e_X0_drawShapes, ev, nI_add, nI_l (by omega), e_X0_drawShapes_J15]
  have hm : ∃ y, loopN (f_X0_drawShapes_L15 (nI (v + 1))) 4096 (lN s, nI 0, σ) = some y ∧ ∃ r, y = sAA σ 0 r ∧ ∀ c, c < 80 → r c = nI (drS s v c) := by
    refine loop_for (Inv := fun i w => ∃ r, w = (lN (drX s i), nI i, sAA σ 0 r) ∧ ∀ c, c < i → r c = nI (drS s v c)) 80 ?_ ?_ (by decide) ⟨σ.1 0, by rw [sAA_id]; rfl, fun c h => by omega⟩
    · rintro i w hi ⟨r, rfl, h1⟩
      refine ⟨_, ?_, upd r i (nI (drS s v i)), rfl, ?_⟩
      · rw [e_X0_drawShapes_L15, if_neg (nI_ge hi (by decide)), nI_l (by omega), dzl_ne (lN_ne0 (by omega) (by omega)), gd_nI hi (by decide), drNext hs, drShape hs hv, sA_nI _ _ _ (by omega), sAA_self, sAA_sAA, nI_add]
      · intro c hc
        unfold upd
        by_cases q : c = i
        · rw [if_pos q, q]
        · rw [if_neg q]; exact h1 c (by omega)
    · rintro w ⟨r, rfl, h1⟩
      refine ⟨_, ?_, r, rfl, h1⟩
      rw [e_X0_drawShapes_L15, if_pos (nI_le (Nat.le_refl _) (by decide))]
  obtain ⟨y, e, r, rfl, h⟩ := hm
  exact ⟨r, by rw [bnd_of e], h⟩
def drawF (F : FF) (d : Nat → Nat) : FF := fun k => if k = 0 then d else if k = 4 then (fun _ => 0) else F k
theorem drawF_ok {F : FF} {d : Nat → Nat} (h : FfOk F) (hd : ∀ c, d c ≤ 9) : FfOk (drawF F d) := by
  refine ⟨fun c hc => ?_, fun c e _ _ _ _ => rfl⟩
  have q := h.1 c hc
  exact ⟨hd c, q.2.1, q.2.2.1, q.2.2.2.1, Nat.zero_le _⟩
theorem mdraw_ok (μ : St) {s v : Nat} (hs : s < 2147483648) (hv : v ≤ 9) : ∃ r, f_X7_draw_J44 (nI v) (nI 0) (lN s) (nI 0) μ = some (nI (sumZ (drS s v) 80), sAA μ 0 r) ∧ (∀ c, c < 80 → r c = nI (drS s v c)) ∧ (∀ c, c < 80 → r (320 + c) = nI 0) ∧ ∀ c, 80 ≤ c → c < 320 → r c = μ.1 0 c := by
  rw [e_X7_draw_J44]
  have hm : ∃ y, loopN (f_X7_draw_L44 (nI v)) 4096 (nI 0, lN s, nI 0, μ) = some y ∧ ∃ r, y = (nI (sumZ (drS s v) 80), sAA μ 0 r) ∧ (∀ c, c < 80 → r c = nI (drS s v c)) ∧ (∀ c, c < 80 → r (320 + c) = nI 0) ∧ ∀ c, 80 ≤ c → c < 320 → r c = μ.1 0 c := by
    refine loop_for (Inv := fun i w => ∃ r, w = (nI (sumZ (drS s v) i), lN (drX s i), nI i, sAA μ 0 r) ∧ (∀ c, c < i → r c = nI (drS s v c)) ∧ (∀ c, c < i → r (320 + c) = nI 0) ∧ ∀ c, 80 ≤ c → c < 320 → r c = μ.1 0 c) 80 ?_ ?_ (by decide) ⟨μ.1 0, by rw [sAA_id]; rfl, fun c h => by omega, fun c h => by omega, fun _ _ _ => rfl⟩
    · rintro i w hi ⟨r, rfl, h1, h2, h3⟩
      have eA : sA (sAA μ 0 r) 0 (nI i) (nI (drS s v i)) = sAA μ 0 (upd r i (nI (drS s v i))) := by rw [sA_nI _ _ _ (by omega), sAA_self, sAA_sAA]
      have eB : sA (sAA μ 0 (upd r i (nI (drS s v i)))) 0 (nI (320 + i)) (nI 0) = sAA μ 0 (upd (upd r i (nI (drS s v i))) (320 + i) (nI 0)) := by rw [sA_nI _ _ _ (by omega), sAA_self, sAA_sAA]
      refine ⟨_, ?_, upd (upd r i (nI (drS s v i))) (320 + i) (nI 0), rfl, ?_, ?_, ?_⟩
      · rw [e_X7_draw_L44, if_neg (nI_ge hi (by decide)), nI_add, nI_add, nI_l (by omega), dzl_ne (lN_ne0 (by omega) (by omega)), gd_nI (by omega) (by decide), gd_nI (by omega) (by decide), gd_nI (by omega) (by decide), drNext hs, drShape hs hv, eA, eB, rd_nI _ 0 (by omega), sAA_self]
        rw [show upd (upd r i (nI (drS s v i))) (320 + i) (nI 0) i = nI (drS s v i) from by unfold upd; rw [if_neg (by omega), if_pos rfl], nI_add, nI_add]
        rfl
      · intro c hc
        unfold upd
        rw [if_neg (by omega)]
        by_cases q : c = i
        · rw [if_pos q, q]
        · rw [if_neg q]; exact h1 c (by omega)
      · intro c hc
        unfold upd
        by_cases q : c = i
        · rw [if_pos (by omega)]
        · rw [if_neg (by omega), if_neg (by omega)]; exact h2 c (by omega)
      · intro c hc1 hc2
        unfold upd
        rw [if_neg (by omega), if_neg (by omega)]
        exact h3 c hc1 hc2
    · rintro w ⟨r, rfl, h1, h2, h3⟩
      refine ⟨_, ?_, r, rfl, h1, h2, h3⟩
      rw [e_X7_draw_L44, if_pos (nI_le (Nat.le_refl _) (by decide))]
  obtain ⟨y, e, r, rfl, h⟩ := hm
  exact ⟨r, by rw [bnd_of e], h⟩
theorem draw_core {σ μ : St} (h : TieZ σ μ) {s v : Nat} {d : Nat → Nat} (hd9 : ∀ c, d c ≤ 9) (hA : ∀ s9 : St, ∃ r, f_X0_drawShapes (nI s) (nI v) s9 = some (sAA s9 0 r) ∧ ∀ c, c < 80 → r c = nI (d c)) (hB : ∀ μ9 : St, ∃ r, f_X7_draw_J44 (nI v) (nI 0) (lN s) (nI 0) μ9 = some (nI (sumZ d 80), sAA μ9 0 r) ∧ (∀ c, c < 80 → r c = nI (d c)) ∧ (∀ c, c < 80 → r (320 + c) = nI 0) ∧ ∀ c, 80 ≤ c → c < 320 → r c = μ9.1 0 c) : ∃ r σ' μ', bnd (f_X2_note σ) (fun r4 => bnd (f_X0_drawShapes (nI s) (nI v) r4) (fun r5 => bnd (f_J7_fill_53178 4 (nI 0) r5) (fun r6 => bnd (f_X1_measure r6) (fun r7 => bnd (f_X2_keep r7) (fun r8 => bnd (f_X6_total 0 r8) (fun r9 => some (r9, r8))))))) = some (r, σ') ∧ bnd (f_X7_aside μ) (fun r4 => bnd (f_X7_keeps r4) (fun r5 => f_X7_draw_J44 (nI v) (nI 0) (lN s) (nI 0) r5)) = some (r, μ') ∧ TieZ σ' μ' := by
  obtain ⟨F, Q, n, t, o, P, h1, h2, h3, h4, h5, h6, h7, h8, h9, h10⟩ := h
  obtain ⟨hn, ho, hk, hk2, hol, hP1, hP2, hP3⟩ := id h10
  obtain ⟨r, e1, hr, hr2⟩ := note_ok h3 h1.1 hol ho hk hn
  obtain ⟨r0, e2, hr0⟩ := hA (sAA σ 15 r)
  obtain ⟨r2, r1, m1, m2, m3⟩ := mkeep_ok hn hk2 h6 hP2
  obtain ⟨y, m4, hy1, hy2, hy3⟩ := hB (sI (sAA (sAA μ 2 r2) 1 r1) 0 (nI (min (n + 1) 8)))
  obtain ⟨z, e3, hz⟩ := fill_ok (sAA (sAA σ 15 r) 0 r0) 4 (nI 0) 80 rfl (by decide)
  have c1 : CF (sAA (sAA (sAA σ 15 r) 0 r0) 4 z) (drawF F d) := ⟨hr0, h3.2.1, h3.2.2.1, h3.2.2.2.1, hz⟩
  have hF' := drawF_ok (d := d) h1 hd9
  obtain ⟨σ3, e4, d1, d2, d3, d4, d5⟩ := measure_ok _ _ Q c1 hF'.1 h4 h2
  have ek := keep_eq (σ := σ3) (by rw [d5]; exact hol) ho (by rw [d5]; exact hk) hn
  obtain ⟨σ4, e5⟩ : ∃ σ4, f_X2_keep σ3 = some σ4 := ⟨_, ek⟩
  have e4r : σ4.1 0 = σ3.1 0 := by
    rw [e5] at ek
    rw [Option.some.inj ek]
    split <;> rfl
  have e6 : f_X6_total 0 σ4 = some (nI (sumZ d 80)) := total_eq σ4 0 rfl d (fun c hc => by rw [e4r]; exact d1.1 c hc)
  refine ⟨nI (sumZ d 80), σ4, sAA (sI (sAA (sAA μ 2 r2) 1 r1) 0 (nI (min (n + 1) 8))) 0 y, ?_, ?_, ?_⟩
  · rw [bnd_of e1, bnd_of e2, bnd_of e3, bnd_of e4, bnd_of e5, bnd_of e6]
  · rw [bnd_of m1, bnd_of m2, m4]
  · refine tie_push (F' := drawF F d) h1 h2 h8 h9 h10 hr hr2 hF' d1 d2 d3 ?_ ?_ ?_ e5 ⟨hy1, ?_, ?_, ?_, hy2⟩ h7 rfl rfl rfl rfl m3
    · rw [d4 15 (by decide)]; rfl
    · rw [d4 16 (by decide)]; rfl
    · rw [d5]; rfl
    · intro c hc; show y (80 + c) = _; rw [hy3 _ (by omega) (by omega)]; exact h6.2.1 c hc
    · intro c hc; show y (160 + c) = _; rw [hy3 _ (by omega) (by omega)]; exact h6.2.2.1 c hc
    · intro c hc; show y (240 + c) = _; rw [hy3 _ (by omega) (by omega)]; exact h6.2.2.2.1 c hc
