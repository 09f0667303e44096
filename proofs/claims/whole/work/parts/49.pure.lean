/-! ===== PURE 11: the reference's settling; sets ===== -/
theorem CF.uni {σ : St} {F : FF} (h : CF σ F) : ∀ k c, k < 5 → c < 80 → σ.1 k c = nI (F k c) := by
  intro k c hk hc
  obtain ⟨h0, h1, h2, h3, h4⟩ := h
  match k, hk with
  | 0, _ => exact h0 c hc
  | 1, _ => exact h1 c hc
  | 2, _ => exact h2 c hc
  | 3, _ => exact h3 c hc
  | 4, _ => exact h4 c hc
  | k + 5, hk => omega
theorem CF.ofU {σ : St} {F : FF} (h : ∀ k c, k < 5 → c < 80 → σ.1 k c = nI (F k c)) : CF σ F := ⟨fun c hc => h 0 c (by decide) hc, fun c hc => h 1 c (by decide) hc, fun c hc => h 2 c (by decide) hc, fun c hc => h 3 c (by decide) hc, fun c hc => h 4 c (by decide) hc⟩
theorem malike_ok (μ : St) (t f : Nat → Nat) (g : Nat) (hg : g < 4) (ht : ∀ c, c < 80 → μ.1 0 (240 + c) = nI (t c)) (ht3 : ∀ c, c < 80 → t c ≤ 3) (hf : ∀ c, c < 80 → μ.1 0 (320 + c) = nI (f c)) (hf9 : ∀ c, c < 80 → f c ≤ 9) :
    ∃ r, f_X7_settles_J85 (nI g) (nI 9) (nI 0) μ = some (.inr (nI (g + 1), sAA μ 0 r)) ∧ (∀ c, c < 80 → r (320 + c) = nI (alikeZ f t g c)) ∧ ∀ c, (c < 320 ∨ 320 + 80 ≤ c) → r c = μ.1 0 c := by
  rw [e_X7_settles_J85]
  have e1 : loopN (f_X7_settles_L85 (nI g) μ) 4096 (nI 9, nI 0) = some (nI (leastN f t g 80)) := by
    refine loopN_run (tr := fun i => (nI (leastN f t g i), nI i)) 80 _ ?_ ?_ (by decide)
    · intro i hi
      rw [e_X7_settles_L85, if_neg (nI_ge hi (by decide)), nI_add, nI_add, gd_nI (by omega) (by decide), rd_nI _ 0 (by omega), ht i hi, gd_nI (by omega) (by decide), gd_nI (by omega) (by decide), rd_nI _ 0 (by omega), hf i hi, e_X7_settles_J132, nI_add, leastN_succ]
      by_cases h : t i = g
      · rw [if_pos (by rw [h]), if_pos h]
        by_cases q : leastN f t g i ≤ f i
        · rw [if_pos (nI_le q (by have := hf9 i hi; omega)), Nat.min_eq_left q]
        · rw [if_neg (nI_ge (by omega) (by have := leastN_le f t g i; omega)), Nat.min_eq_right (by omega)]
      · rw [if_neg (neq_f h (by have := ht3 i hi; omega) (by omega) rfl rfl), if_neg h]
    · rw [e_X7_settles_L85, if_pos (nI_le (Nat.le_refl 80) (by decide))]
  rw [bnd_of e1, e_X7_settles_J140, e_X7_settles_J142]
  have hm9 := loop_store (σ := μ) (k := 0) (off := 320) (N := 80) (new := fun c => nI (alikeZ f t g c)) (body := f_X7_settles_L142 (nI g) (nI (leastN f t g 80))) (fuel := 4096) (by decide) (fun i r hi h3 h4 => by
    rw [e_X7_settles_L142, if_neg (nI_ge hi (by decide)), nI_add, nI_add, gd_nI (by omega) (by decide), rd_nI _ 0 (by omega), sAA_self, h4 (240 + i) (by omega), ht i hi, gd_nI (by omega) (by decide), rd_nI _ 0 (by omega), sAA_self, e_X7_settles_J185, e_X7_settles_J185, gd_nI (by omega) (by decide), gd_nI (by omega) (by decide), sA_nI _ _ _ (by omega), sA_nI _ _ _ (by omega), sAA_self, sAA_sAA, sAA_sAA, nI_add]
    by_cases h : t i = g
    · have ea : alikeZ f t g i = leastN f t g 80 := if_pos h
      rw [if_pos (by rw [h]), ea]
    · have ea : alikeZ f t g i = f i := if_neg h
      rw [if_neg (neq_f h (by have := ht3 i hi; omega) (by omega) rfl rfl), ea, ← hf i hi, ← h4 (320 + i) (by omega)]) (fun r => by
    rw [e_X7_settles_L142, if_pos (nI_le (Nat.le_refl 80) (by decide))])
  obtain ⟨r, e, h1, h2⟩ := hm9
  exact ⟨r, by rw [bnd_of e, e_X7_settles_J192, nI_add], h1, h2⟩
theorem settles_ok (μ : St) (F : FF) (h : MFd μ F) (hs : ∀ c, c < 80 → F 0 c ≤ 9 ∧ F 1 c ≤ 1 ∧ F 2 c ≤ 3 ∧ F 3 c ≤ 3 ∧ F 4 c ≤ 9) : ∃ r, f_X7_settles μ = some (sAA μ 0 r) ∧ (∀ c, c < 80 → r (320 + c) = nI (settle4 F c)) ∧ ∀ c, (c < 320 ∨ 320 + 80 ≤ c) → r c = μ.1 0 c := by
  rw [e_X7_settles, e_X7_settles_J2]
  have hs1 : ∀ c, c < 80 → settle1 F c ≤ 9 := fun c hc => by
    have := hs c hc
    unfold settle1
    omega
  have hm := loop_store (σ := μ) (k := 0) (off := 320) (N := 80) (new := fun c => nI (settle1 F c)) (body := f_X7_settles_L2) (fuel := 4096) (by decide) (fun i r hi h3 h4 => by
    have q := hs i hi
    rw [e_X7_settles_L2, if_neg (nI_ge hi (by decide)), nI_add, nI_add, gd_nI (by omega) (by decide), rd_nI _ 0 (by omega), sAA_self, h4 (80 + i) (by omega), h.2.1 i hi, e_X7_settles_J66, gd_nI (by omega) (by decide), sA_nI _ _ _ (by omega), sAA_self, sAA_sAA, nI_add]
    by_cases q1 : F 1 i = 0
    · have eS : f_X7_sumOf (nI i) (sAA μ 0 r) = some (nI (F 0 i + F 4 i)) := by
        rw [e_X7_sumOf, nI_add, gd_nI (by omega) (by decide), gd_nI (by omega) (by decide), rd_nI _ 0 (by omega), rd_nI _ 0 (by omega), sAA_self, h4 i (by omega), h4 (320 + i) (by omega), h.1 i hi, h.2.2.2.2 i hi, nI_add]
      rw [if_neg (neq_f (b := 1) (by omega) (by omega) (by decide) rfl rfl), bnd_of eS, rd_nI _ 0 (by omega), rd_nI _ 0 (by omega), sAA_self, h4 i (by omega), h4 (320 + i) (by omega), h.1 i hi, h.2.2.2.2 i hi, gd_nI (by omega) (by decide), gd_nI (by omega) (by decide), e_X7_settles_J66, e_X7_settles_J66, gd_nI (by omega) (by decide), gd_nI (by omega) (by decide), sA_nI _ _ _ (by omega), sA_nI _ _ _ (by omega), sAA_self, sAA_sAA, sAA_sAA, nI_add]
      have eR : roomN F i = 9 - F 0 i := if_pos q1
      unfold settle1
      rw [eR]
      by_cases q2 : F 0 i + F 4 i ≤ 9
      · rw [if_pos (nI_le q2 (by decide)), Nat.min_eq_left (by omega)]
      · rw [if_neg (nI_ge (by omega) (by omega)), Nat.min_eq_right (by omega), pk_sub q.1]
    · have e1 : F 1 i = 1 := by omega
      have eR : roomN F i = 0 := if_neg q1
      unfold settle1
      rw [eR, e1, if_pos rfl, Nat.min_eq_right (Nat.zero_le _)]) (fun r => by
    rw [e_X7_settles_L2, if_pos (nI_le (Nat.le_refl 80) (by decide))])
  obtain ⟨r1, e1, h1, h1b⟩ := hm
  rw [bnd_of e1, e_X7_settles_J73, e_X7_settles_J75]
  have t3 : ∀ c, c < 80 → F 3 c ≤ 3 := fun c hc => (hs c hc).2.2.2.1
  obtain ⟨r2, e2, h2, h2b⟩ := malike_ok (sAA μ 0 r1) (F 3) (settle1 F) 1 (by decide) (fun c hc => by show r1 (240 + c) = _; rw [h1b _ (by omega)]; exact h.2.2.2.1 c hc) t3 h1 hs1
  rw [sAA_sAA] at e2
  obtain ⟨r3, e3, h3, h3b⟩ := malike_ok (sAA μ 0 r2) (F 3) (alikeZ (settle1 F) (F 3) 1) 2 (by decide) (fun c hc => by show r2 (240 + c) = _; rw [h2b _ (by omega)]; show r1 (240 + c) = _; rw [h1b _ (by omega)]; exact h.2.2.2.1 c hc) t3 h2 (alikeZ_le hs1)
  rw [sAA_sAA] at e3
  obtain ⟨r4, e4, h4, h4b⟩ := malike_ok (sAA μ 0 r3) (F 3) (alikeZ (alikeZ (settle1 F) (F 3) 1) (F 3) 2) 3 (by decide) (fun c hc => by show r3 (240 + c) = _; rw [h3b _ (by omega)]; show r2 (240 + c) = _; rw [h2b _ (by omega)]; show r1 (240 + c) = _; rw [h1b _ (by omega)]; exact h.2.2.2.1 c hc) t3 h3 (alikeZ_le (alikeZ_le hs1))
  rw [sAA_sAA] at e4
  refine ⟨r4, ?_, h4, fun c hc => ?_⟩
  · have s1 : f_X7_settles_L75 (nI 1, sAA μ 0 r1) = some (.inr (nI 2, sAA μ 0 r2)) := by
      rw [e_X7_settles_L75, if_neg (by decide), e2]
    have s2 : f_X7_settles_L75 (nI 2, sAA μ 0 r2) = some (.inr (nI 3, sAA μ 0 r3)) := by
      rw [e_X7_settles_L75, if_neg (by decide), e3]
    have s3 : f_X7_settles_L75 (nI 3, sAA μ 0 r3) = some (.inr (nI 4, sAA μ 0 r4)) := by
      rw [e_X7_settles_L75, if_neg (by decide), e4]
    have s4 : f_X7_settles_L75 (nI 4, sAA μ 0 r4) = some (.inl (sAA μ 0 r4)) := by
      rw [e_X7_settles_L75, if_pos (by decide)]
    rw [bnd_of (x := sAA μ 0 r4) ((loop_r (n := 4095) s1).trans ((loop_r (n := 4094) s2).trans ((loop_r (n := 4093) s3).trans (loop_l (n := 4092) s4))))]
  · rw [h4b c hc]
    show r3 c = _
    rw [h3b c hc]
    show r2 c = _
    rw [h2b c hc]
    show r1 c = _
    exact h1b c hc
/-- a settled field is in order -/
theorem settle_ff {F : FF} (hs : ∀ c, c < 80 → F 0 c ≤ 9 ∧ F 1 c ≤ 1 ∧ F 2 c ≤ 3 ∧ F 3 c ≤ 3 ∧ F 4 c ≤ 9) : FfOk (withFill F (settle4 F)) := by
  have hs1 : ∀ c, c < 80 → settle1 F c ≤ 9 := fun c hc => by
    have := hs c hc
    unfold settle1
    omega
  refine ⟨fun c hc => ?_, fun c d hc hd e hne => ?_⟩
  · have q := hs c hc
    exact ⟨q.1, q.2.1, q.2.2.1, q.2.2.2.1, alikeZ_le (alikeZ_le (alikeZ_le hs1)) c hc⟩
  · have e : F 3 c = F 3 d := e
    have hne : F 3 c ≠ 0 := hne
    have h3 := (hs c hc).2.2.2.1
    show settle4 F c = settle4 F d
    have key : ∀ x, F 3 x = F 3 c → settle4 F x = if F 3 c = 3 then leastN (alikeZ (alikeZ (settle1 F) (F 3) 1) (F 3) 2) (F 3) 3 80 else if F 3 c = 2 then leastN (alikeZ (settle1 F) (F 3) 1) (F 3) 2 80 else leastN (settle1 F) (F 3) 1 80 := by
      intro x hx
      unfold settle4
      by_cases q3 : F 3 c = 3
      · rw [if_pos q3]
        exact if_pos (hx.trans q3)
      · rw [if_neg q3]
        refine (if_neg (fun z => q3 (hx.symm.trans z))).trans ?_
        by_cases q2 : F 3 c = 2
        · rw [if_pos q2]
          exact if_pos (hx.trans q2)
        · rw [if_neg q2]
          refine (if_neg (fun z => q2 (hx.symm.trans z))).trans ?_
          exact if_pos (by omega)
    rw [key c rfl, key d e.symm]
/-- one part of one cell becomes another -/
def setF (F : FF) (w c v : Nat) : FF := fun k j => if k = w ∧ j = c then v else F k j
def partMost (w : Nat) : Nat := match w with
  | 0 => 9
  | 1 => 1
  | _ => 3
theorem setF_ok {F : FF} {w c v : Nat} (hw : w < 4) (hv : v ≤ partMost w) (hs : ∀ c, c < 80 → F 0 c ≤ 9 ∧ F 1 c ≤ 1 ∧ F 2 c ≤ 3 ∧ F 3 c ≤ 3 ∧ F 4 c ≤ 9) : ∀ d, d < 80 → setF F w c v 0 d ≤ 9 ∧ setF F w c v 1 d ≤ 1 ∧ setF F w c v 2 d ≤ 3 ∧ setF F w c v 3 d ≤ 3 ∧ setF F w c v 4 d ≤ 9 := by
  intro d hd
  have q := hs d hd
  unfold setF
  match w, hw, hv with
  | 0, _, hv => have hv : v ≤ 9 := hv; refine ⟨?_, ?_, ?_, ?_, ?_⟩ <;> split <;> omega
  | 1, _, hv => have hv : v ≤ 1 := hv; refine ⟨?_, ?_, ?_, ?_, ?_⟩ <;> split <;> omega
  | 2, _, hv => have hv : v ≤ 3 := hv; refine ⟨?_, ?_, ?_, ?_, ?_⟩ <;> split <;> omega
  | 3, _, hv => have hv : v ≤ 3 := hv; refine ⟨?_, ?_, ?_, ?_, ?_⟩ <;> split <;> omega
  | w + 4, hw, _ => omega
