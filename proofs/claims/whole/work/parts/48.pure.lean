/-! ===== PURE 10: calls that can be undone: a field more is known, all else is tied anew ===== -/
theorem tie_push {σ μ : St} {F F' : FF} {Q : Nat → Nat} {n t o : Nat} {P : Nat → FF} (hF : FfOk F) (hQ : QOk Q) (hc : Cts σ μ) (ht : Txz σ μ t) (hh : Hst σ μ n o P) {r : Nat → Int32} (hr : ∀ c, c < 80 → r (80 * ((o + n) % 9) + c) = nI (packZ F c)) (hr2 : ∀ c, (c < 80 * ((o + n) % 9) ∨ 80 * ((o + n) % 9) + 80 ≤ c) → r c = σ.1 15 c)
    {σ3 σ4 μ3 : St} (hF' : FfOk F') (c1 : CF σ3 F') (c2 : CQ σ3 Q) (c3 : CDz σ3 Q F') (c15 : σ3.1 15 = r) (c16 : σ3.1 16 = σ.1 16) (ci : σ3.2 = σ.2) (ek : f_X2_keep σ3 = some σ4)
    (m1 : MFd μ3 F') (m2 : MQs μ3 Q) (m4 : μ3.1 4 = μ.1 4) (m5 : μ3.1 5 = μ.1 5) (mi : μ3.2 1 = μ.2 1) (mk : μ3.2 0 = nI (min (n + 1) 8)) (mp : ∀ a k c, a < min (n + 1) 8 → k < 5 → c < 80 → μ3.1 1 (400 * a + 80 * k + c) = nI (pushP P n F a k c)) : TieZ σ4 μ3 := by
  have hH := push_hst (σ := σ) (σ1 := σ3) (σ2 := σ4) (μ := μ) (μ2 := μ3) hF hh r hr hr2 c15 (by rw [ci]) (by rw [ci]) ek mk mp
  obtain ⟨hn, ho, h3, h4, h5, -⟩ := hh
  have e3 : σ3.2 3 = nI n := by rw [ci]; exact h3
  have e4 : σ3.2 4 = nI o := by rw [ci]; exact h5
  rw [keep_eq e4 ho e3 hn] at ek
  have ek := Option.some.inj ek
  have hct : Cts σ3 μ3 := by
    unfold Cts at hc ⊢
    rw [ci, m4]
    exact hc
  have htx : Txz σ3 μ3 t := by
    unfold Txz at ht ⊢
    rw [ci, mi, c16, m5]
    exact ht
  refine ⟨F', Q, _, t, _, _, hF', hQ, ?_, ?_, ?_, m1, m2, ?_, ?_, hH⟩
  · rw [← ek]; split <;> exact c1
  · rw [← ek]; split <;> exact c2
  · rw [← ek]; split <;> exact c3
  · rw [← ek]; split <;> exact hct
  · rw [← ek]; split <;> exact htx
/-- put aside and kept, on the reference's side -/
theorem mkeep_ok {μ : St} {F : FF} {n : Nat} {P : Nat → FF} (hn : n ≤ 8) (h : μ.2 0 = nI n) (hm : MFd μ F) (hP : ∀ a k c, a < n → k < 5 → c < 80 → μ.1 1 (400 * a + 80 * k + c) = nI (P a k c)) :
    ∃ r2 r1, f_X7_aside μ = some (sAA μ 2 r2) ∧ f_X7_keeps (sAA μ 2 r2) = some (sI (sAA (sAA μ 2 r2) 1 r1) 0 (nI (min (n + 1) 8))) ∧ ∀ a k c, a < min (n + 1) 8 → k < 5 → c < 80 → r1 (400 * a + 80 * k + c) = nI (pushP P n F a k c) := by
  obtain ⟨r2, e1, h2⟩ := aside_ok μ
  obtain ⟨r1, e2, h1⟩ := keeps_ok (sAA μ 2 r2) n hn h P F hP (fun k c hk hc => by
    show r2 (80 * k + c) = _
    rw [h2 _ (by omega)]
    exact hm.uni k c hk hc)
  exact ⟨r2, r1, e1, e2, h1⟩
/-- all fill together, on the reference's side -/
theorem fillOf_eq {μ : St} {f : Nat → Nat} (h : ∀ c, c < 80 → μ.1 0 (320 + c) = nI (f c)) : f_X7_fillOf μ = some (nI (sumZ f 80)) := by
  rw [e_X7_fillOf, e_X7_fillOf_J4]
  have e : loopN (f_X7_fillOf_L4 μ) 4096 (nI 0, nI 0) = some (nI (sumZ f 80)) := by
    refine loopN_run (tr := fun i => (nI (sumZ f i), nI i)) 80 (nI (sumZ f 80)) ?_ ?_ (by decide)
    · intro i hi
      rw [e_X7_fillOf_L4, if_neg (nI_ge hi (by decide)), nI_add, gd_nI (by omega) (by decide), rd_nI _ 0 (by omega), h i hi, nI_add, nI_add]
      rfl
    · rw [e_X7_fillOf_L4, if_pos (nI_le (Nat.le_refl 80) (by decide))]
  rw [bnd_of e]
theorem FfOk.noFill {F : FF} (h : FfOk F) : FfOk (withFill F (fun _ => 0)) := by
  refine ⟨fun c hc => ?_, fun c d _ _ _ _ => rfl⟩
  have := h.1 c hc
  exact ⟨this.1, this.2.1, this.2.2.1, this.2.2.2.1, Nat.zero_le _⟩
theorem sim_empties : Sim0 TieZ f_X6_empties f_X7_empties := by
  intro σ μ h
  obtain ⟨F, Q, n, t, o, P, h1, h2, h3, h4, h5, h6, h7, h8, h9, h10⟩ := h
  obtain ⟨hn, ho, hk, hk2, hol, hP1, hP2, hP3⟩ := id h10
  obtain ⟨r, e1, hr, hr2⟩ := note_ok h3 h1.1 hol ho hk hn
  have e2 : f_X6_total 4 (sAA σ 15 r) = some (nI (sumZ (F 4) 80)) := total_eq _ 4 rfl (F 4) h3.2.2.2.2
  obtain ⟨z, e3, hz⟩ := fill_ok (sAA σ 15 r) 4 (nI 0) 80 rfl (by decide)
  have c1 : CF (sAA (sAA σ 15 r) 4 z) (withFill F (fun _ => 0)) := ⟨h3.1, h3.2.1, h3.2.2.1, h3.2.2.2.1, fun c hc => hz c hc⟩
  obtain ⟨σ3, e4, d1, d2, d3, d4, d5⟩ := measure_ok _ _ Q c1 h1.noFill.1 h4 h2
  have hk3 : ∃ σ4, f_X2_keep σ3 = some σ4 := ⟨_, keep_eq (by rw [d5]; exact hol) ho (by rw [d5]; exact hk) hn⟩
  obtain ⟨σ4, e5⟩ := hk3
  obtain ⟨r2, r1, m1, m2, m3⟩ := mkeep_ok hn hk2 h6 hP2
  have m4 : f_X7_fillOf (sI (sAA (sAA μ 2 r2) 1 r1) 0 (nI (min (n + 1) 8))) = some (nI (sumZ (F 4) 80)) := fillOf_eq h6.2.2.2.2
  obtain ⟨y, m5, hy1, hy2⟩ := loop_store (σ := sI (sAA (sAA μ 2 r2) 1 r1) 0 (nI (min (n + 1) 8))) (k := 0) (off := 320) (N := 80) (new := fun _ => nI 0) (body := f_X7_empties_L15 (nI (sumZ (F 4) 80))) (fuel := 4096) (by decide) (fun i q hi _ _ => by
    rw [e_X7_empties_L15, if_neg (nI_ge hi (by decide)), nI_add, gd_nI (by omega) (by decide), sA_nI _ _ _ (by omega), sAA_self, sAA_sAA, nI_add]) (fun q => by
    rw [e_X7_empties_L15, if_pos (nI_le (Nat.le_refl 80) (by decide))])
  refine ⟨nI (sumZ (F 4) 80), σ4, sAA (sI (sAA (sAA μ 2 r2) 1 r1) 0 (nI (min (n + 1) 8))) 0 y, ?_, ?_, ?_⟩
  · rw [e_X6_empties, bnd_of e1, bnd_of e2, bnd_of e3, bnd_of e4, bnd_of e5]
  · rw [e_X7_empties, bnd_of m1, bnd_of m2, bnd_of m4, e_X7_empties_J15, bnd_of m5]
  · have q : ∀ c, c < 320 → y c = μ.1 0 c := fun c hc => hy2 c (Or.inl hc)
    refine tie_push (F' := withFill F (fun _ => 0)) h1 h2 h8 h9 h10 hr hr2 h1.noFill d1 d2 d3 ?_ ?_ ?_ e5 ⟨?_, ?_, ?_, ?_, fun c hc => hy1 c hc⟩ h7 rfl rfl rfl rfl m3
    · rw [d4 15 (by decide)]; rfl
    · rw [d4 16 (by decide)]; rfl
    · rw [d5]; rfl
    · intro c hc; show y c = _; rw [q c (by omega)]; exact h6.1 c hc
    · intro c hc; show y (80 + c) = _; rw [q _ (by omega)]; exact h6.2.1 c hc
    · intro c hc; show y (160 + c) = _; rw [q _ (by omega)]; exact h6.2.2.1 c hc
    · intro c hc; show y (240 + c) = _; rw [q _ (by omega)]; exact h6.2.2.2.1 c hc
