/-! ===== PURE 31: the best rule ===== -/
theorem cpyQ {f g : Nat → Int32} {c : Nat} (hc : c < 80) : va_cpy f g (nI 0).toNatClampNeg (nI 0).toNatClampNeg (nI 80).toNatClampNeg c = f c := by
  rw [nI_clamp (by decide), nI_clamp (by decide)]
  unfold va_cpy
  rw [if_pos (by omega)]
  exact congrArg f (by omega)
noncomputable def gQ (Q : Nat → Nat) (F : FF) (R : Nat) : FF := thF Q (itF Q R F 40) 80
noncomputable def tnQ (Q : Nat → Nat) (F : FF) (R : Nat) : Nat := cntZ (thinB Q (wsum Q (cellSum (gQ Q F R)))) 80
noncomputable def flQ (Q : Nat → Nat) (F : FF) (R : Nat) : Nat := sumZ (gQ Q F R 4) 80
def bsQ (tn fl : Nat → Nat) : Nat → Nat
  | 0 => 0
  | i + 1 => if tn (i + 1) < tn (bsQ tn fl i) ∨ (tn (i + 1) = tn (bsQ tn fl i) ∧ fl (i + 1) < fl (bsQ tn fl i)) then i + 1 else bsQ tn fl i
theorem bsQ_succ (tn fl : Nat → Nat) (i : Nat) : bsQ tn fl (i + 1) = if tn (i + 1) < tn (bsQ tn fl i) ∨ (tn (i + 1) = tn (bsQ tn fl i) ∧ fl (i + 1) < fl (bsQ tn fl i)) then i + 1 else bsQ tn fl i := rfl
theorem bsQ_le {tn fl : Nat → Nat} : ∀ i, bsQ tn fl i ≤ i
  | 0 => Nat.le_refl _
  | i + 1 => by
    have := bsQ_le (tn := tn) (fl := fl) i
    rw [bsQ_succ]
    split <;> omega
theorem gQ_ff {Q : Nat → Nat} {F : FF} (h : FfOk F) (R : Nat) : FfOk (gQ Q F R) := thF_ff (itF_ff h 40) 80
theorem tnQ_le {Q : Nat → Nat} {F : FF} (R : Nat) : tnQ Q F R ≤ 80 := cntZ_le
theorem flQ_le {Q : Nat → Nat} {F : FF} (h : FfOk F) (R : Nat) : flQ Q F R ≤ 720 := by
  have := sumZ_le (f := gQ Q F R 4) (b := 9) (n := 80) (fun c hc => ((gQ_ff h R).1 c hc).2.2.2.2)
  unfold flQ
  omega
/-- the best so far, as the class keeps it -/
def BsOk (s : St) (tn fl : Nat → Nat) (b : Nat) : Prop := s.2 0 = nI b ∧ s.2 1 = nI (tn b) ∧ s.2 2 = nI (fl b)
theorem rate_ok {s : St} {tn fl : Nat → Nat} (ht : ∀ R, tn R ≤ 80) (hf : ∀ R, fl R ≤ 720) {i : Nat} (hi : i < 5) (e3 : f_X5_countThin s = some (nI (tn i))) (e4 : f_X6_total 4 s = some (nI (fl i))) (h : i ≠ 0 → BsOk s tn fl (bsQ tn fl (i - 1))) : ∃ s', f_X1_rate (nI i) s = some s' ∧ FmZ [] [0, 1, 2] s s' ∧ BsOk s' tn fl (bsQ tn fl i) := by
  have new : ∃ s', f_X1_rate_J47 (nI i) (nI (tn i)) (nI (fl i)) s = some s' ∧ FmZ [] [0, 1, 2] s s' ∧ BsOk s' tn fl i := ⟨_, e_X1_rate_J47 _ _ _ _, FmZ.sI (FmZ.sI (FmZ.sI FmZ.rfl' (by decide) _) (by decide) _) (by decide) _, rfl, rfl, rfl⟩
  rw [e_X1_rate, bnd_of e3, bnd_of e4]
  by_cases q : i = 0
  · rw [if_pos (by rw [q]), show bsQ tn fl i = i from by rw [q]; rfl]
    exact new
  · obtain ⟨j, rfl⟩ : ∃ j, i = j + 1 := ⟨i - 1, by omega⟩
    obtain ⟨b0, b1, b2⟩ := h q
    rw [show j + 1 - 1 = j from by omega] at b0 b1 b2
    have t1 := ht (j + 1)
    have t2 := ht (bsQ tn fl j)
    have f1 := hf (j + 1)
    have f2 := hf (bsQ tn fl j)
    rw [if_neg (neq_f (b := 0) q (by omega) (by decide) rfl rfl), show gI s 1 = nI (tn (bsQ tn fl j)) from b1, show gI s 2 = nI (fl (bsQ tn fl j)) from b2, bsQ_succ]
    by_cases z1 : tn (j + 1) < tn (bsQ tn fl j)
    · rw [if_pos (nI_lt z1 (by omega)), if_pos (Or.inl z1)]
      exact new
    · rw [if_neg (nI_nlt (by omega) (by omega))]
      by_cases z2 : tn (j + 1) = tn (bsQ tn fl j)
      · rw [if_pos (by rw [z2])]
        by_cases z3 : fl (j + 1) < fl (bsQ tn fl j)
        · rw [if_neg (nI_ge z3 (by omega)), if_pos (Or.inr ⟨z2, z3⟩)]
          exact new
        · rw [if_pos (nI_le (by omega) (by omega)), if_neg (by omega)]
          exact ⟨s, rfl, FmZ.rfl', b0, b1, b2⟩
      · rw [if_neg (neq_f z2 (by omega) (by omega) rfl rfl), if_neg (by omega)]
        exact ⟨s, rfl, FmZ.rfl', b0, b1, b2⟩
theorem ruled_ok {σ : St} {F : FF} {Q : Nat → Nat} (h1 : FfOk F) (hQ : QOk Q) (h : CSt σ F Q) (x : Int32) : ∃ s0 σ', f_X1_markFill σ = some s0 ∧ loopN (f_X6_best_L25 x) 4096 (nI 0, s0) = some σ' ∧ CSt σ' F Q ∧ σ'.1 15 = σ.1 15 ∧ σ'.1 16 = σ.1 16 ∧ (∀ k, 3 ≤ k → σ'.2 k = σ.2 k) ∧ BsOk σ' (tnQ Q F) (flQ Q F) (bsQ (tnQ Q F) (flQ Q F) 4) := by
  obtain ⟨-, -, -, -, q2, q3, -⟩ := id hQ
  have hm : ∃ y, loopN (f_X6_best_L25 x) 4096 (nI 0, sAA σ 13 (va_cpy (σ.1 4) (σ.1 13) (nI 0).toNatClampNeg (nI 0).toNatClampNeg (nI 80).toNatClampNeg)) = some y ∧ CSt y F Q ∧ y.1 15 = σ.1 15 ∧ y.1 16 = σ.1 16 ∧ (∀ k, 3 ≤ k → y.2 k = σ.2 k) ∧ BsOk y (tnQ Q F) (flQ Q F) (bsQ (tnQ Q F) (flQ Q F) 4) := by
    refine loop_for (Inv := fun i v => v.1 = nI i ∧ CSt v.2 F Q ∧ v.2.1 15 = σ.1 15 ∧ v.2.1 16 = σ.1 16 ∧ (∀ k, 3 ≤ k → v.2.2 k = σ.2 k) ∧ (∀ c, c < 80 → v.2.1 13 c = nI (F 4 c)) ∧ (i ≠ 0 → BsOk v.2 (tnQ Q F) (flQ Q F) (bsQ (tnQ Q F) (flQ Q F) (i - 1)))) 5 ?_ ?_ (by decide) ⟨rfl, ?_, rfl, rfl, fun _ _ => rfl, fun c hc => ?_, fun z => absurd rfl z⟩
    · rintro i ⟨b, st⟩ hi ⟨c1, c2, c3, c4, c5, c6, c7⟩
      dsimp only at c1 c2 c3 c4 c5 c6 c7
      subst c1
      obtain ⟨k, s1, e1, -, f1, hS1⟩ := stepOn_ok h1 hQ c2 (R := i) (m := 40) (by omega) (by decide)
      obtain ⟨s2, e2, f2, hS2⟩ := thinOut_ok (itF_ff h1 40) hQ hS1
      have hS2 : CSt s2 (gQ Q F i) Q := hS2
      have hs : ∀ a, wsum Q (cellSum (gQ Q F i)) a < 2 ^ 30 := fun a => wsum_l30 (gQ_ff h1 i).1 a
      have e3 : f_X5_countThin s2 = some (nI (tnQ Q F i)) := countThin_eq hS2.2.2.1.1 hs hS2.2.1.2.2.2.1 q2
      have e4 : f_X6_total 4 s2 = some (nI (flQ Q F i)) := total_eq s2 4 rfl (gQ Q F i 4) hS2.1.2.2.2.2
      have f12 : FmZ [4, 5, 6, 7, 10, 18] [] st s2 := f1.trans (f2.mono (by decide) (by decide))
      have i12 : s2.2 = st.2 := f12.intsQ
      obtain ⟨s3, e5, f3, hB⟩ := rate_ok (s := s2) (tn := tnQ Q F) (fl := flQ Q F) tnQ_le (flQ_le h1) hi e3 e4 (by unfold BsOk; rw [i12]; exact c7)
      have f13 : FmZ [4, 5, 6, 7, 10, 18] [0, 1, 2] st s3 := (f12.mono (by decide) (by decide)).trans (f3.mono (by decide) (by decide))
      have hC : CF (sAA s3 4 (va_cpy (s3.1 13) (s3.1 4) (nI 0).toNatClampNeg (nI 0).toNatClampNeg (nI 80).toNatClampNeg)) F := by
        refine ⟨?_, ?_, ?_, ?_, fun c hc => ?_⟩
        · show ∀ c, c < 80 → s3.1 0 c = _; rw [f13.1 0 (by decide)]; exact c2.1.1
        · show ∀ c, c < 80 → s3.1 1 c = _; rw [f13.1 1 (by decide)]; exact c2.1.2.1
        · show ∀ c, c < 80 → s3.1 2 c = _; rw [f13.1 2 (by decide)]; exact c2.1.2.2.1
        · show ∀ c, c < 80 → s3.1 3 c = _; rw [f13.1 3 (by decide)]; exact c2.1.2.2.2.1
        · rw [sAA_self, cpyQ hc, f13.1 13 (by decide)]; exact c6 c hc
      have hq3 : CQ s3 Q := c2.2.1.fm f13 (by decide) (by decide) (by decide) (by decide) (by decide) (by decide)
      obtain ⟨s4, e6, d1, d2, d3, d4, d5⟩ := measure_ok (sAA s3 4 (va_cpy (s3.1 13) (s3.1 4) (nI 0).toNatClampNeg (nI 0).toNatClampNeg (nI 80).toNatClampNeg)) F Q hC h1.1 hq3 hQ
      have e7 : f_X1_layBack s3 = some s4 := by rw [e_X1_layBack, gq_ok (by decide), bnd_of e6]
      refine ⟨(nI (i + 1), s4), ?_, rfl, ⟨d1, d2, d3⟩, ?_, ?_, ?_, ?_, fun _ => ?_⟩
      · rw [e_X6_best_L25, if_neg (nI_ge hi (by decide)), bnd_of e1, bnd_of e2, bnd_of e5, bnd_of e7, nI_add]
      · rw [d4 15 (by decide)]; show s3.1 15 = _; rw [f13.1 15 (by decide)]; exact c3
      · rw [d4 16 (by decide)]; show s3.1 16 = _; rw [f13.1 16 (by decide)]; exact c4
      · intro k hk
        rw [d5]
        show s3.2 k = _
        rw [f13.2 k (by
          intro z
          simp at z
          omega)]
        exact c5 k hk
      · intro c hc
        rw [d4 13 (by decide)]
        show s3.1 13 c = _
        rw [f13.1 13 (by decide)]
        exact c6 c hc
      · unfold BsOk at hB ⊢
        rw [d5, show i + 1 - 1 = i from by omega]
        exact hB
    · rintro ⟨b, st⟩ ⟨c1, c2, c3, c4, c5, c6, c7⟩
      dsimp only at c1 c2 c3 c4 c5 c6 c7
      subst c1
      exact ⟨st, by rw [e_X6_best_L25, if_pos (by decide)], c2, c3, c4, c5, c7 (by decide)⟩
    · exact CSt.fm (L := [13]) (LI := []) h (FmZ.sAA FmZ.rfl' (by decide) _) (by decide) (by decide) (by decide) (by decide) (by decide) (by decide)
    · show (sAA σ 13 _).1 13 c = _
      rw [sAA_self, cpyQ hc]
      exact h.1.2.2.2.2 c hc
  obtain ⟨y, e, hy⟩ := hm
  exact ⟨_, y, by rw [e_X1_markFill, gq_ok (by decide)], e, hy⟩
/-! the reference's side -/
def RsOk (s : St) (tn fl : Nat → Nat) (n : Nat) : Prop := ∀ R, R < n → s.1 12 (3 * R) = nI R ∧ s.1 12 (3 * R + 1) = nI (tn R) ∧ s.1 12 (3 * R + 2) = nI (fl R)
theorem tries_ok {μ : St} {F : FF} {Q : Nat → Nat} (h1 : FfOk F) (hQ : QOk Q) (hM : MFd μ F) (hq : MQs μ Q) {r2 : Nat → Int32} (ha : ∀ c, c < 400 → r2 c = μ.1 0 c) (x : Int32) : ∃ y, loopN (f_X7_best_L22 x) 4096 (nI 0, sAA μ 2 r2) = some y ∧ FmZ [0, 6, 7, 8, 9, 10, 11, 12] [3] (sAA μ 2 r2) y ∧ MFd y F ∧ RsOk y (tnQ Q F) (flQ Q F) 5 := by
  refine loop_for (Inv := fun i v => v.1 = nI i ∧ FmZ [0, 6, 7, 8, 9, 10, 11, 12] [3] (sAA μ 2 r2) v.2 ∧ MFd v.2 F ∧ RsOk v.2 (tnQ Q F) (flQ Q F) i) 5 ?_ ?_ (by decide) ⟨rfl, FmZ.rfl', hM, fun R hR => by omega⟩
  · rintro i ⟨b, st⟩ hi ⟨c1, c2, c3, c4⟩
    dsimp only at c1 c2 c3 c4
    subst c1
    have hqs : MQs st Q := MQs.fm (μ := sAA μ 2 r2) hq c2 (by decide)
    obtain ⟨k, s1, e1, -, f1, hM1⟩ := stepsBy_ok h1 hQ c3 hqs (R := i) (m := 40) (by omega) (by decide)
    obtain ⟨s2, e2, f2, hM2⟩ := loses_ok (itF_ff h1 40) hQ hM1 (hqs.fm f1 (by decide))
    have hM2 : MFd s2 (gQ Q F i) := hM2
    have f12 : FmZ [0, 6, 7, 8, 9, 10, 11] [3] st s2 := f1.trans (f2.mono (by decide) (by decide))
    have hq2 : MQs s2 Q := hqs.fm f12 (by decide)
    have hs : ∀ a, wsum Q (cellSum (gQ Q F i)) a < 2 ^ 30 := fun a => wsum_l30 (gQ_ff h1 i).1 a
    obtain ⟨r6, e3, h6⟩ := laysSums_ok hM2 (gQ_ff h1 i).1 hq2 hQ
    obtain ⟨s4, hs4⟩ : ∃ s4, s4 = sAA s2 6 r6 := ⟨_, rfl⟩
    rw [← hs4] at e3
    have f14 : FmZ [0, 6, 7, 8, 9, 10, 11] [3] st s4 := by rw [hs4]; exact FmZ.sAA f12 (by decide) _
    have hM4 : MFd s4 (gQ Q F i) := by rw [hs4]; exact hM2
    have hq4 : MQs s4 Q := hqs.fm f14 (by decide)
    have h64 : ∀ a, a < 80 → s4.1 6 a = smOf Q (wsum Q (cellSum (gQ Q F i))) a := by rw [hs4, sAA_self]; exact h6
    obtain ⟨s5, hs5⟩ : ∃ s5, s5 = sA s4 12 (nI (3 * i)) (nI i) := ⟨_, rfl⟩
    have f5 : FmZ [12] [] s4 s5 := by rw [hs5]; exact FmZ.sA FmZ.rfl' (by decide) _ _
    have e4 : f_X7_windowsNow (nI 1) s5 = some (nI (tnQ Q F i)) := windowsNow_eq (μ := s5) (by rw [f5.1 6 (by decide)]; exact h64) hs (hq4.fm f5 (by decide)) hQ (w := 1) (by decide)
    obtain ⟨s6, hs6⟩ : ∃ s6, s6 = sA s5 12 (nI (3 * i + 1)) (nI (tnQ Q F i)) := ⟨_, rfl⟩
    have f6 : FmZ [12] [] s4 s6 := by rw [hs6]; exact FmZ.sA f5 (by decide) _ _
    have e5 : f_X7_fillOf s6 = some (nI (flQ Q F i)) := fillOf_eq (μ := s6) (hM4.fm f6 (by decide)).2.2.2.2
    obtain ⟨s7, hs7⟩ : ∃ s7, s7 = sA s6 12 (nI (3 * i + 2)) (nI (flQ Q F i)) := ⟨_, rfl⟩
    have f7 : FmZ [12] [] s4 s7 := by rw [hs7]; exact FmZ.sA f6 (by decide) _ _
    have f17 : FmZ [0, 6, 7, 8, 9, 10, 11, 12] [3] (sAA μ 2 r2) s7 := c2.trans ((f14.mono (by decide) (by decide)).trans (f7.mono (by decide) (by decide)))
    obtain ⟨r, e6, hr⟩ := back_ok s7
    have k2 : s7.1 2 = r2 := (f17.1 2 (by decide)).trans (sAA_self _ _ _)
    have row : s7.1 12 = upd (upd (upd (st.1 12) (3 * i) (nI i)) (3 * i + 1) (nI (tnQ Q F i))) (3 * i + 2) (nI (flQ Q F i)) := by
      rw [hs7, sA_at _ _ (by omega), hs6, sA_at _ _ (by omega), hs5, sA_at _ _ (by omega), f14.1 12 (by decide)]
    refine ⟨(nI (i + 1), sAA s7 0 r), ?_, rfl, FmZ.sAA f17 (by decide) _, ?_, ?_⟩
    · rw [e_X7_best_L22, if_neg (nI_ge hi (by decide)), bnd_of e1, bnd_of e2, bnd_of e3, pk_mul, nI_add, nI_add, gd_nI (by omega) (by decide), ← hs5, bnd_of e4, gd_nI (by omega) (by decide), ← hs6, bnd_of e5, gd_nI (by omega) (by decide), ← hs7, bnd_of e6, nI_add]
    · refine MFd.ofU (fun k c hk hc => ?_)
      show r (80 * k + c) = _
      rw [hr _ (by omega), k2, ha _ (by omega)]
      exact hM.uni k c hk hc
    · intro R hR
      show s7.1 12 _ = _ ∧ s7.1 12 _ = _ ∧ s7.1 12 _ = _
      rw [row]
      unfold upd
      by_cases z : R = i
      · subst z
        refine ⟨?_, ?_, ?_⟩
        · rw [if_neg (by omega), if_neg (by omega), if_pos rfl]
        · rw [if_neg (by omega), if_pos rfl]
        · rw [if_pos rfl]
      · obtain ⟨y1, y2, y3⟩ := c4 R (by omega)
        refine ⟨?_, ?_, ?_⟩
        · rw [if_neg (by omega), if_neg (by omega), if_neg (by omega)]; exact y1
        · rw [if_neg (by omega), if_neg (by omega), if_neg (by omega)]; exact y2
        · rw [if_neg (by omega), if_neg (by omega), if_neg (by omega)]; exact y3
  · rintro ⟨b, st⟩ ⟨c1, c2, c3, c4⟩
    dsimp only at c1 c2 c3 c4
    subst c1
    exact ⟨st, by rw [e_X7_best_L22, if_pos (by decide)], c2, c3, c4⟩
theorem bestOf_ok {s : St} {tn fl : Nat → Nat} (ht : ∀ R, tn R ≤ 80) (hf : ∀ R, fl R ≤ 720) (h : RsOk s tn fl 5) (x : Int32) : loopN (f_X7_best_L96 x s) 4096 (nI 0, nI 1) = some (nI (bsQ tn fl 4)) := by
  refine loopN_run (tr := fun i => (nI (bsQ tn fl i), nI (i + 1))) 4 _ ?_ ?_ (by decide)
  · intro i hi
    have bl := bsQ_le (tn := tn) (fl := fl) i
    obtain ⟨-, u1, u2⟩ := h (i + 1) (by omega)
    obtain ⟨-, v1, v2⟩ := h (bsQ tn fl i) (by omega)
    have t1 := ht (i + 1)
    have t2 := ht (bsQ tn fl i)
    have f1 := hf (i + 1)
    have f2 := hf (bsQ tn fl i)
    rw [e_X7_best_L96, if_neg (nI_ge (by omega) (by decide)), pk_mul, pk_mul, nI_add, nI_add, nI_add, nI_add, gd_nI (by omega) (by decide), gd_nI (by omega) (by decide), gd_nI (by omega) (by decide), gd_nI (by omega) (by decide), rd_nI _ 12 (by omega), rd_nI _ 12 (by omega), rd_nI _ 12 (by omega), rd_nI _ 12 (by omega), u1, u2, v1, v2, e_X7_best_J157, e_X7_best_J161, nI_add, bsQ_succ]
    by_cases z1 : tn (i + 1) < tn (bsQ tn fl i)
    · rw [if_pos (subneg (by omega) (by omega) z1), if_pos (Or.inl z1)]
    · rw [pk_sub (by omega), if_neg (nI_nn (by omega))]
      by_cases z2 : tn (i + 1) = tn (bsQ tn fl i)
      · rw [if_pos (by rw [z2, Nat.sub_self])]
        by_cases z3 : fl (i + 1) < fl (bsQ tn fl i)
        · rw [if_neg (nI_ge z3 (by omega)), if_pos (Or.inr ⟨z2, z3⟩)]
        · rw [if_pos (nI_le (by omega) (by omega)), if_neg (by omega)]
      · rw [if_neg (neq_f (b := 0) (by omega) (by omega) (by decide) rfl rfl), if_neg (by omega)]
  · rw [e_X7_best_L96, if_pos (by decide)]
theorem sim_best : Sim1 TieZ f_X6_best f_X7_best := by
  intro x σ μ h
  obtain ⟨F, Q, n, t, o, P, h1, h2, h3, h4, h5, h6, h7, h8, h9, h10⟩ := id h
  rw [e_X6_best, e_X7_best]
  by_cases hx : (0 ≤ x ∧ x ≤ nI 2)
  · obtain ⟨j, hj, rfl⟩ := in_nI (b := 2) (by decide) hx
    obtain ⟨s0, σ', e0, e1, hS, c15, c16, ci, hB⟩ := ruled_ok h1 h2 ⟨h3, h4, h5⟩ (nI j)
    obtain ⟨r2, a1, a2⟩ := aside_ok μ
    obtain ⟨y, e2, f2, hM, hR⟩ := tries_ok h1 h2 h6 h7 a2 (nI j)
    have e3 := bestOf_ok (s := y) tnQ_le (flQ_le h1) hR (nI j)
    have bl := bsQ_le (tn := tnQ Q F) (fl := flQ Q F) 4
    obtain ⟨y0, y1, y2⟩ := hR (bsQ (tnQ Q F) (flQ Q F) 4) (by omega)
    obtain ⟨b0, b1, b2⟩ := hB
    have hT : TieZ σ' y := by
      refine ⟨F, Q, n, t, o, P, h1, h2, hS.1, hS.2.1, hS.2.2, hM, MQs.fm (μ := sAA μ 2 r2) h7 f2 (by decide), ?_, ?_, ?_⟩
      · unfold Cts at h8 ⊢
        rw [ci 10 (by decide), ci 11 (by decide), ci 12 (by decide), f2.1 4 (by decide)]
        exact h8
      · unfold Txz at h9 ⊢
        rw [ci 5 (by decide), c16, f2.1 5 (by decide), f2.2 1 (by decide)]
        exact h9
      · unfold Hst at h10 ⊢
        rw [ci 3 (by decide), ci 4 (by decide), c15, f2.1 1 (by decide), f2.2 0 (by decide)]
        exact h10
    rw [bnd_of (isIn_nI hj (by decide)), bnd_of (in7_nI hj (by decide)), if_neg (by decide : ¬ nI 1 = nI 0), if_neg (by decide : ¬ nI 1 = nI 0), bnd_of e0, e_X6_best_J25, bnd_of e1, e_X6_best_J70, bnd_of a1, e_X7_best_J22, bnd_of e2, e_X7_best_J92, e_X7_best_J96, bnd_of e3, e_X7_best_J169, pk_mul, nI_add, gd_nI (by omega) (by decide), rd_nI _ 12 (by omega), show gI σ' 0 = _ from b0, show gI σ' 1 = _ from b1, show gI σ' 2 = _ from b2]
    match j, hj with
    | 0, _ => exact ⟨_, σ', y, if_pos rfl, by rw [Nat.add_zero, y0], hT⟩
    | 1, _ => exact ⟨_, σ', y, by rw [if_neg (by decide), if_pos rfl], by rw [y1], hT⟩
    | 2, _ => exact ⟨_, σ', y, by rw [if_neg (by decide), if_neg (by decide)], by rw [y2], hT⟩
    | j + 3, hj => omega
  · rw [bnd_of (isIn_n hx), bnd_of (in7_n hx), if_pos (rfl : nI 0 = nI 0), if_pos (rfl : nI 0 = nI 0)]
    exact ref_bnd h (-2) (by decide)
