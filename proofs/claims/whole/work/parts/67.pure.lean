/-! ===== PURE 29: steps ===== -/
def addF (F : FF) (c : Nat) : FF := withFill F (famF F c (fun v => v + 1))
noncomputable def stepF (Q : Nat → Nat) (R : Nat) (F : FF) : FF := @ite _ (nxQ Q F R < 80) (Nat.decLt _ _) (addF F (nxQ Q F R)) F
noncomputable def itF (Q : Nat → Nat) (R : Nat) (F : FF) : Nat → FF
  | 0 => F
  | n + 1 => stepF Q R (itF Q R F n)
theorem stepF_y {Q : Nat → Nat} {R : Nat} {F : FF} (h : nxQ Q F R < 80) : stepF Q R F = addF F (nxQ Q F R) := if_pos h
theorem stepF_n {Q : Nat → Nat} {R : Nat} {F : FF} (h : nxQ Q F R = 80) : stepF Q R F = F := if_neg (by omega)
theorem addF_ff {F : FF} {Q : Nat → Nat} (h1 : FfOk F) {c : Nat} (hm : MayG F Q (famB F c)) : FfOk (addF F c) := famF_ff h1 (fun d hd hfm => by
  have := (hm.2.1 d hd hfm).2
  unfold cellSum at this
  omega)
theorem stepF_ff {F : FF} {Q : Nat → Nat} {R : Nat} (h1 : FfOk F) : FfOk (stepF Q R F) := by
  rcases nxQ_in (Q := Q) (F := F) (R := R) with z | ⟨z1, z2⟩
  · rw [stepF_n z]; exact h1
  · rw [stepF_y z1]; exact addF_ff h1 z2
theorem itF_ff {F : FF} {Q : Nat → Nat} {R : Nat} (h1 : FfOk F) : ∀ n, FfOk (itF Q R F n)
  | 0 => h1
  | n + 1 => stepF_ff (itF_ff h1 n)
theorem itF_succ (Q : Nat → Nat) (R : Nat) (F : FF) (n : Nat) : itF Q R F (n + 1) = stepF Q R (itF Q R F n) := rfl
theorem itF_sat {Q : Nat → Nat} {R : Nat} {F : FF} {k : Nat} (h : nxQ Q (itF Q R F k) R = 80) : ∀ j, itF Q R F (k + j) = itF Q R F k
  | 0 => rfl
  | j + 1 => by
    show stepF Q R (itF Q R F (k + j)) = _
    rw [itF_sat h j, stepF_n h]
/-- how many steps there are -/
def KsQ (Q : Nat → Nat) (R : Nat) (F : FF) (m k : Nat) : Prop := k ≤ m ∧ (∀ j, j < k → nxQ Q (itF Q R F j) R < 80) ∧ (k = m ∨ nxQ Q (itF Q R F k) R = 80)
theorem KsQ.uni {Q : Nat → Nat} {R : Nat} {F : FF} {m k k' : Nat} (h : KsQ Q R F m k) (h' : KsQ Q R F m k') : k = k' := by
  have key : ∀ a b, KsQ Q R F m a → KsQ Q R F m b → a < b → False := by
    intro a b ha hb hab
    have := hb.2.1 a hab
    rcases ha.2.2 with z | z
    · have := hb.1; omega
    · omega
  rcases Nat.lt_trichotomy k k' with z | z | z
  · exact (key k k' h h' z).elim
  · exact z
  · exact (key k' k h' h z).elim
theorem KsQ.finQ {Q : Nat → Nat} {R : Nat} {F : FF} {m k : Nat} (h : KsQ Q R F m k) : itF Q R F k = itF Q R F m := by
  rcases h.2.2 with z | z
  · rw [z]
  · have := itF_sat z (m - k)
    rw [show k + (m - k) = m from by have := h.1; omega] at this
    exact this.symm
theorem addIn {F : FF} {c : Nat} : ∀ d, d < 80 → famB F c d = true → nI (F 4 d) + nI 1 = nI (famF F c (fun v => v + 1) d) := fun d hd hfm => by rw [famF_in hd hfm, nI_add]
theorem stepOn_ok {σ : St} {F : FF} {Q : Nat → Nat} (h1 : FfOk F) (hQ : QOk Q) (h : CSt σ F Q) {R m : Nat} (hR : R ≤ 4) (hm : m ≤ 60) : ∃ k σ', f_X1_stepOn (nI R) (nI m) σ = some (nI k, σ') ∧ KsQ Q R F m k ∧ FmZ [4, 5, 6, 7, 10, 18] [] σ σ' ∧ CSt σ' (itF Q R F m) Q := by
  have hl : ∃ y, loopN (f_X1_stepOn_L2 (nI R) (nI m)) 4096 (nI 0, σ) = some y ∧ ∃ k σ', (y = .inl (nI k, σ') ∨ (y = .inr σ' ∧ k = m)) ∧ KsQ Q R F m k ∧ FmZ [4, 5, 6, 7, 10, 18] [] σ σ' ∧ CSt σ' (itF Q R F k) Q := by
    refine loop_inv (Inv := fun i v => v.1 = nI i ∧ (∀ j, j < i → nxQ Q (itF Q R F j) R < 80) ∧ FmZ [4, 5, 6, 7, 10, 18] [] σ v.2 ∧ CSt v.2 (itF Q R F i) Q) m ?_ ?_ (by omega) ⟨rfl, fun j hj => by omega, FmZ.rfl', h⟩
    · rintro i ⟨b, st⟩ hi ⟨q1, q2, q3, q4⟩
      dsimp only at q1 q2 q3 q4
      subst q1
      have hG := itF_ff (Q := Q) (R := R) h1 i
      obtain ⟨s1, e1, f1⟩ := choice_ok hG.1 hQ q4 hR
      have hS1 : CSt s1 (itF Q R F i) Q := q4.fm f1 (by decide) (by decide) (by decide) (by decide) (by decide) (by decide)
      have g1 : FmZ [4, 5, 6, 7, 10, 18] [] σ s1 := q3.trans (f1.mono (by decide) (by decide))
      rw [e_X1_stepOn_L2, if_neg (nI_ge hi (by omega)), bnd_of e1]
      dsimp only
      rcases nxQ_in (Q := Q) (F := itF Q R F i) (R := R) with z | ⟨z1, z2⟩
      · right
        rw [z, cellI_n, if_pos rfl]
        exact ⟨_, rfl, i, s1, Or.inl rfl, ⟨by omega, q2, Or.inr z⟩, g1, hS1⟩
      · left
        have hF' := addF_ff hG z2
        obtain ⟨s2, e2, f2, hS2⟩ := change_ok hG.1 hQ hS1 z1 (nI 1) (famF (itF Q R F i) (nxQ Q (itF Q R F i) R) (fun v => v + 1)) (fun c hc => (hF'.1 c hc).2.2.2.2) addIn (fun d hfm => famF_out hfm)
        rw [if_neg (cellI_ne z1), cellI_y z1, bnd_of e2, nI_add]
        refine ⟨_, rfl, rfl, fun j hj => ?_, g1.trans (f2.mono (by decide) (by decide)), ?_⟩
        · by_cases y : j = i
          · rw [y]; exact z1
          · exact q2 j (by omega)
        · rw [itF_succ, stepF_y z1]
          exact hS2
    · rintro ⟨b, st⟩ ⟨q1, q2, q3, q4⟩
      dsimp only at q1 q2 q3 q4
      subst q1
      exact ⟨_, by rw [e_X1_stepOn_L2, if_pos (nI_le (Nat.le_refl _) (by omega))], m, st, Or.inr ⟨rfl, rfl⟩, ⟨Nat.le_refl _, q2, Or.inl rfl⟩, q3, q4⟩
  obtain ⟨y, e, k, σ', hy, hk, hf, hS⟩ := hl
  rw [hk.finQ] at hS
  refine ⟨k, σ', ?_, hk, hf, hS⟩
  rw [e_X1_stepOn, e_X1_stepOn_J2, bnd_of e]
  rcases hy with rfl | ⟨rfl, rfl⟩
  · rfl
  · rfl
theorem stepsBy_ok {μ : St} {F : FF} {Q : Nat → Nat} (h1 : FfOk F) (hQ : QOk Q) (hM : MFd μ F) (hq : MQs μ Q) {R m : Nat} (hR : R ≤ 4) (hm : m ≤ 60) : ∃ k μ', f_X7_stepsBy (nI R) (nI m) μ = some (nI k, μ') ∧ KsQ Q R F m k ∧ FmZ [0, 6, 7, 8, 9, 10, 11] [3] μ μ' ∧ MFd μ' (itF Q R F m) := by
  have hl : ∃ y, loopN (f_X7_stepsBy_L2 (nI R) (nI m)) 4096 (nI 0, μ) = some y ∧ ∃ k, y.1 = nI k ∧ KsQ Q R F m k ∧ FmZ [0, 6, 7, 8, 9, 10, 11] [3] μ y.2 ∧ MFd y.2 (itF Q R F k) := by
    refine loop_inv (Inv := fun i v => v.1 = nI i ∧ (∀ j, j < i → nxQ Q (itF Q R F j) R < 80) ∧ FmZ [0, 6, 7, 8, 9, 10, 11] [3] μ v.2 ∧ MFd v.2 (itF Q R F i)) m ?_ ?_ (by omega) ⟨rfl, fun j hj => by omega, FmZ.rfl', hM⟩
    · rintro i ⟨b, st⟩ hi ⟨q1, q2, q3, q4⟩
      dsimp only at q1 q2 q3 q4
      subst q1
      have hG := itF_ff (Q := Q) (R := R) h1 i
      obtain ⟨s1, e1, f1, hk⟩ := nextBy_ok q4 hG.1 (hq.fm q3 (by decide)) hQ hR
      have g1 : FmZ [0, 6, 7, 8, 9, 10, 11] [3] μ s1 := q3.trans (f1.mono (by decide) (by decide))
      have hM1 : MFd s1 (itF Q R F i) := q4.fm f1 (by decide)
      rw [e_X7_stepsBy_L2, if_neg (nI_ge hi (by omega)), bnd_of e1]
      dsimp only
      rcases nxQ_in (Q := Q) (F := itF Q R F i) (R := R) with z | ⟨z1, z2⟩
      · right
        rw [z, cellI_n, if_pos rfl]
        exact ⟨_, rfl, i, rfl, ⟨by omega, q2, Or.inr z⟩, g1, hM1⟩
      · left
        obtain ⟨r, e2, hM2⟩ := fills_ok hM1 (hk z1).1 (nI 1) (famF (itF Q R F i) (nxQ Q (itF Q R F i) R) (fun v => v + 1)) addIn (fun d hfm => famF_out hfm)
        rw [if_neg (cellI_ne z1), bnd_of e2, nI_add]
        refine ⟨_, rfl, rfl, fun j hj => ?_, FmZ.sAA g1 (by decide) _, ?_⟩
        · by_cases y : j = i
          · rw [y]; exact z1
          · exact q2 j (by omega)
        · rw [itF_succ, stepF_y z1]
          exact hM2
    · rintro ⟨b, st⟩ ⟨q1, q2, q3, q4⟩
      dsimp only at q1 q2 q3 q4
      subst q1
      exact ⟨_, by rw [e_X7_stepsBy_L2, if_pos (nI_le (Nat.le_refl _) (by omega))], m, rfl, ⟨Nat.le_refl _, q2, Or.inl rfl⟩, q3, q4⟩
  obtain ⟨⟨y1, y2⟩, e, k, hy, hk, hf, hS⟩ := hl
  dsimp only at hy hf hS
  subst hy
  rw [hk.finQ] at hS
  exact ⟨k, y2, by rw [e_X7_stepsBy, e_X7_stepsBy_J2, bnd_of e], hk, hf, hS⟩
/-- noted on both sides, then changed: tied as it is, and tied once it is kept -/
theorem note_tie {σ μ : St} {F F' : FF} {Q : Nat → Nat} {n t o : Nat} {P : Nat → FF} (h1 : FfOk F) (h2 : QOk Q) (h6 : MFd μ F) (h7 : MQs μ Q) (h8 : Cts σ μ) (h9 : Txz σ μ t) (h10 : Hst σ μ n o P) {r r2 : Nat → Int32} (hr : ∀ c, c < 80 → r (80 * ((o + n) % 9) + c) = nI (packZ F c)) (hr2 : ∀ c, (c < 80 * ((o + n) % 9) ∨ 80 * ((o + n) % 9) + 80 ≤ c) → r c = σ.1 15 c) (ha : ∀ c, c < 400 → r2 c = μ.1 0 c)
    {σ3 μ3 : St} (hF' : FfOk F') (hS : CSt σ3 F' Q) (fc : FmZ [0, 1, 4, 5, 6, 7, 10, 18] [] (sAA σ 15 r) σ3) (m1 : MFd μ3 F') (fm : FmZ [0, 6, 7, 8, 9, 10, 11] [2, 3] (sAA μ 2 r2) μ3) : TieZ σ3 μ3 ∧ ∃ σ4 μ4, f_X2_keep σ3 = some σ4 ∧ f_X7_keeps μ3 = some μ4 ∧ FmZ [1] [0] μ3 μ4 ∧ TieZ σ4 μ4 := by
  obtain ⟨hn, ho, hk, hk2, hol, hP1, hP2, hP3⟩ := id h10
  have ci : σ3.2 = σ.2 := fc.intsQ
  have hmod : ∀ x, x % 9 < 9 := fun x => Nat.mod_lt _ (by decide)
  have c15 : σ3.1 15 = r := fc.1 15 (by decide)
  have c16 : σ3.1 16 = σ.1 16 := fc.1 16 (by decide)
  have e4 : μ3.1 4 = μ.1 4 := fm.1 4 (by decide)
  have e5 : μ3.1 5 = μ.1 5 := fm.1 5 (by decide)
  have e1 : μ3.1 1 = μ.1 1 := fm.1 1 (by decide)
  have e2 : μ3.1 2 = r2 := fm.1 2 (by decide)
  have i0 : μ3.2 0 = μ.2 0 := fm.2 0 (by decide)
  have i1 : μ3.2 1 = μ.2 1 := fm.2 1 (by decide)
  have hq : MQs μ3 Q := MQs.fm (μ := sAA μ 2 r2) h7 fm (by decide)
  refine ⟨⟨F', Q, n, t, o, P, hF', h2, hS.1, hS.2.1, hS.2.2, m1, hq, ?_, ?_, ⟨hn, ho, ?_, ?_, ?_, hP1, ?_, ?_⟩⟩, ?_⟩
  · unfold Cts at h8 ⊢; rw [ci, e4]; exact h8
  · unfold Txz at h9 ⊢; rw [ci, c16, i1, e5]; exact h9
  · rw [ci]; exact hk
  · rw [i0]; exact hk2
  · rw [ci]; exact hol
  · rw [e1]; exact hP2
  · intro a c hA hc
    rw [c15, hr2 _ (by have := hmod (o + a); have := hmod (o + n); omega), hP3 a c hA hc]
  · have ek := keep_eq (σ := σ3) (o := o) (n := n) (by rw [ci]; exact hol) ho (by rw [ci]; exact hk) hn
    obtain ⟨r1, em, h1m⟩ := keeps_ok μ3 n hn (by rw [i0]; exact hk2) P F (by rw [e1]; exact hP2) (fun k c hk5 hc => by
      rw [e2, ha _ (by omega)]
      exact h6.uni k c hk5 hc)
    exact ⟨_, _, ek, em, FmZ.sI (FmZ.sAA FmZ.rfl' (by decide) _) (by decide) _, tie_push h1 h2 h8 h9 h10 hr hr2 hF' hS.1 hS.2.1 hS.2.2 c15 c16 ci ek m1 hq e4 e5 i1 rfl h1m⟩
theorem sim_steps : Sim1 TieZ f_X6_steps f_X7_steps := by
  intro x σ μ h
  obtain ⟨F, Q, n, t, o, P, h1, h2, h3, h4, h5, h6, h7, h8, h9, h10⟩ := id h
  rw [e_X6_steps, e_X7_steps]
  by_cases hx : (1 ≤ x ∧ x ≤ nI 60)
  · obtain ⟨m, hm1, hm, rfl⟩ := in_nI1 (b := 60) (by decide) hx
    obtain ⟨hn, ho, hk, hk2, hol, hP1, hP2, hP3⟩ := id h10
    obtain ⟨r, e1, hr, hr2⟩ := note_ok h3 h1.1 hol ho hk hn
    obtain ⟨r2, a1, a2⟩ := aside_ok μ
    obtain ⟨k, σ3, e2, k1, f1, hS⟩ := stepOn_ok (σ := sAA σ 15 r) h1 h2 ⟨h3, h4, h5⟩ (rule_le h2) hm
    obtain ⟨k', μ3, e3, k2, f2, hM⟩ := stepsBy_ok (μ := sAA μ 2 r2) h1 h2 h6 h7 (rule_le h2) hm
    have ek := k2.uni k1
    subst ek
    have hk60 : k' ≤ 60 := by have := k1.1; omega
    obtain ⟨t1, σ4, μ4, t2, t3, -, t4⟩ := note_tie h1 h2 h6 h7 h8 h9 h10 hr hr2 a2 (itF_ff h1 m) hS (f1.mono (by decide) (by decide)) hM (f2.mono (by decide) (by decide))
    have r17 : rd (sAA σ 15 r) 17 (nI 7) = nI (Q 7) := by rw [rd_nI _ 17 (by decide)]; exact h4.1 7 (by decide)
    have r3 : rd (sAA μ 2 r2) 3 (nI 7) = nI (Q 7) := by rw [rd_nI _ 3 (by decide)]; exact h7 7 (by decide)
    rw [bnd_of (isIn_1 hm1 hm (by decide)), bnd_of (in7_1 hm1 hm (by decide)), if_neg (by decide : ¬ nI 1 = nI 0), if_neg (by decide : ¬ nI 1 = nI 0), bnd_of e1, bnd_of a1, gd_nI (by decide) (by decide), gd_nI (by decide) (by decide), r17, r3, bnd_of e2, bnd_of e3]
    dsimp only
    by_cases z : k' = 0
    · rw [if_pos (by rw [z]; decide), if_pos (by rw [z]; decide)]
      exact ⟨_, _, _, rfl, rfl, t1⟩
    · rw [if_neg (nI_ge (by omega) (by omega)), if_neg (nI_ge (by omega) (by omega)), bnd_of t2, bnd_of t3]
      exact ⟨_, _, _, rfl, rfl, t4⟩
  · rw [bnd_of (isIn_1n hx), bnd_of (in7_1n hx), if_pos (rfl : nI 0 = nI 0), if_pos (rfl : nI 0 = nI 0)]
    exact ref_bnd h (-2) (by decide)
