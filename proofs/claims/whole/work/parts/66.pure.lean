/-! ===== PURE 28: the reference's next; next ===== -/
theorem thinnest_eq {μ : St} {F : FF} {Q : Nat → Nat} (hF : FbOk F) (hM : MQs μ Q) (hQ : QOk Q) (h6 : ∀ a, a < 80 → μ.1 6 a = smOf Q (wsum Q (cellSum F)) a) : f_X7_thinnest μ = some (if anyQ Q F then nI (homeQ Q F) else -nI 1) := by
  obtain ⟨-, -, -, -, qe, -⟩ := id hQ
  have hs : ∀ a, wsum Q (cellSum F) a < 2 ^ 30 := fun a => wsum_l30 hF a
  have hm : ∃ y, loopN (f_X7_thinnest_L4 μ) 4096 (-nI 1, nI 0) = some y ∧ ((y = -nI 1 ∧ ∀ a, a < 80 → thinB Q (wsum Q (cellSum F)) a = false) ∨ ∃ m, m < 80 ∧ y = nI m ∧ thinB Q (wsum Q (cellSum F)) m = true ∧ (∀ a, a < 80 → thinB Q (wsum Q (cellSum F)) a = true → wsum Q (cellSum F) m ≤ wsum Q (cellSum F) a) ∧ ∀ a, a < m → thinB Q (wsum Q (cellSum F)) a = true → wsum Q (cellSum F) m < wsum Q (cellSum F) a) := by
    generalize hw : wsum Q (cellSum F) = s at hs h6 ⊢
    refine loop_for (Inv := fun i v => v.2 = nI i ∧ ((v.1 = -nI 1 ∧ ∀ a, a < i → thinB Q s a = false) ∨ ∃ m, m < i ∧ v.1 = nI m ∧ thinB Q s m = true ∧ (∀ a, a < i → thinB Q s a = true → s m ≤ s a) ∧ ∀ a, a < m → thinB Q s a = true → s m < s a)) 80 ?_ ?_ (by decide) ⟨rfl, Or.inl ⟨rfl, fun a ha => by omega⟩⟩
    · rintro i ⟨b, c⟩ hi ⟨q1, q2⟩
      dsimp only at q1 q2
      subst q1
      rw [e_X7_thinnest_L4, if_neg (nI_ge hi (by decide)), bnd_of (isThin7_eq hi (h6 i hi) hM qe (hs i)), e_X7_thinnest_J41, e_X7_thinnest_J37, nI_add]
      cases ht : thinB Q s i
      · rw [bF, if_pos rfl]
        refine ⟨_, rfl, rfl, ?_⟩
        rcases q2 with ⟨z1, z2⟩ | ⟨m, z0, z1, z2, z3, z4⟩
        · refine Or.inl ⟨z1, fun a ha => ?_⟩
          by_cases q : a = i
          · rw [q]; exact ht
          · exact z2 a (by omega)
        · refine Or.inr ⟨m, by omega, z1, z2, fun a ha hta => ?_, z4⟩
          by_cases q : a = i
          · rw [q, ht] at hta; cases hta
          · exact z3 a (by omega) hta
      · rw [bT, if_neg (by decide)]
        rcases q2 with ⟨rfl, z2⟩ | ⟨m, z0, rfl, z2, z3, z4⟩
        · rw [if_pos m1_lt0]
          refine ⟨_, rfl, rfl, Or.inr ⟨i, by omega, rfl, ht, fun a ha hta => ?_, fun a ha hta => ?_⟩⟩
          · by_cases q : a = i
            · rw [q]; exact Nat.le_refl _
            · rw [z2 a (by omega)] at hta; cases hta
          · rw [z2 a ha] at hta; cases hta
        · have lm : lies Q m = true := by
            unfold thinB at z2
            rw [Bool.and_eq_true] at z2
            exact z2.1
          have li : lies Q i = true := by
            have ht := ht
            unfold thinB at ht
            rw [Bool.and_eq_true] at ht
            exact ht.1
          have b1 := hs i
          have b2 := hs m
          rw [if_neg (nI_nn (by omega)), gd_nI hi (by decide), gd_nI (by omega) (by decide), rd_nI _ 6 (by omega), rd_nI _ 6 (by omega), h6 m (by omega), h6 i hi, sm_y lm, sm_y li]
          by_cases z : s m ≤ s i
          · rw [if_pos (nI_le z (by omega))]
            refine ⟨_, rfl, rfl, Or.inr ⟨m, by omega, rfl, z2, fun a ha hta => ?_, z4⟩⟩
            by_cases q : a = i
            · rw [q]; exact z
            · exact z3 a (by omega) hta
          · rw [if_neg (nI_ge (by omega) (by omega))]
            refine ⟨_, rfl, rfl, Or.inr ⟨i, by omega, rfl, ht, fun a ha hta => ?_, fun a ha hta => ?_⟩⟩
            · by_cases q : a = i
              · rw [q]; exact Nat.le_refl _
              · have := z3 a (by omega) hta; omega
            · have := z3 a ha hta; omega
    · rintro ⟨b, c⟩ ⟨q1, q2⟩
      dsimp only at q1 q2
      subst q1
      exact ⟨b, by rw [e_X7_thinnest_L4, if_pos (nI_le (Nat.le_refl 80) (by decide))], q2⟩
  obtain ⟨y, e, hy⟩ := hm
  rw [e_X7_thinnest, e_X7_thinnest_J4, bnd_of e]
  refine congrArg some ?_
  have hh := home_lt (F := F) hQ
  have hL := (lst_ok (s := wsum Q (cellSum F)) (lies0 hQ) 79).2
  rcases hy with ⟨rfl, h2⟩ | ⟨m, h0, rfl, h2, h3, h4⟩
  · have : anyQ Q F = false := h2 _ hh
    rw [this, bF]
  · have ha := any_of hQ h0 h2
    rw [ha, bT]
    have ha : thinB Q (wsum Q (cellSum F)) (homeQ Q F) = true := ha
    have lm : lies Q m = true := by
      unfold thinB at h2
      rw [Bool.and_eq_true] at h2
      exact h2.1
    have k1 := h3 _ hh ha
    have k2 := lst_min (s := wsum Q (cellSum F)) 79 m (by omega) lm
    rcases Nat.lt_trichotomy m (homeQ Q F) with z | z | z
    · have := lst_fst (s := wsum Q (cellSum F)) 79 m z lm
      unfold homeQ at k1
      omega
    · rw [z]
    · have := h4 _ z ha
      unfold homeQ at this
      omega
theorem reaches_ok {μ : St} {F : FF} {Q : Nat → Nat} (hM : MQs μ Q) (hQ : QOk Q) (hL : ∀ c, c < 80 → μ.1 7 c = nI (thinOver Q (wsum Q (cellSum F)) c)) {cell R : Nat} (hk : MkOk μ F cell) : ∃ r, f_X7_reaches (hvQ Q F R) μ = some r ∧ BitOf r (∃ d, d < 80 ∧ famB F cell d = true ∧ wantQ Q F R d = true) := by
  have hh := home_lt (F := F) hQ
  have hsz : cntZ (famB F cell) 80 ≤ 80 := cntZ_le
  have hmb := mbS_in (p := famB F cell) 80
  have g3 : gI μ 3 = nI (cntZ (famB F cell) 80) := hk.2.1
  have hm : ∃ y, loopN (f_X7_reaches_L4 (hvQ Q F R) μ) 4096 (nI 0, nI 0) = some y ∧ BitOf y (∃ k, k < cntZ (famB F cell) 80 ∧ wantQ Q F R (mbS (famB F cell) 80 k) = true) := by
    refine loop_for (Inv := fun i v => v.2 = nI i ∧ BitOf v.1 (∃ k, k < i ∧ wantQ Q F R (mbS (famB F cell) 80 k) = true)) (cntZ (famB F cell) 80) ?_ ?_ (by omega) ⟨rfl, Or.inr ⟨rfl, by rintro ⟨k, hk, -⟩; omega⟩⟩
    · rintro i ⟨b, c⟩ hi ⟨q1, q2⟩
      dsimp only at q1 q2
      subst q1
      have hmi := (hmb i hi).2
      have g9 : rd μ 9 (nI i) = nI (mbS (famB F cell) 80 i) := by rw [rd_nI _ 9 (by omega)]; exact hk.2.2 i hi
      have yes : wantQ Q F R (mbS (famB F cell) 80 i) = true → ∃ v', f_X7_reaches_J51 (hvQ Q F R) (nI i) μ = some (.inr v') ∧ v'.2 = nI (i + 1) ∧ BitOf v'.1 (∃ k, k < i + 1 ∧ wantQ Q F R (mbS (famB F cell) 80 k) = true) := fun hw => ⟨_, by rw [e_X7_reaches_J51, nI_add], rfl, Or.inl ⟨rfl, i, by omega, hw⟩⟩
      have no : (¬ ∃ k, k < i ∧ wantQ Q F R (mbS (famB F cell) 80 k) = true) → wantQ Q F R (mbS (famB F cell) 80 i) = false → ∃ v', f_X7_reaches_J55 (hvQ Q F R) (nI i) μ = some (.inr v') ∧ v'.2 = nI (i + 1) ∧ BitOf v'.1 (∃ k, k < i + 1 ∧ wantQ Q F R (mbS (famB F cell) 80 k) = true) := fun hn hw => ⟨_, by rw [e_X7_reaches_J55, nI_add], rfl, Or.inr ⟨rfl, by
        rintro ⟨k, k1, k2⟩
        by_cases z : k = i
        · rw [z, hw] at k2; cases k2
        · exact hn ⟨k, by omega, k2⟩⟩⟩
      rw [e_X7_reaches_L4, g3, if_neg (nI_ge hi (by omega))]
      rcases q2 with ⟨rfl, k, k1, k2⟩ | ⟨rfl, hn⟩
      · rw [if_neg (by decide)]
        exact ⟨_, by rw [e_X7_reaches_J51, nI_add], rfl, Or.inl ⟨rfl, k, by omega, k2⟩⟩
      · rw [if_pos rfl, gd_nI (by omega) (by decide), gd_nI (by omega) (by decide), g9]
        by_cases q : R = 4
        · have ev : hvQ Q F R = nI (homeQ Q F) := if_pos q
          have ew : wantQ Q F R (mbS (famB F cell) 80 i) = inW Q (homeQ Q F) (mbS (famB F cell) 80 i) := if_pos q
          have c0 : nI 0 ≤ hvQ Q F R := by rw [ev]; exact nI_le (Nat.zero_le _) (by omega)
          have eh : f_X7_has (hvQ Q F R) (nI (mbS (famB F cell) 80 i)) μ = some (if wantQ Q F R (mbS (famB F cell) 80 i) then nI 1 else nI 0) := by
            rw [ev, ew]; exact has7_eq hM hQ hh hmi
          rw [if_pos c0, bnd_of eh]
          cases hw : wantQ Q F R (mbS (famB F cell) 80 i)
          · rw [bF, if_pos rfl]; exact no hn hw
          · rw [bT, if_neg (by decide)]; exact yes hw
        · have ev : hvQ Q F R = -nI 1 := if_neg q
          have ew : wantQ Q F R (mbS (famB F cell) 80 i) = decide (0 < thinOver Q (wsum Q (cellSum F)) (mbS (famB F cell) 80 i)) := if_neg q
          have c0 : ¬ nI 0 ≤ hvQ Q F R := by rw [ev]; decide
          have bo : thinOver Q (wsum Q (cellSum F)) (mbS (famB F cell) 80 i) ≤ 80 := cntZ_le
          rw [if_neg c0, gd_nI hmi (by decide), rd_nI _ 7 (by omega), hL _ hmi]
          by_cases z : 0 < thinOver Q (wsum Q (cellSum F)) (mbS (famB F cell) 80 i)
          · rw [if_neg (nI_ge z (by omega))]; exact yes (by rw [ew]; exact decide_eq_true z)
          · rw [if_pos (nI_le (by omega) (by omega))]; exact no hn (by rw [ew]; exact decide_eq_false z)
    · rintro ⟨b, c⟩ ⟨q1, q2⟩
      dsimp only at q1 q2
      subst q1
      exact ⟨b, by rw [e_X7_reaches_L4, g3, if_pos (nI_le (Nat.le_refl _) (by omega))], q2⟩
  obtain ⟨y, e, hy⟩ := hm
  refine ⟨y, by rw [e_X7_reaches, e_X7_reaches_J4, bnd_of e, hy.gb], hy.iff ⟨?_, ?_⟩⟩
  · rintro ⟨k, k1, k2⟩
    exact ⟨_, (hmb k k1).2, (hmb k k1).1, k2⟩
  · rintro ⟨d, hd, d1, d2⟩
    obtain ⟨k, k1, k2⟩ := mbS_on (p := famB F cell) 80 d hd d1
    exact ⟨k, k1, by rw [k2]; exact d2⟩
theorem keyBy_ok {μ : St} {F : FF} {Q : Nat → Nat} (hM : MFd μ F) (hL : ∀ c, c < 80 → μ.1 7 c = nI (thinOver Q (wsum Q (cellSum F)) c)) {R c : Nat} (hR : R ≤ 4) (hc : c < 80) (h11 : ∀ n, 1 ≤ n → n < 4 → μ.1 11 n = nI (gnP F (famB F c) n)) : f_X7_keyBy (nI R) (nI c) μ = some (keyQ Q F R c) := by
  rw [e_X7_keyBy]
  unfold keyQ
  by_cases r1 : R = 1
  · rw [if_pos (by rw [r1]), if_pos r1, bnd_of (sumOf7_eq hM.1 hM.2.2.2.2 hc)]
  · rw [if_neg (neq_f (b := 1) r1 (by omega) (by decide) rfl rfl), if_neg r1]
    by_cases r2 : R = 2
    · rw [if_pos (by rw [r2]), if_pos r2, gd_nI hc (by decide), rd_nI _ 7 (by omega), hL c hc]
    · rw [if_neg (neq_f (b := 2) r2 (by omega) (by decide) rfl rfl), if_neg r2]
      by_cases r3 : R = 3
      · rw [if_pos (by rw [r3]), if_pos r3, gd_nI (by decide) (by decide), gd_nI (by decide) (by decide), gd_nI (by decide) (by decide), rd_nI _ 11 (by decide), rd_nI _ 11 (by decide), rd_nI _ 11 (by decide), h11 1 (by decide) (by decide), h11 2 (by decide) (by decide), h11 3 (by decide) (by decide), nI_add, nI_add]
        refine congrArg some (congrArg nI ?_)
        show _ = 0 + gnP F (famB F c) 1 + gnP F (famB F c) 2 + gnP F (famB F c) 3
        omega
      · rw [if_neg (neq_f (b := 3) r3 (by omega) (by decide) rfl rfl), if_neg r3]
theorem nextBy_ok {μ : St} {F : FF} {Q : Nat → Nat} (hM : MFd μ F) (hF : FbOk F) (h : MQs μ Q) (hQ : QOk Q) {R : Nat} (hR : R ≤ 4) : ∃ μ', f_X7_nextBy (nI R) μ = some (cellI (nxQ Q F R), μ') ∧ FmZ [6, 7, 8, 9, 10, 11] [3] μ μ' ∧ (nxQ Q F R < 80 → MkOk μ' F (nxQ Q F R)) := by
  obtain ⟨m1, em, hf, hL⟩ := lays_ok hM hF h hQ
  have hQ1 : MQs m1 Q := h.fm hf (by decide)
  have hM1 : MFd m1 F := hM.fm hf (by decide)
  have hh := home_lt (F := F) hQ
  have et := thinnest_eq (μ := m1) hF hQ1 hQ hL.1
  rw [e_X7_nextBy, bnd_of em, bnd_of et]
  have tail : ∀ m2, FmZ [8, 9, 11] [3] m1 m2 → ∃ μ', f_X7_nextBy_J88 (cellI (nxQ Q F R)) m2 = some (cellI (nxQ Q F R), μ') ∧ FmZ [6, 7, 8, 9, 10, 11] [3] μ μ' ∧ (nxQ Q F R < 80 → MkOk μ' F (nxQ Q F R)) := by
    intro m2 hf2
    have hf3 : FmZ [6, 7, 8, 9, 10, 11] [3] μ m2 := (hf.mono (by decide) (by decide)).trans (hf2.mono (by decide) (by decide))
    rw [e_X7_nextBy_J88]
    rcases nxQ_in (Q := Q) (F := F) (R := R) with z | ⟨z, -⟩
    · rw [z, cellI_n, if_pos rfl]
      exact ⟨m2, rfl, hf3, fun y => by omega⟩
    · obtain ⟨m3, e3, hf4, hk⟩ := marks_ok (μ := m2) (F := F) (hM.fm hf3 (by decide)).2.2.2.1 (fun c hc => (hF c hc).2.2.2.1) z
      rw [if_neg (cellI_ne z), cellI_y z, bnd_of e3]
      exact ⟨m3, rfl, hf3.trans (hf4.mono (by decide) (by decide)), fun _ => hk⟩
  cases ha : anyQ Q F
  · rw [bF, e_X7_nextBy_J17]
    have el : loopN (f_X7_nextBy_L17 (nI R) (-nI 1)) 4096 (-nI 1, nI 0, nI 0, m1) = some (-nI 1, m1) := by
      refine loop_l (n := 4095) ?_
      rw [e_X7_nextBy_L17, if_neg (by decide), if_pos m1_lt0]
    have e80 : nxQ Q F R = 80 := by
      unfold nxQ
      rw [selQ_no (fun i => by unfold chQ; rw [ha, Bool.false_and]) 80]
    have := tail m1 FmZ.rfl'
    rw [e80, cellI_n] at this
    rw [bnd_of el, e80, cellI_n]
    exact this
  · rw [bT, e_X7_nextBy_J17]
    have hm : ∃ y, loopN (f_X7_nextBy_L17 (nI R) (nI (homeQ Q F))) 4096 (-nI 1, nI 0, nI 0, m1) = some y ∧ y.1 = cellI (nxQ Q F R) ∧ FmZ [8, 9, 11] [3] m1 y.2 := by
      refine loop_for (Inv := fun i v => v.1 = cellI (selQ (chQ Q F R) (keyQ Q F R) i).1 ∧ v.2.1 = (selQ (chQ Q F R) (keyQ Q F R) i).2 ∧ v.2.2.1 = nI i ∧ FmZ [8, 9, 11] [3] m1 v.2.2.2) 80 ?_ ?_ (by decide) ⟨cellI_n.symm, rfl, rfl, FmZ.rfl'⟩
      · rintro i ⟨b, c, d, st⟩ hi ⟨q1, q2, q3, q4⟩
        dsimp only at q1 q2 q3 q4
        subst q1 q2 q3
        obtain ⟨r, m3, er, hf3, hk, hr, h11⟩ := may7_ok (hM1.fm q4 (by decide)) hF (hQ1.fm q4 (by decide)) hQ (hL.fm q4 (by decide) (by decide) (by decide)) hi
        have hf4 : FmZ [8, 9, 11] [3] m1 m3 := q4.trans hf3
        have hL3 : LdOk m3 F Q := hL.fm hf4 (by decide) (by decide) (by decide)
        have no : chQ Q F R i = false → selQ (chQ Q F R) (keyQ Q F R) (i + 1) = selQ (chQ Q F R) (keyQ Q F R) i := fun z => by rw [selQ_succ, z, Bool.false_and, bF]
        rw [e_X7_nextBy_L17, if_neg (nI_ge hi (by decide)), if_neg (nI_nn (by omega)), bnd_of er]
        dsimp only
        rcases hr with ⟨rfl, hr⟩ | ⟨rfl, hr⟩
        · rw [if_neg (by decide)]
          have e48 : (if nI R = nI 4 then f_X7_nextBy_J48 (nI R) (nI (homeQ Q F)) (cellI (selQ (chQ Q F R) (keyQ Q F R) i).1) (selQ (chQ Q F R) (keyQ Q F R) i).2 (nI i) (nI (homeQ Q F)) m3 else f_X7_nextBy_J48 (nI R) (nI (homeQ Q F)) (cellI (selQ (chQ Q F R) (keyQ Q F R) i).1) (selQ (chQ Q F R) (keyQ Q F R) i).2 (nI i) (-nI 1) m3) = f_X7_nextBy_J48 (nI R) (nI (homeQ Q F)) (cellI (selQ (chQ Q F R) (keyQ Q F R) i).1) (selQ (chQ Q F R) (keyQ Q F R) i).2 (nI i) (hvQ Q F R) m3 := by
            unfold hvQ
            by_cases q : R = 4
            · rw [if_pos (by rw [q]), if_pos q]
            · rw [if_neg (neq_f (b := 4) q (by omega) (by decide) rfl rfl), if_neg q]
          obtain ⟨rr, err, hrr⟩ := reaches_ok (μ := m3) (F := F) (R := R) (hQ1.fm hf4 (by decide)) hQ hL3.2.1 hk
          rw [e48, e_X7_nextBy_J48, bnd_of err, bnd_of (keyBy_ok (hM1.fm hf4 (by decide)) hL3.2.1 hR hi h11), e_X7_nextBy_J75, nI_add]
          rcases hrr with ⟨rfl, hrr⟩ | ⟨rfl, hrr⟩
          · have hb : chQ Q F R i = true := by rw [chQ_any ha]; exact pBq_t ⟨hr, hrr⟩
            rw [if_neg (by decide)]
            rcases selQ_in (B := chQ Q F R) (key := keyQ Q F R) i with z | ⟨z1, z2⟩
            · have e1 : selQ (chQ Q F R) (keyQ Q F R) (i + 1) = (i, keyQ Q F R i) := by rw [selQ_succ, hb, Bool.true_and, decide_eq_true z, Bool.true_or, bT]
              rw [z, cellI_n, if_pos rfl]
              exact ⟨_, rfl, by rw [e1, cellI_y hi], by rw [e1], rfl, hf4⟩
            · rw [if_neg (cellI_ne (by omega))]
              by_cases z3 : (selQ (chQ Q F R) (keyQ Q F R) i).2 ≤ keyQ Q F R i
              · have e1 : selQ (chQ Q F R) (keyQ Q F R) (i + 1) = selQ (chQ Q F R) (keyQ Q F R) i := by
                  rw [selQ_succ, hb, Bool.true_and, decide_eq_false (by omega : ¬ (selQ (chQ Q F R) (keyQ Q F R) i).1 = 80), decide_eq_true z3]
                  rfl
                rw [if_pos z3]
                exact ⟨_, rfl, by rw [e1], by rw [e1], rfl, hf4⟩
              · have e1 : selQ (chQ Q F R) (keyQ Q F R) (i + 1) = (i, keyQ Q F R i) := by
                  rw [selQ_succ, hb, Bool.true_and, decide_eq_false z3, show (!false) = true from rfl, Bool.or_true, bT]
                rw [if_neg z3]
                exact ⟨_, rfl, by rw [e1, cellI_y hi], by rw [e1], rfl, hf4⟩
          · have hb : chQ Q F R i = false := by rw [chQ_any ha]; exact pBq_f (fun z => hrr z.2)
            rw [if_pos rfl]
            exact ⟨_, rfl, by rw [no hb], by rw [no hb], rfl, hf4⟩
        · have hb : chQ Q F R i = false := by rw [chQ_any ha]; exact pBq_f (fun z => hr z.1)
          rw [if_pos rfl, nI_add]
          exact ⟨_, rfl, by rw [no hb], by rw [no hb], rfl, hf4⟩
      · rintro ⟨b, c, d, st⟩ ⟨q1, q2, q3, q4⟩
        dsimp only at q1 q2 q3 q4
        subst q1 q2 q3
        exact ⟨_, by rw [e_X7_nextBy_L17, if_pos (nI_le (Nat.le_refl 80) (by decide))], rfl, q4⟩
    obtain ⟨⟨y1, y2⟩, e, h1, h2⟩ := hm
    dsimp only at h1 h2
    subst h1
    rw [bnd_of e]
    exact tail y2 h2
theorem rule_le {Q : Nat → Nat} (h : QOk Q) : Q 7 ≤ 4 := by
  obtain ⟨-, -, -, -, -, -, -, -, -, q⟩ := h
  exact q
theorem TieZ.scC {σ σ' μ : St} (h : TieZ σ μ) (hf : FmZ [13, 14, 18] [0, 1, 2] σ σ') : TieZ σ' μ := by
  obtain ⟨F, Q, n, t, o, P, h1, h2, h3, h4, h5, h6, h7, h8, h9, h10⟩ := h
  have hS : CSt σ' F Q := CSt.fm ⟨h3, h4, h5⟩ hf (by decide) (by decide) (by decide) (by decide) (by decide) (by decide)
  refine ⟨F, Q, n, t, o, P, h1, h2, hS.1, hS.2.1, hS.2.2, h6, h7, ?_, ?_, ?_⟩
  · unfold Cts at h8 ⊢; rw [hf.2 10 (by decide), hf.2 11 (by decide), hf.2 12 (by decide)]; exact h8
  · unfold Txz at h9 ⊢; rw [hf.1 16 (by decide), hf.2 5 (by decide)]; exact h9
  · unfold Hst at h10 ⊢; rw [hf.1 15 (by decide), hf.2 3 (by decide), hf.2 4 (by decide)]; exact h10
theorem sim_next : Sim0 TieZ f_X6_next f_X7_next := by
  intro σ μ h
  obtain ⟨F, Q, n, t, o, P, h1, h2, h3, h4, h5, h6, h7, h8, h9, h10⟩ := id h
  obtain ⟨σ', e1, hf1⟩ := choice_ok h1.1 h2 ⟨h3, h4, h5⟩ (rule_le h2)
  obtain ⟨μ', e2, hf2, -⟩ := nextBy_ok h6 h1.1 h7 h2 (rule_le h2)
  refine ⟨cellI (nxQ Q F (Q 7)), σ', μ', ?_, ?_, (h.scC (hf1.mono (by decide) (by decide))).scM (hf2.mono (by decide) (by decide))⟩
  · rw [e_X6_next, gd_nI (by decide) (by decide), rd_nI _ 17 (by decide), h4.1 7 (by decide), bnd_of e1]
  · rw [e_X7_next, gd_nI (by decide) (by decide), rd_nI _ 3 (by decide), h7 7 (by decide), bnd_of e2]
