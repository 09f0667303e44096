/-! ===== PURE 26: a family changed, on both sides; more, less ===== -/
/-- what the class holds of a field under the settings; what the reference holds -/
def CSt (σ : St) (F : FF) (Q : Nat → Nat) : Prop := CF σ F ∧ CQ σ Q ∧ CDz σ Q F
def FbOk (F : FF) : Prop := ∀ c, c < 80 → F 0 c ≤ 9 ∧ F 1 c ≤ 1 ∧ F 2 c ≤ 3 ∧ F 3 c ≤ 3 ∧ F 4 c ≤ 9
def mixF (F : FF) (f : Nat → Nat) (i : Nat) : FF := withFill F (fun c => if c < i then f c else F 4 c)
theorem withFill_id (F : FF) : withFill F (F 4) = F := by
  funext k
  unfold withFill
  by_cases q : k = 4
  · rw [if_pos q, q]
  · rw [if_neg q]
theorem mixF_0 (F : FF) (f : Nat → Nat) : mixF F f 0 = F := by
  refine Eq.trans ?_ (withFill_id F)
  exact congrArg (withFill F) (funext fun c => if_neg (Nat.not_lt_zero _))
theorem mixF_skip {F : FF} {f : Nat → Nat} {i : Nat} (h : f i = F 4 i) : mixF F f (i + 1) = mixF F f i := by
  refine congrArg (withFill F) (funext fun c => ?_)
  by_cases q : c = i
  · rw [if_pos (by omega), if_neg (by omega), q, h]
  · by_cases z : c < i
    · rw [if_pos z, if_pos (by omega)]
    · rw [if_neg z, if_neg (by omega)]
theorem mixF_end {F : FF} {f : Nat → Nat} (h : ∀ c, 80 ≤ c → f c = F 4 c) : mixF F f 80 = withFill F f := by
  refine congrArg (withFill F) (funext fun c => ?_)
  by_cases z : c < 80
  · rw [if_pos z]
  · rw [if_neg z, h c (by omega)]
theorem mixF_ok {F : FF} (hF : FbOk F) {f : Nat → Nat} (hf : ∀ c, c < 80 → f c ≤ 9) (i : Nat) : FbOk (mixF F f i) := by
  intro c hc
  have q := hF c hc
  refine ⟨q.1, q.2.1, q.2.2.1, q.2.2.2.1, ?_⟩
  show (if c < i then f c else F 4 c) ≤ 9
  split
  · exact hf c hc
  · exact q.2.2.2.2
theorem CF.fm {L LI : List Nat} {σ σ' : St} {F : FF} (h : CF σ F) (hf : FmZ L LI σ σ') (hL : ∀ k, k < 5 → k ∉ L) : CF σ' F := by
  unfold CF at h ⊢
  rw [hf.1 0 (hL 0 (by decide)), hf.1 1 (hL 1 (by decide)), hf.1 2 (hL 2 (by decide)), hf.1 3 (hL 3 (by decide)), hf.1 4 (hL 4 (by decide))]
  exact h
theorem change_ok {σ : St} {F : FF} {Q : Nat → Nat} (hF : FbOk F) (hQ : QOk Q) (h : CSt σ F Q) {cell : Nat} (hc : cell < 80) (d : Int32) (f : Nat → Nat) (hf9 : ∀ c, c < 80 → f c ≤ 9) (hin : ∀ c, c < 80 → famB F cell c = true → nI (F 4 c) + d = nI (f c)) (hout : ∀ c, (decide (c < 80) && famB F cell c) = false → f c = F 4 c) :
    ∃ σ', f_X1_change (nI cell) d σ = some σ' ∧ FmZ [4, 5, 6, 7, 10] [] σ σ' ∧ CSt σ' (withFill F f) Q := by
  have bt := (hF cell hc).2.2.2.1
  rw [e_X1_change, gd_nI hc (by decide), rd_nI _ 3 (by omega), h.1.2.2.2.1 cell hc, e_X1_change_J13]
  have hm : ∃ y, loopN (f_X1_change_L13 (nI cell) d (nI (F 3 cell))) 4096 (nI 0, σ) = some y ∧ FmZ [4, 5, 6, 7, 10] [] σ y ∧ CSt y (mixF F f 80) Q := by
    refine loop_for (Inv := fun i v => v.1 = nI i ∧ FmZ [4, 5, 6, 7, 10] [] σ v.2 ∧ CSt v.2 (mixF F f i) Q) 80 ?_ ?_ (by decide) ⟨rfl, FmZ.rfl', by rw [mixF_0]; exact h⟩
    · rintro i ⟨b, st⟩ hi ⟨q1, q2, q3⟩
      dsimp only at q1 q2 q3
      subst q1
      have bi := (hF i hi).2.2.2.1
      have rt : rd st 3 (nI i) = nI (F 3 i) := by
        rw [rd_nI _ 3 (by omega)]; exact q3.1.2.2.2.1 i hi
      have yes : famB F cell i = true → ∃ v', f_X1_change_J44 (nI cell) d (nI (F 3 cell)) (nI i) st = some (.inr v') ∧ v'.1 = nI (i + 1) ∧ FmZ [4, 5, 6, 7, 10] [] σ v'.2 ∧ CSt v'.2 (mixF F f (i + 1)) Q := by
        intro hfam
        have e4 : (mixF F f i) 4 i = F 4 i := if_neg (by omega)
        have e4' : (mixF F f (i + 1)) 4 i = f i := if_pos (by omega)
        have en : ∀ c, c ≠ i → (mixF F f (i + 1)) 4 c = (mixF F f i) 4 c := by
          intro c hne
          show (if c < i + 1 then f c else F 4 c) = if c < i then f c else F 4 c
          by_cases z : c < i
          · rw [if_pos z, if_pos (by omega)]
          · rw [if_neg z, if_neg (by omega)]
        have r4 : rd st 4 (nI i) + d = nI (f i) := by
          rw [rd_nI _ 4 (by omega), q3.1.2.2.2.2 i hi, e4]
          exact hin i hi hfam
        have cf1 : CF (sA st 4 (nI i) (nI (f i))) (mixF F f (i + 1)) := by
          refine ⟨q3.1.1, q3.1.2.1, q3.1.2.2.1, q3.1.2.2.2.1, fun c hc1 => ?_⟩
          rw [sA_at _ _ (by omega)]
          unfold upd
          by_cases z : c = i
          · rw [if_pos z, z, e4']
          · rw [if_neg z, en c z]; exact q3.1.2.2.2.2 c hc1
        have f1 : FmZ [4] [] st (sA st 4 (nI i) (nI (f i))) := FmZ.sA FmZ.rfl' (by decide) _ _
        have b1 := mixF_ok hF hf9 i
        have b2 := mixF_ok hF hf9 (i + 1)
        have ws : ∀ a, wsum Q (cellSum (mixF F f (i + 1))) a + (if inW Q a i then F 0 i + F 4 i else 0) = wsum Q (cellSum (mixF F f i)) a + (if inW Q a i then F 0 i + f i else 0) := by
          intro a
          have w := wsum_upd (Q := Q) (g := cellSum (mixF F f i)) (g' := cellSum (mixF F f (i + 1))) (a := a) hi (fun c _ hne => by
            show F 0 c + (mixF F f (i + 1)) 4 c = F 0 c + (mixF F f i) 4 c
            rw [en c hne])
          have c1 : cellSum (mixF F f i) i = F 0 i + F 4 i := by show F 0 i + (mixF F f i) 4 i = _; rw [e4]
          have c2 : cellSum (mixF F f (i + 1)) i = F 0 i + f i := by show F 0 i + (mixF F f (i + 1)) 4 i = _; rw [e4']
          rw [c1, c2] at w
          exact w
        obtain ⟨s2, e2, f2, w2⟩ := wshift_ok (sA st 4 (nI i) (nI (f i))) Q (wsum Q (cellSum (mixF F f i))) (wsum Q (cellSum (mixF F f (i + 1)))) (q3.2.1.fm f1 (by decide) (by decide) (by decide) (by decide) (by decide) (by decide)) hQ q3.2.2.1 hi (fun a => wsum_l30 b1 a) (fun a => wsum_l30 b2 a) d (fun a ha la ia => by
          have w := ws a
          rw [ia, bT, bT] at w
          exact byzQ (hin i hi hfam) (by omega)) (fun a ha la ia => by
          have w := ws a
          rw [ia, bF, bF] at w
          omega)
        have f3' : FmZ [4, 5, 6, 7] [] st s2 := (f1.mono (by decide) (by decide)).trans (f2.mono (by decide) (by decide))
        have f3 : FmZ [4, 5, 6, 7, 10] [] st s2 := f3'.mono (by decide) (by decide)
        obtain ⟨r, e3, hr⟩ := nshift_ok s2 F hi (by rw [f3.1 11 (by decide)]; exact q3.2.2.2.2.2.1 i hi) d
        refine ⟨(nI (i + 1), sAA s2 10 r), ?_, rfl, q2.trans (FmZ.sAA f3 (by decide) _), ?_, ?_, ?_, ?_, ?_⟩
        · rw [e_X1_change_J44, gd_nI hi (by decide), gd_nI hi (by decide), r4, bnd_of e2, bnd_of e3, nI_add]
        · exact (cf1.fm f2 (by decide)).fm (L := [10]) (LI := []) (FmZ.sAA FmZ.rfl' (by decide) _) (by decide)
        · exact (q3.2.1.fm f3 (by decide) (by decide) (by decide) (by decide) (by decide) (by decide)).fm (L := [10]) (LI := []) (FmZ.sAA FmZ.rfl' (by decide) _) (by decide) (by decide) (by decide) (by decide) (by decide) (by decide)
        · exact w2
        · intro g x hg1 hg4 hx
          show s2.1 8 _ = _
          rw [f3.1 8 (by decide)]
          exact q3.2.2.2.1 g x hg1 hg4 hx
        · refine ⟨fun n hn1 hn4 => ?_, fun c hc1 => ?_, fun g n hg hn1 hn4 => ?_⟩
          · show r n = _
            have bu := sumZ_upd (n := 80) (f := fun c => if bor F n c then (mixF F f i) 4 c else 0) (f' := fun c => if bor F n c then (mixF F f (i + 1)) 4 c else 0) hi (fun c _ hne => by rw [en c hne])
            rw [e4, e4'] at bu
            have bu : burdenOf (mixF F f (i + 1)) n + (if bor F n i then F 4 i else 0) = burdenOf (mixF F f i) n + (if bor F n i then f i else 0) := bu
            rw [hr n hn1 hn4, show s2.1 10 n = nI (burdenOf (mixF F f i) n) from by rw [f3'.1 10 (by decide)]; exact q3.2.2.2.2.1 n hn1 hn4]
            cases hb : bor F n i
            · rw [hb, bF, bF] at bu
              rw [bF]
              exact congrArg nI (by omega)
            · rw [hb, bT, bT] at bu
              rw [bT]
              exact byzQ (hin i hi hfam) (by omega)
          · show s2.1 11 c = _
            rw [f3.1 11 (by decide)]
            exact q3.2.2.2.2.2.1 c hc1
          · show s2.1 12 _ = _
            rw [f3.1 12 (by decide)]
            exact q3.2.2.2.2.2.2 g n hg hn1 hn4
      rw [e_X1_change_L13, if_neg (nI_ge hi (by decide))]
      by_cases c1 : i = cell
      · rw [if_pos (by rw [c1])]
        exact yes (by unfold famB; rw [c1]; simp)
      · rw [if_neg (by rw [nI_eq (by omega) (by omega)]; exact c1), gd_nI hi (by decide), rt]
        have e1 : famB F cell i = (decide (F 3 cell ≠ 0) && (F 3 i == F 3 cell)) := by
          unfold famB
          rw [show (i == cell) = false from by simpa using c1, Bool.false_or]
        have no : famB F cell i = false → ∃ v', some (Sum.inr (nI i + nI 1, st)) = (some (.inr v') : Option (St ⊕ (Int32 × St))) ∧ v'.1 = nI (i + 1) ∧ FmZ [4, 5, 6, 7, 10] [] σ v'.2 ∧ CSt v'.2 (mixF F f (i + 1)) Q := by
          intro hfam
          refine ⟨_, rfl, by rw [nI_add], q2, ?_⟩
          rw [mixF_skip (hout i (by rw [hfam, Bool.and_false]))]
          exact q3
        by_cases c2 : F 3 cell = 0
        · rw [if_pos (by rw [c2])]
          exact no (by rw [e1, c2]; rfl)
        · rw [if_neg (neq_f (b := 0) c2 (by omega) (by decide) rfl rfl)]
          by_cases c3 : F 3 i = F 3 cell
          · rw [if_pos (by rw [c3])]
            exact yes (by rw [e1, decide_eq_true c2, c3]; simp)
          · rw [if_neg (by rw [nI_eq (by omega) (by omega)]; exact c3)]
            exact no (by rw [e1, show (F 3 i == F 3 cell) = false from by simpa using c3, Bool.and_false])
    · rintro ⟨b, st⟩ ⟨q1, q2, q3⟩
      dsimp only at q1 q2 q3
      subst q1
      exact ⟨st, by rw [e_X1_change_L13, if_pos (nI_le (Nat.le_refl 80) (by decide))], q2, q3⟩
  obtain ⟨y, e, f1, f2⟩ := hm
  rw [mixF_end (fun c hc => hout c (by rw [decide_eq_false (by omega)]; rfl))] at f2
  exact ⟨y, by rw [bnd_of e], f1, f2⟩
theorem fills_ok {μ : St} {F : FF} (hM : MFd μ F) {cell : Nat} (hk : ∀ c, c < 80 → μ.1 8 c = nI (if famB F cell c then 1 else 0)) (d : Int32) (f : Nat → Nat) (hin : ∀ c, c < 80 → famB F cell c = true → nI (F 4 c) + d = nI (f c)) (hout : ∀ c, (decide (c < 80) && famB F cell c) = false → f c = F 4 c) :
    ∃ r, f_X7_fills d μ = some (sAA μ 0 r) ∧ MFd (sAA μ 0 r) (withFill F f) := by
  have hm := loop_store (σ := μ) (k := 0) (off := 320) (N := 80) (new := fun c => nI (f c)) (body := f_X7_fills_L2 d) (fuel := 4096) (by decide) (fun i r hi h3 h4 => by
    rw [e_X7_fills_L2, if_neg (nI_ge hi (by decide)), nI_add, gd_nI (by omega) (by decide), gd_nI hi (by decide), gd_nI (by omega) (by decide), rd_nI _ 0 (by omega), rd_nI _ 8 (by omega), sAA_self, sAA_ne μ r (by decide : (8 : Nat) ≠ 0), h4 (320 + i) (by omega), hM.2.2.2.2 i hi, hk i hi, sA_nI _ _ _ (by omega), sAA_self, sAA_sAA, nI_add]
    cases hf : famB F cell i
    · rw [bF, show d * nI 0 = nI 0 from Int32.mul_zero, add_0Z, hout i (by rw [hf, Bool.and_false])]
    · rw [bT, show d * nI 1 = d from Int32.mul_one _, hin i hi hf]) (fun r => by
    rw [e_X7_fills_L2, if_pos (nI_le (Nat.le_refl 80) (by decide))])
  obtain ⟨r, e, h1, h2⟩ := hm
  refine ⟨r, by rw [e_X7_fills, e_X7_fills_J2, bnd_of e], ?_, ?_, ?_, ?_, fun c hc => h1 c hc⟩
  · intro c hc; show r c = _; rw [h2 c (by omega)]; exact hM.1 c hc
  · intro c hc; show r (80 + c) = _; rw [h2 _ (by omega)]; exact hM.2.1 c hc
  · intro c hc; show r (160 + c) = _; rw [h2 _ (by omega)]; exact hM.2.2.1 c hc
  · intro c hc; show r (240 + c) = _; rw [h2 _ (by omega)]; exact hM.2.2.2.1 c hc
/-- the fill of a family becomes another, cell by cell -/
def famF (F : FF) (cell : Nat) (g : Nat → Nat) : Nat → Nat := fun c => if decide (c < 80) && famB F cell c then g (F 4 c) else F 4 c
theorem famF_in {F : FF} {cell c : Nat} {g : Nat → Nat} (hc : c < 80) (h : famB F cell c = true) : famF F cell g c = g (F 4 c) := by
  unfold famF
  rw [decide_eq_true hc, h]
  rfl
theorem famF_out {F : FF} {cell c : Nat} {g : Nat → Nat} (h : (decide (c < 80) && famB F cell c) = false) : famF F cell g c = F 4 c := by
  unfold famF
  rw [h]
  rfl
theorem famF_no {F : FF} {cell c : Nat} {g : Nat → Nat} (h : famB F cell c = false) : famF F cell g c = F 4 c := famF_out (by rw [h, Bool.and_false])
theorem fam_self {F : FF} {cell : Nat} : famB F cell cell = true := by
  unfold famB
  simp
theorem fam_alike {F : FF} {cell c d : Nat} (e : F 3 c = F 3 d) (hne : F 3 c ≠ 0) : famB F cell c = famB F cell d := by
  have key : ∀ x, F 3 x = F 3 c → famB F cell x = (F 3 c == F 3 cell) := by
    intro x hx
    unfold famB
    by_cases q : x = cell
    · subst q
      rw [hx]
      simp
    · rw [show (x == cell) = false from by simpa using q, Bool.false_or, hx]
      by_cases z : F 3 cell = 0
      · rw [z, show (F 3 c == 0) = false from by simpa using hne]
        rfl
      · rw [decide_eq_true z, Bool.true_and]
  rw [key c rfl, key d e.symm]
theorem fam_fill {F : FF} (hF : FfOk F) {cell c : Nat} (hcell : cell < 80) (hc : c < 80) (h : famB F cell c = true) : F 4 c = F 4 cell := by
  unfold famB at h
  rw [Bool.or_eq_true, Bool.and_eq_true] at h
  rcases h with h | ⟨h1, h2⟩
  · rw [show c = cell from by simpa using h]
  · have e : F 3 c = F 3 cell := by simpa using h2
    exact hF.2 c cell hc hcell e (by rw [e]; exact of_decide_eq_true h1)
theorem famF_ff {F : FF} (hF : FfOk F) {cell : Nat} {g : Nat → Nat} (hg : ∀ c, c < 80 → famB F cell c = true → g (F 4 c) ≤ 9) : FfOk (withFill F (famF F cell g)) := by
  refine ⟨fun c hc => ?_, fun c d hc hd e hne => ?_⟩
  · have q := hF.1 c hc
    refine ⟨q.1, q.2.1, q.2.2.1, q.2.2.2.1, ?_⟩
    show famF F cell g c ≤ 9
    cases hf : famB F cell c
    · rw [famF_no hf]; exact q.2.2.2.2
    · rw [famF_in hc hf]; exact hg c hc hf
  · have e : F 3 c = F 3 d := e
    have hne : F 3 c ≠ 0 := hne
    show famF F cell g c = famF F cell g d
    have ef := fam_alike (cell := cell) e hne
    have e4 := hF.2 c d hc hd e hne
    cases hf : famB F cell c
    · rw [famF_no hf, famF_no (by rw [← ef]; exact hf), e4]
    · rw [famF_in hc hf, famF_in hd (by rw [← ef]; exact hf), e4]
theorem FmZ.intsQ {L : List Nat} {σ σ' : St} (h : FmZ L [] σ σ') : σ'.2 = σ.2 := funext fun k => h.2 k (by intro z; cases z)
/-- a change that can be undone: the class's side, and the tie with what the reference has come to -/
theorem chFam_ok {σ μ μ3 : St} {F : FF} {Q : Nat → Nat} {n t o : Nat} {P : Nat → FF} (h1 : FfOk F) (h2 : QOk Q) (hS : CSt σ F Q) (h8 : Cts σ μ) (h9 : Txz σ μ t) (h10 : Hst σ μ n o P) {cell : Nat} (hc : cell < 80) (d : Int32) (f : Nat → Nat) (hin : ∀ c, c < 80 → famB F cell c = true → nI (F 4 c) + d = nI (f c)) (hout : ∀ c, (decide (c < 80) && famB F cell c) = false → f c = F 4 c) (hF' : FfOk (withFill F f))
    (m1 : MFd μ3 (withFill F f)) (m2 : MQs μ3 Q) (m4 : μ3.1 4 = μ.1 4) (m5 : μ3.1 5 = μ.1 5) (mi : μ3.2 1 = μ.2 1) (mk : μ3.2 0 = nI (min (n + 1) 8)) (mp : ∀ a k c, a < min (n + 1) 8 → k < 5 → c < 80 → μ3.1 1 (400 * a + 80 * k + c) = nI (pushP P n F a k c)) :
    ∃ σ', f_X6_changeFamily (nI cell) d σ = some (nI (f cell), σ') ∧ TieZ σ' μ3 := by
  obtain ⟨hn, ho, hk, hk2, hol, hP1, hP2, hP3⟩ := id h10
  obtain ⟨r, e1, hr, hr2⟩ := note_ok hS.1 h1.1 hol ho hk hn
  obtain ⟨σ3, e2, f2, s2⟩ := change_ok (σ := sAA σ 15 r) h1.1 h2 hS hc d f (fun c hc => (hF'.1 c hc).2.2.2.2) hin hout
  have ci : σ3.2 = σ.2 := f2.intsQ
  have e3 := keep_eq (σ := σ3) (o := o) (n := n) (by rw [ci]; exact hol) ho (by rw [ci]; exact hk) hn
  refine ⟨_, ?_, tie_push h1 h2 h8 h9 h10 hr hr2 hF' s2.1 s2.2.1 s2.2.2 (f2.1 15 (by decide)) (f2.1 16 (by decide)) ci e3 m1 m2 m4 m5 mi mk mp⟩
  rw [e_X6_changeFamily, bnd_of e1, bnd_of e2, bnd_of e3, gd_nI hc (by decide), rd_nI _ 4 (by omega)]
  have e4 : (if n < 8 then sI σ3 3 (nI (n + 1)) else sI σ3 4 (nI ((o + 1) % 9))).1 4 cell = nI (f cell) := by
    have q : σ3.1 4 cell = nI (f cell) := s2.1.2.2.2.2 cell hc
    split
    · exact q
    · exact q
  rw [e4]
theorem sim_more : Sim1 TieZ f_X6_more f_X7_more := by
  intro x σ μ h
  obtain ⟨F, Q, n, t, o, P, h1, h2, h3, h4, h5, h6, h7, h8, h9, h10⟩ := id h
  rw [e_X6_more, e_X7_more]
  by_cases hx : (0 ≤ x ∧ x ≤ 79)
  · obtain ⟨c, hc, rfl⟩ := in_nI (b := 79) (by decide) hx
    have hc : c < 80 := by omega
    rw [bnd_of (isCell_t hc), bnd_of (isCell7_t hc), if_neg (by decide : ¬ nI 1 = nI 0), if_neg (by decide : ¬ nI 1 = nI 0)]
    obtain ⟨m1, em, hf, hL⟩ := lays_ok h6 h1.1 h7 h2
    obtain ⟨r, er, hr⟩ := may6_ok h1.1 h2 h3 h4 h5 hc
    obtain ⟨r', m2, er', hf2, hk, hr', -⟩ := may7_ok (h6.fm hf (by decide)) h1.1 (h7.fm hf (by decide)) h2 hL hc
    have hf3 : ScM μ m2 := (hf.mono (by decide) (by decide)).trans (hf2.mono (by decide) (by decide))
    have hT2 : TieZ σ m2 := h.scM hf3
    rw [bnd_of em, bnd_of er, bnd_of er', hr'.uni hr]
    dsimp only
    rcases hr with ⟨rfl, hm⟩ | ⟨rfl, hm⟩
    · rw [if_neg (by decide : ¬ nI 1 = nI 0), if_neg (by decide : ¬ nI 1 = nI 0)]
      obtain ⟨hn, ho, hkc, hk2, hol, hP1, hP2, hP3⟩ := id h10
      obtain ⟨r2, r1, a1, a2, a3⟩ := mkeep_ok (μ := m2) (F := F) (n := n) (P := P) hn (by rw [hf3.2 0 (by decide)]; exact hk2) (h6.fm hf3 (by decide)) (by rw [hf3.1 1 (by decide)]; exact hP2)
      have hin : ∀ d, d < 80 → famB F c d = true → nI (F 4 d) + nI 1 = nI (famF F c (fun v => v + 1) d) := fun d hd hfm => by rw [famF_in hd hfm, nI_add]
      have hout : ∀ d, (decide (d < 80) && famB F c d) = false → famF F c (fun v => v + 1) d = F 4 d := fun d hfm => famF_out hfm
      have hF' : FfOk (withFill F (famF F c (fun v => v + 1))) := famF_ff h1 (fun d hd hfm => by
        have := (hm.2.1 d hd hfm).2
        unfold cellSum at this
        omega)
      have hm3 : MFd m2 F := h6.fm hf3 (by decide)
      have hq3 : MQs m2 Q := h7.fm hf3 (by decide)
      obtain ⟨y, a4, a5⟩ := fills_ok (μ := sI (sAA (sAA m2 2 r2) 1 r1) 0 (nI (min (n + 1) 8))) (F := F) (cell := c) hm3 hk.1 (nI 1) _ hin hout
      obtain ⟨σ', b1, b2⟩ := chFam_ok (μ := μ) (μ3 := sAA (sI (sAA (sAA m2 2 r2) 1 r1) 0 (nI (min (n + 1) 8))) 0 y) h1 h2 ⟨h3, h4, h5⟩ h8 h9 h10 hc (nI 1) _ hin hout hF' a5 hq3 (hf3.1 4 (by decide)) (hf3.1 5 (by decide)) (hf3.2 1 (by decide)) rfl a3
      refine ⟨_, _, _, by rw [bnd_of b1], ?_, b2⟩
      rw [bnd_of a1, bnd_of a2, bnd_of a4, nI_add, gd_nI (by omega) (by decide), rd_nI _ 0 (by omega), a5.2.2.2.2 c hc]
      rfl
    · rw [if_pos (rfl : nI 0 = nI 0), if_pos (rfl : nI 0 = nI 0)]
      exact ref_bnd hT2 (-3) (by decide)
  · rw [bnd_of (isCell_f hx), bnd_of (isCell7_f hx), if_pos (rfl : nI 0 = nI 0), if_pos (rfl : nI 0 = nI 0)]
    exact ref_bnd h (-2) (by decide)
theorem nI_sub1 {v : Nat} (h : 0 < v) : nI v + -nI 1 = nI (v - 1) := nI_prdQ (by omega)
theorem sim_less : Sim1 TieZ f_X6_less f_X7_less := by
  intro x σ μ h
  obtain ⟨F, Q, n, t, o, P, h1, h2, h3, h4, h5, h6, h7, h8, h9, h10⟩ := id h
  rw [e_X6_less, e_X7_less]
  by_cases hx : (0 ≤ x ∧ x ≤ 79)
  · obtain ⟨c, hc, rfl⟩ := in_nI (b := 79) (by decide) hx
    have hc : c < 80 := by omega
    have b9 := (h1.1 c hc).2.2.2.2
    rw [bnd_of (isCell_t hc), bnd_of (isCell7_t hc), if_neg (by decide : ¬ nI 1 = nI 0), if_neg (by decide : ¬ nI 1 = nI 0), gd_nI hc (by decide), nI_add, gd_nI (by omega) (by decide), rd_nI _ 4 (by omega), rd_nI _ 0 (by omega), h3.2.2.2.2 c hc, h6.2.2.2.2 c hc]
    by_cases q : F 4 c = 0
    · rw [if_neg (nI_nlt (by omega) (by omega)), if_pos (by rw [q])]
      exact ref_bnd h (-3) (by decide)
    · rw [if_pos (nI_lt (by omega) (by omega)), if_neg (neq_f (b := 0) q (by omega) (by decide) rfl rfl)]
      obtain ⟨hn, ho, hkc, hk2, hol, hP1, hP2, hP3⟩ := id h10
      obtain ⟨r2, r1, a1, a2, a3⟩ := mkeep_ok hn hk2 h6 hP2
      obtain ⟨m2, am, hf3, hk⟩ := marks_ok (μ := sI (sAA (sAA μ 2 r2) 1 r1) 0 (nI (min (n + 1) 8))) (F := F) h6.2.2.2.1 (fun c hc => (h1.1 c hc).2.2.2.1) hc
      have hin : ∀ d, d < 80 → famB F c d = true → nI (F 4 d) + -nI 1 = nI (famF F c (fun v => v - 1) d) := fun d hd hfm => by
        rw [famF_in hd hfm]
        exact nI_sub1 (by rw [fam_fill h1 hc hd hfm]; omega)
      have hout : ∀ d, (decide (d < 80) && famB F c d) = false → famF F c (fun v => v - 1) d = F 4 d := fun d hfm => famF_out hfm
      have hF' : FfOk (withFill F (famF F c (fun v => v - 1))) := famF_ff h1 (fun d hd hfm => by
        have := (h1.1 d hd).2.2.2.2
        omega)
      have hq3 : MQs m2 Q := MQs.fm (μ := sI (sAA (sAA μ 2 r2) 1 r1) 0 (nI (min (n + 1) 8))) h7 hf3 (by decide)
      obtain ⟨y, a4, a5⟩ := fills_ok (μ := m2) (F := F) (cell := c) (MFd.fm (μ := sI (sAA (sAA μ 2 r2) 1 r1) 0 (nI (min (n + 1) 8))) h6 hf3 (by decide)) hk.1 (-nI 1) _ hin hout
      obtain ⟨σ', b1, b2⟩ := chFam_ok (μ := μ) (μ3 := sAA m2 0 y) h1 h2 ⟨h3, h4, h5⟩ h8 h9 h10 hc (-nI 1) _ hin hout hF' a5 hq3 (hf3.1 4 (by decide)) (hf3.1 5 (by decide)) (hf3.2 1 (by decide)) (hf3.2 0 (by decide)) (fun a k c ha hk5 hc5 => by
        show m2.1 1 _ = _
        rw [hf3.1 1 (by decide)]
        exact a3 a k c ha hk5 hc5)
      refine ⟨_, _, _, by rw [bnd_of b1], ?_, b2⟩
      rw [bnd_of a1, bnd_of a2, bnd_of am, bnd_of a4, gd_nI (by omega) (by decide), rd_nI _ 0 (by omega), a5.2.2.2.2 c hc]
      rfl
  · rw [bnd_of (isCell_f hx), bnd_of (isCell7_f hx), if_pos (rfl : nI 0 = nI 0), if_pos (rfl : nI 0 = nI 0)]
    exact ref_bnd h (-2) (by decide)
