/-! ===== PURE 12: sets ===== -/
theorem CQ.alike2 {σ σ' : St} {Q : Nat → Nat} (h : CQ σ Q) (e17 : σ'.1 17 = σ.1 17) (e9 : σ'.1 9 = σ.1 9) (e2 : σ'.2 = σ.2) : CQ σ' Q := by
  unfold CQ at h ⊢
  rw [e17, e9, e2]
  exact h
/-- fill that is too much goes, all is measured, the change is kept: on both sides -/
theorem settle_tail {σ μ : St} {F F2 : FF} {Q : Nat → Nat} {n t o : Nat} {P : Nat → FF} (hF : FfOk F) (hQ : QOk Q) (hc : Cts σ μ) (ht : Txz σ μ t) (hh : Hst σ μ n o P) {r : Nat → Int32} (hr : ∀ c, c < 80 → r (80 * ((o + n) % 9) + c) = nI (packZ F c)) (hr2 : ∀ c, (c < 80 * ((o + n) % 9) ∨ 80 * ((o + n) % 9) + 80 ≤ c) → r c = σ.1 15 c)
    {σ2 μ2 : St} (hs : ∀ c, c < 80 → F2 0 c ≤ 9 ∧ F2 1 c ≤ 1 ∧ F2 2 c ≤ 3 ∧ F2 3 c ≤ 3 ∧ F2 4 c ≤ 9) (c1 : CF σ2 F2) (c2 : CQ σ2 Q) (c15 : σ2.1 15 = r) (c16 : σ2.1 16 = σ.1 16) (ci : σ2.2 = σ.2)
    (m1 : MFd μ2 F2) (m2 : MQs μ2 Q) (m4 : μ2.1 4 = μ.1 4) (m5 : μ2.1 5 = μ.1 5) (mi : μ2.2 1 = μ.2 1) (mk : μ2.2 0 = nI (min (n + 1) 8)) (mp : ∀ a k c, a < min (n + 1) 8 → k < 5 → c < 80 → μ2.1 1 (400 * a + 80 * k + c) = nI (pushP P n F a k c)) :
    ∃ s3 σ3 σ4 μ3, f_X0_settle σ2 = some s3 ∧ f_X1_measure s3 = some σ3 ∧ f_X2_keep σ3 = some σ4 ∧ f_X7_settles μ2 = some μ3 ∧ TieZ σ4 μ3 := by
  obtain ⟨z, e1, hz⟩ := settle_ok σ2 F2 c1 hs
  have cf : CF (sAA σ2 4 z) (withFill F2 (settle4 F2)) := ⟨c1.1, c1.2.1, c1.2.2.1, c1.2.2.2.1, hz⟩
  obtain ⟨σ3, e2, d1, d2, d3, d4, d5⟩ := measure_ok (sAA σ2 4 z) _ Q cf (settle_ff hs).1 c2 hQ
  obtain ⟨hn, ho, hk, hk2, hol, -⟩ := id hh
  have e5 : σ3.2 = σ.2 := by rw [d5]; exact ci
  have hk3 : ∃ σ4, f_X2_keep σ3 = some σ4 := ⟨_, keep_eq (by rw [e5]; exact hol) ho (by rw [e5]; exact hk) hn⟩
  obtain ⟨σ4, e3⟩ := hk3
  obtain ⟨y, e4, hy1, hy2⟩ := settles_ok μ2 F2 m1 hs
  refine ⟨_, σ3, σ4, _, e1, e2, e3, e4, ?_⟩
  refine tie_push (F' := withFill F2 (settle4 F2)) hF hQ hc ht hh hr hr2 (settle_ff hs) d1 d2 d3 ?_ ?_ e5 e3 ⟨?_, ?_, ?_, ?_, hy1⟩ m2 m4 m5 mi mk mp
  · rw [d4 15 (by decide)]; exact c15
  · rw [d4 16 (by decide)]; exact c16
  · intro c hc; show y c = _; rw [hy2 c (by omega)]; exact m1.1 c hc
  · intro c hc; show y (80 + c) = _; rw [hy2 _ (by omega)]; exact m1.2.1 c hc
  · intro c hc; show y (160 + c) = _; rw [hy2 _ (by omega)]; exact m1.2.2.1 c hc
  · intro c hc; show y (240 + c) = _; rw [hy2 _ (by omega)]; exact m1.2.2.2.1 c hc
theorem sets_core {σ μ : St} (h : TieZ σ μ) {w c v : Nat} (hw : w < 4) (hc : c < 80) (hv : v ≤ partMost w) (hp : ∀ s : St, f_X0_part (nI w) s = some w) (hl : lnC w = 80) :
    ∃ r σ4 μ3, bnd (f_X2_note σ) (fun r5 => bnd (f_X0_part (nI w) r5) (fun r6 => gq (r6 < 18) (gd (nI c) (lnC r6) (gd (nI c) (lnC r6) (bnd (f_X0_settle (sA r5 r6 (nI c) (nI v))) (fun r7 => bnd (f_X1_measure r7) (fun r8 => bnd (f_X2_keep r8) (fun r9 => some ((rd r5 r6 (nI c)), r9))))))))) = some (r, σ4) ∧
      bnd (f_X7_aside μ) (fun r5 => bnd (f_X7_keeps r5) (fun r6 => gd (((nI 80) * nI w) + nI c) 400 (gd (((nI 80) * nI w) + nI c) 400 (bnd (f_X7_settles (sA r6 0 (((nI 80) * nI w) + nI c) (nI v))) (fun r7 => some ((rd r6 0 (((nI 80) * nI w) + nI c)), r7)))))) = some (r, μ3) ∧ TieZ σ4 μ3 := by
  obtain ⟨F, Q, n, t, o, P, h1, h2, h3, h4, h5, h6, h7, h8, h9, h10⟩ := h
  obtain ⟨hn, ho, hk, hk2, hol, hP1, hP2, hP3⟩ := id h10
  obtain ⟨r, e1, hr, hr2⟩ := note_ok h3 h1.1 hol ho hk hn
  obtain ⟨r2, r1, m1, m2, m3⟩ := mkeep_ok hn hk2 h6 hP2
  have hs := setF_ok (c := c) hw hv h1.1
  have c1 : CF (sAA (sAA σ 15 r) w (upd ((sAA σ 15 r).1 w) c (nI v))) (setF F w c v) := by
    refine CF.ofU fun k d hk5 hd => ?_
    unfold setF
    by_cases q : k = w
    · subst q
      rw [sAA_self]
      unfold upd
      by_cases q2 : d = c
      · rw [if_pos q2, if_pos ⟨rfl, q2⟩]
      · rw [if_neg q2, if_neg (fun z => q2 z.2), sAA_ne σ r (by omega : k ≠ 15)]
        exact h3.uni k d hk5 hd
    · rw [sAA_ne _ _ q, if_neg (fun z => q z.1), sAA_ne σ r (by omega : k ≠ 15)]
      exact h3.uni k d hk5 hd
  have x1 : MFd (sAA (sI (sAA (sAA μ 2 r2) 1 r1) 0 (nI (min (n + 1) 8))) 0 (upd (μ.1 0) (80 * w + c) (nI v))) (setF F w c v) := by
    refine MFd.ofU fun k d hk5 hd => ?_
    show upd (μ.1 0) (80 * w + c) (nI v) (80 * k + d) = _
    unfold upd setF
    by_cases q : k = w ∧ d = c
    · rw [if_pos (by rw [q.1, q.2]), if_pos q]
    · rw [if_neg (by omega), if_neg q]
      exact h6.uni k d hk5 hd
  obtain ⟨s3, σ3, σ4, μ3, q1, q2, q3, q4, q5⟩ := settle_tail (F2 := setF F w c v) (σ2 := sAA (sAA σ 15 r) w (upd ((sAA σ 15 r).1 w) c (nI v))) (μ2 := sAA (sI (sAA (sAA μ 2 r2) 1 r1) 0 (nI (min (n + 1) 8))) 0 (upd (μ.1 0) (80 * w + c) (nI v))) h1 h2 h8 h9 h10 hr hr2 hs c1
    (h4.alike2 (by rw [sAA_ne _ _ (by omega : 17 ≠ w)]; rfl) (by rw [sAA_ne _ _ (by omega : 9 ≠ w)]; rfl) rfl) (by rw [sAA_ne _ _ (by omega : 15 ≠ w)]; exact sAA_self σ 15 r) (by rw [sAA_ne _ _ (by omega : 16 ≠ w)]; rfl) rfl x1 h7 rfl rfl rfl rfl m3
  refine ⟨nI (F w c), σ4, μ3, ?_, ?_, q5⟩
  · rw [bnd_of e1, bnd_of (hp _), gq_ok (by omega), hl, gd_nI hc (by decide), gd_nI hc (by decide), sA_nI _ _ _ (by omega), bnd_of q1, bnd_of q2, bnd_of q3, rd_nI _ w (by omega), sAA_ne σ r (by omega : w ≠ 15), h3.uni w c (by omega) hc]
  · rw [bnd_of m1, bnd_of m2, pk_mul, nI_add, gd_nI (by omega) (by decide), gd_nI (by omega) (by decide), sA_nI _ _ _ (by omega)]
    rw [show (sI (sAA (sAA μ 2 r2) 1 r1) 0 (nI (min (n + 1) 8))).1 0 = μ.1 0 from rfl, bnd_of q4, rd_nI _ 0 (by omega)]
    rw [show (sI (sAA (sAA μ 2 r2) 1 r1) 0 (nI (min (n + 1) 8))).1 0 = μ.1 0 from rfl, h6.uni w c (by omega) hc]
theorem sim_sets : Sim3 TieZ f_X6_sets f_X7_sets := by
  intro x w9 v9 σ μ h
  obtain ⟨rr, σr, μr, er1, er2, hrr⟩ := ref_bnd h (-2) (by decide)
  by_cases hx : (0 ≤ x ∧ x ≤ 79)
  · obtain ⟨c, hc, rfl⟩ := in_nI (b := 79) (by decide) hx
    have hc : c < 80 := by omega
    by_cases hw : (nI 0 ≤ w9 ∧ w9 ≤ nI 3)
    · obtain ⟨w, hw3, rfl⟩ := in_nI (b := 3) (by decide) hw
      have main : ∀ (p : Nat), svl 3 w = nI p → partMost w = p → (∀ s : St, f_X0_part (nI w) s = some w) → lnC w = 80 → f_X7_sets (nI c) (nI w) v9 μ = f_X7_sets_J37 (nI c) (nI w) v9 (nI p) (nI 0) v9 μ → p < 2 ^ 31 → ∃ r σ' μ', f_X6_sets (nI c) (nI w) v9 σ = some (r, σ') ∧ f_X7_sets (nI c) (nI w) v9 μ = some (r, μ') ∧ TieZ σ' μ' := by
        intro p e1 e2 hp hl e3 hp31
        have ea : f_X6_sets (nI c) (nI w) v9 σ = bnd (f_X6_isIn v9 (nI 0) (nI p)) (fun r4 => if r4 = nI 0 then (f_X6_sets_J29 σ) else (bnd (f_X2_note σ) (fun r5 => bnd (f_X0_part (nI w) r5) (fun r6 => gq (r6 < 18) (gd (nI c) (lnC r6) (gd (nI c) (lnC r6) (bnd (f_X0_settle (sA r5 r6 (nI c) v9)) (fun r7 => bnd (f_X1_measure r7) (fun r8 => bnd (f_X2_keep r8) (fun r9 => some ((rd r5 r6 (nI c)), r9))))))))))) := by
          rw [e_X6_sets, bnd_of (isCell_t hc), if_neg (by decide), bnd_of (isIn_t hw), if_neg (by decide), gd_nI (by omega) (by decide), nI_clamp (by omega), e1]
        rw [ea, e3, e_X7_sets_J37]
        by_cases hv : (nI 0 ≤ v9 ∧ v9 ≤ nI p)
        · obtain ⟨v, hv3, rfl⟩ := in_nI hp31 hv
          rw [bnd_of (isIn_t hv), if_neg (by decide), bnd_of (in7_t hv), if_neg (by decide)]
          exact sets_core h (by omega) hc (by omega) hp hl
        · rw [bnd_of (isIn_f hv), if_pos rfl, bnd_of (in7_f hv), if_pos rfl]
          exact ⟨rr, σr, μr, er1, er2, hrr⟩
      match w, hw3 with
      | 0, _ => exact main 9 rfl rfl (fun _ => by rw [e_X0_part, if_pos rfl]) rfl (by rw [e_X7_sets, bnd_of (isCell7_t hc), if_neg (by decide), bnd_of (in7_t hw), if_neg (by decide), if_pos rfl]) (by decide)
      | 1, _ => exact main 1 rfl rfl (fun _ => by rw [e_X0_part, if_neg (by decide), if_pos rfl]) rfl (by rw [e_X7_sets, bnd_of (isCell7_t hc), if_neg (by decide), bnd_of (in7_t hw), if_neg (by decide), if_neg (by decide), if_pos rfl]) (by decide)
      | 2, _ => exact main 3 rfl rfl (fun _ => by rw [e_X0_part, if_neg (by decide), if_neg (by decide), if_pos rfl]) rfl (by rw [e_X7_sets, bnd_of (isCell7_t hc), if_neg (by decide), bnd_of (in7_t hw), if_neg (by decide), if_neg (by decide), if_neg (by decide)]) (by decide)
      | 3, _ => exact main 3 rfl rfl (fun _ => by rw [e_X0_part, if_neg (by decide), if_neg (by decide), if_neg (by decide), if_pos rfl]) rfl (by rw [e_X7_sets, bnd_of (isCell7_t hc), if_neg (by decide), bnd_of (in7_t hw), if_neg (by decide), if_neg (by decide), if_neg (by decide)]) (by decide)
      | w + 4, hw3 => omega
    · refine ⟨rr, σr, μr, ?_, ?_, hrr⟩
      · rw [e_X6_sets, bnd_of (isCell_t hc), if_neg (by decide), bnd_of (isIn_f hw), if_pos rfl]
        exact er1
      · rw [e_X7_sets, bnd_of (isCell7_t hc), if_neg (by decide), bnd_of (in7_f hw), if_pos rfl]
        exact er2
  · refine ⟨rr, σr, μr, ?_, ?_, hrr⟩
    · rw [e_X6_sets, bnd_of (isCell_f hx), if_pos rfl]
      exact er1
    · rw [e_X7_sets, bnd_of (isCell7_f hx), if_pos rfl]
      exact er2
