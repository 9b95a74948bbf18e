/-! PURE 71: a run of the days, the program -/
def bE (D : aD) (l : Nat → Nat) (k : Nat) : (Nat → Nat) × Nat := if dd D 0 (dd D 5 k) = 21 ∧ 1 < l (dd D 5 k) then (dtUp l (dd D 5 k) (l (dd D 5 k) - 1), dd D 5 k + 1) else (l, k + 1)
def nxK (A : aH) (D : aD) (k : Nat) : Nat := if dd D 0 k = 19 then (if holdK A D k = true then k + 1 else dd D 5 k + 1) else if dd D 0 k = 23 then dLen D else k + 1
def lK (D : aD) (k : Nat) (l : Nat → Nat) : Nat → Nat := if dd D 0 k = 21 then dtUp l k (dd D 2 k) else l
def tkQ (b : Bool) (Q : aQ) : aQ := if b = true then Q else qMiss Q
def stA (A : aH) (D : aD) (k : Nat) (Q : aQ) : aH := (doK A D k (qDone Q)).2.1
def stQ (A : aH) (D : aD) (k : Nat) (Q : aQ) : aQ := tkQ (doK A D k (qDone Q)).1 (doK A D k (qDone Q)).2.2
def stL (A : aH) (D : aD) (k : Nat) (Q : aQ) : aQ := qLoop (stQ A D k Q) (lK D k (ql (stQ A D k Q)))
def rN (D : aD) : Nat → aH → aQ → Nat → aH × aQ × Nat
  | 0, A, Q, _ => (A, Q, 0)
  | m + 1, A, Q, k => if dLen D ≤ k then (A, Q, 0) else if dd D 0 k = 22 then rN D m A (qLoop Q (bE D (ql Q) k).1) (bE D (ql Q) k).2 else if 300 ≤ qn Q then (A, Q, 1) else rN D m (stA A D k Q) (stL A D k Q) (nxK (stA A D k Q) D k)
def qOK (Q : aQ) : Prop := qd Q < 65536 ∧ qm Q ≤ qn Q ∧ qn Q ≤ 300
theorem doK_q {A : aH} {D : aD} {k : Nat} {Q : aQ} (h : qd Q < 65536) : qd (doK A D k Q).2.2 < 65536 ∧ qn (doK A D k Q).2.2 = qn Q ∧ qm (doK A D k Q).2.2 = qm Q ∧ ql (doK A D k Q).2.2 = ql Q := by
  have hv : drV Q < 65536 := by unfold drV; exact Nat.mod_lt _ (by decide)
  unfold doK
  by_cases c15 : dd D 0 k = 15
  · rw [if_pos c15]
    by_cases q : (hAt A (dd D 1 k) (dd D 2 k) && (hs A 5).testBit (dd D 2 k)) = true
    · rw [if_pos q]; exact ⟨h, rfl, rfl, rfl⟩
    · rw [if_neg q]; exact ⟨h, rfl, rfl, rfl⟩
  · rw [if_neg c15]
    by_cases c4 : dd D 0 k = 4
    · rw [if_pos c4]
      by_cases q : (hAt A (dd D 1 k) (dd D 2 k) && !(hs A 5).testBit (dd D 2 k)) = true
      · rw [if_pos q]; exact ⟨h, rfl, rfl, rfl⟩
      · rw [if_neg q]; exact ⟨h, rfl, rfl, rfl⟩
    · rw [if_neg c4]
      by_cases c16 : dd D 0 k = 16
      · rw [if_pos c16]
        by_cases q : (hAt A (dd D 1 k) (dd D 2 k) && (hs A 5).testBit (dd D 2 k)) = true
        · rw [if_pos q]; exact ⟨h, rfl, rfl, rfl⟩
        · rw [if_neg q]; exact ⟨h, rfl, rfl, rfl⟩
      · rw [if_neg c16]
        by_cases c17 : dd D 0 k = 17
        · rw [if_pos c17]
          by_cases q : ht A 11 (dd D 1 k) = 0
          · rw [if_pos q]; exact ⟨h, rfl, rfl, rfl⟩
          · rw [if_neg q]; exact ⟨h, rfl, rfl, rfl⟩
        · rw [if_neg c17]
          by_cases c18 : dd D 0 k = 18
          · rw [if_pos c18]
            by_cases q : hs A 1 = 0
            · rw [if_pos q]; exact ⟨h, rfl, rfl, rfl⟩
            · rw [if_neg q]
              by_cases q2 : (hs A 5).testBit (drN A Q) = true
              · rw [if_pos q2]
                generalize drV Q = v at hv
                exact ⟨hv, rfl, rfl, rfl⟩
              · rw [if_neg q2]
                generalize drV Q = v at hv
                exact ⟨hv, rfl, rfl, rfl⟩
          · rw [if_neg c18]; exact ⟨h, rfl, rfl, rfl⟩
theorem st_ok {A : aH} {D : aD} {k : Nat} {Q : aQ} (h : qOK Q) (h3 : ¬ 300 ≤ qn Q) : qOK (stL A D k Q) ∧ qn (stL A D k Q) = qn Q + 1 ∧ ql (stQ A D k Q) = ql Q := by
  obtain ⟨q1, q2, q3, q4⟩ := doK_q (A := A) (D := D) (k := k) (Q := qDone Q) h.1
  have e2 : qn (doK A D k (qDone Q)).2.2 = qn Q + 1 := q2
  have e3 : qm (doK A D k (qDone Q)).2.2 = qm Q := q3
  have e4 : ql (doK A D k (qDone Q)).2.2 = ql Q := q4
  unfold stL stQ tkQ
  have := h.2.1
  cases (doK A D k (qDone Q)).1
  · rw [if_neg (by decide)]
    refine ⟨⟨q1, ?_, ?_⟩, e2, e4⟩
    · show qm (doK A D k (qDone Q)).2.2 + 1 ≤ qn (doK A D k (qDone Q)).2.2
      omega
    · show qn (doK A D k (qDone Q)).2.2 ≤ 300
      omega
  · rw [if_pos rfl]
    refine ⟨⟨q1, ?_, ?_⟩, e2, e4⟩
    · show qm (doK A D k (qDone Q)).2.2 ≤ qn (doK A D k (qDone Q)).2.2
      omega
    · show qn (doK A D k (qDone Q)).2.2 ≤ 300
      omega
theorem stA_W {A : aH} {D : aD} {k : Nat} {Q : aQ} (W : dWF A D) : dWF (stA A D k Q) D := hs_same W (fun _ h => doK_s h)
theorem PQ.set {μ : dtM} {h : Nat} {m0 : Int32} {A : aH} {Q Q' : aQ} (H : PQ μ h m0 A Q) (hh : h + 12 < 123) {j : Nat} {v : Int32} (k : qk Q' = qk Q) (l : ql Q' = ql Q) (c1 : (if j = 1 then v else Int32.ofNat (qd Q)) = Int32.ofNat (qd Q')) (c2 : (if j = 2 then v else Int32.ofNat (qn Q)) = Int32.ofNat (qn Q')) (c3 : (if j = 3 then v else Int32.ofNat (qm Q)) = Int32.ofNat (qm Q')) (c5 : (if j = 5 then v else Int32.ofNat (qc Q)) = Int32.ofNat (qc Q')) (c6 : (if j = 6 then v else Int32.ofNat (qp Q)) = Int32.ofNat (qp Q')) : PQ (dtSI μ 130 j v) h m0 A Q' := by
  obtain ⟨C, HH, em, ⟨a1, a2, a3, a4, a5⟩, L⟩ := H
  have Fk : Fr (fun a b => a = 130 ∧ b = j) μ (dtSI μ 130 j v) := Fr.SI ⟨rfl, rfl⟩
  have g : ∀ b u, dtI μ 130 b = u → dtI (dtSI μ 130 j v) 130 b = if j = b then v else u := fun b u e => by
    rw [m_I_SI, e]
    by_cases x : j = b
    · rw [if_pos ⟨rfl, x.symm⟩, if_pos x]
    · rw [if_neg (fun y => x y.2.symm), if_neg x]
  refine ⟨C.kept Fk, HH.kept Fk (by intros; omega), by rw [k]; exact em, ⟨?_, ?_, ?_, ?_, ?_⟩, by rw [l]; exact L.kept Fk (by intros; omega)⟩
  · rw [g 1 _ a1]; exact c1
  · rw [g 2 _ a2]; exact c2
  · rw [g 3 _ a3]; exact c3
  · rw [g 5 _ a4]; exact c5
  · rw [g 6 _ a5]; exact c6
theorem PQ.loo {μ : dtM} {h : Nat} {m0 : Int32} {A : aH} {Q : aQ} (H : PQ μ h m0 A Q) (hh : h + 12 < 123) {k v : Nat} (hv : v ≤ 99) : PQ (dtSI μ 131 k (Int32.ofNat v)) h m0 A (qLoop Q (dtUp (ql Q) k v)) := by
  obtain ⟨C, HH, em, ⟨a1, a2, a3, a4, a5⟩, L⟩ := H
  have Fk : Fr (fun a b => a = 131 ∧ b = k) μ (dtSI μ 131 k (Int32.ofNat v)) := Fr.SI ⟨rfl, rfl⟩
  refine ⟨C.kept Fk, HH.kept Fk (by intros; omega), em, ⟨?_, ?_, ?_, ?_, ?_⟩, fun j hj => ?_⟩
  · rw [Fk.i (by omega)]; exact a1
  · rw [Fk.i (by omega)]; exact a2
  · rw [Fk.i (by omega)]; exact a3
  · rw [Fk.i (by omega)]; exact a4
  · rw [Fk.i (by omega)]; exact a5
  · show dtUp (ql Q) k v j ≤ 99 ∧ _ = Int32.ofNat (dtUp (ql Q) k v j)
    unfold dtUp
    by_cases e : j = k
    · rw [if_pos e, m_I_SI, if_pos ⟨rfl, e⟩]; exact ⟨hv, rfl⟩
    · rw [if_neg e, m_I_SI, if_neg (fun y => e y.2)]; exact L j hj
theorem r_end {μ : dtM} {h g : Nat} {A : aH} {D : aD} {m0 : Int32} {Q : aQ} (H : PQ μ h m0 A Q) (hh : h + 12 < 123) (HD : PD μ g D) (S : dSh μ g) (W : dWF A D) (h1 : D.1 = 1) {k : Nat} (hk : k < dLen D) (x : dd D 0 k = 22) : ∃ μ', f_X6_behindEnd 130 g (Int32.ofNat k) μ = some (Int32.ofNat (bE D (ql Q) k).2, μ') ∧ Fr (Pru h) μ μ' ∧ PQ μ' h m0 A (qLoop Q (bE D (ql Q) k).1) ∧ (bE D (ql Q) k).2 ≤ dLen D ∧ dtI μ' 130 7 = dtI μ 130 7 := by
  have C := H.c
  obtain ⟨h60, dk⟩ := W.2 h1
  have c7 := (dk k hk).2.2.2.2.2.2.2 x
  obtain ⟨R, L, E⟩ := HD.g S h1 h60 hk
  obtain ⟨_, Lo, Eo⟩ := HD.g S h1 h60 (k := dd D 5 k) (by omega)
  have LL := H.2.2.2.2 (dd D 5 k) (by omega)
  have r5 : opGR 0 8 μ g = some (g + 6) := R 5 (by decide)
  have r0 : opGR 0 3 μ g = some (g + 1) := R 0 (by decide)
  have l5 : opLI 1 μ (g + 6) (Int32.ofNat k) = some (Int32.ofNat (dd D 5 k)) := (L 5 (by decide)).trans (congrArg some (E.2.2.2.2.2.2 (Or.inr (Or.inr x))))
  have lo : opLI 1 μ (g + 1) (Int32.ofNat (dd D 5 k)) = some (Int32.ofNat (dd D 0 (dd D 5 k))) := (Lo 0 (by decide)).trans (congrArg some Eo.1)
  have ll : opLI 1 μ 131 (Int32.ofNat (dd D 5 k)) = some (Int32.ofNat (ql Q (dd D 5 k))) := by rw [o_LI C.s131 (show dd D 5 k < 60 by omega) (by decide), LL.2]
  have e28 : f_X6_behindEnd_28 (Int32.ofNat k) μ = some (Int32.ofNat (k + 1), μ) := by rw [f_X6_behindEnd_28, show (1 : Int32) = Int32.ofNat 1 from rfl, z_add]
  have k21 : dd D 0 (dd D 5 k) = 19 ∨ dd D 0 (dd D 5 k) = 21 := c7.2.1
  unfold bE
  by_cases q : dd D 0 (dd D 5 k) = 21
  · by_cases q2 : 1 < ql Q (dd D 5 k)
    · rw [if_pos ⟨q, q2⟩]
      refine ⟨dtSI μ 131 (dd D 5 k) (Int32.ofNat (ql Q (dd D 5 k) - 1)), ?_, Fr.SI (Or.inr (Or.inr (Or.inr rfl))), H.loo hh (by omega), by show dd D 5 k + 1 ≤ dLen D; omega, by rw [m_I_SI, if_neg (by omega)]⟩
      rw [f_X6_behindEnd, r5, o_bind, l5, o_bind, r0, o_bind, lo, o_bind, q, if_pos (by decide), C.g130_0, o_bind, ll, o_bind, if_pos (show (1 : Int32) < Int32.ofNat (ql Q (dd D 5 k)) by rw [show (1 : Int32) = Int32.ofNat 1 from rfl, z_lt (by decide) (by omega)]; exact q2), o_bind, ll, o_bind, show (1 : Int32) = Int32.ofNat 1 from rfl, z_sub (by omega), o_SI C.s131 (show dd D 5 k < 60 by omega) (by decide), o_bind, z_add]
    · rw [if_neg (fun y => q2 y.2)]
      refine ⟨μ, ?_, Fr.rf, H, by show k + 1 ≤ dLen D; omega, rfl⟩
      rw [f_X6_behindEnd, r5, o_bind, l5, o_bind, r0, o_bind, lo, o_bind, q, if_pos (by decide), C.g130_0, o_bind, ll, o_bind, if_neg (show ¬ (1 : Int32) < Int32.ofNat (ql Q (dd D 5 k)) by rw [show (1 : Int32) = Int32.ofNat 1 from rfl, z_lt (by decide) (by omega)]; exact q2), e28]
  · rw [if_neg (fun y => q y.1)]
    refine ⟨μ, ?_, Fr.rf, H, by show k + 1 ≤ dLen D; omega, rfl⟩
    have q19 : dd D 0 (dd D 5 k) = 19 := by omega
    rw [f_X6_behindEnd, r5, o_bind, l5, o_bind, r0, o_bind, lo, o_bind, q19, if_neg (by decide), e28]
theorem r_next {μ : dtM} {h g : Nat} {A : aH} {D : aD} {m0 : Int32} {Q : aQ} (H : PQ μ h m0 A Q) (hh : h + 12 < 123) (HD : PD μ g D) (S : dSh μ g) (W : dWF A D) (h1 : D.1 = 1) {k : Nat} (hk : k < dLen D) (x : ¬ dd D 0 k = 22) : ∃ μ', f_X6_behindStep 130 h g (Int32.ofNat k) μ = some (Int32.ofNat (nxK A D k), μ') ∧ Fr (Pru h) μ μ' ∧ PQ μ' h m0 A (qLoop Q (lK D k (ql Q))) ∧ nxK A D k ≤ dLen D ∧ dtI μ' 130 7 = dtI μ 130 7 := by
  have C := H.c
  obtain ⟨h60, dk⟩ := W.2 h1
  obtain ⟨c0, c1, c2, c3, c4, c5, c6, c7⟩ := dk k hk
  obtain ⟨R, L, E⟩ := HD.g S h1 h60 hk
  have r0 : opGR 0 3 μ g = some (g + 1) := R 0 (by decide)
  have l0 : opLI 1 μ (g + 1) (Int32.ofNat k) = some (Int32.ofNat (dd D 0 k)) := (L 0 (by decide)).trans (congrArg some E.1)
  have r5 : opGR 0 8 μ g = some (g + 6) := R 5 (by decide)
  have st : f_X6_behindStep 130 h g (Int32.ofNat k) μ = if Int32.ofNat (dd D 0 k) = 19 then (f_X6_behindStep_45 h g (Int32.ofNat k) μ) else if Int32.ofNat (dd D 0 k) = 21 then (f_X6_behindStep_69 130 g (Int32.ofNat k) μ) else if Int32.ofNat (dd D 0 k) = 23 then (f_X6_behindStep_40 g μ) else f_X6_behindStep_85 (Int32.ofNat k) μ := by
    rw [f_X6_behindStep, r0, o_bind, l0, o_bind]
  rw [st]
  unfold nxK lK
  by_cases q19 : dd D 0 k = 19
  · have l5 : opLI 1 μ (g + 6) (Int32.ofNat k) = some (Int32.ofNat (dd D 5 k)) := (L 5 (by decide)).trans (congrArg some (E.2.2.2.2.2.2 (Or.inl q19)))
    have c6' := c6 (Or.inl q19)
    refine ⟨μ, ?_, Fr.rf, ?_, ?_, rfl⟩
    · rw [if_pos q19, q19, if_pos (by decide), f_X6_behindStep_45, r_holds H.ph HD S W h1 hk q19, o_call]
      cases holdK A D k
      · rw [if_pos (by decide), r5, o_bind, l5, o_bind, f_X6_behindStep_68, show (1 : Int32) = Int32.ofNat 1 from rfl, z_add, if_neg (by decide)]
      · rw [if_neg (by decide), f_X6_behindStep_68, show (1 : Int32) = Int32.ofNat 1 from rfl, z_add, if_pos rfl]
    · rw [if_neg (by omega)]; exact H
    · rw [if_pos q19]
      cases holdK A D k
      · rw [if_neg (by decide)]; omega
      · rw [if_pos rfl]; omega
  · rw [if_neg q19]
    by_cases q21 : dd D 0 k = 21
    · have c5' := c5 q21
      have r3 : opGR 0 6 μ g = some (g + 4) := R 3 (by decide)
      have l3 : opLI 1 μ (g + 4) (Int32.ofNat k) = some (Int32.ofNat (dd D 2 k)) := (L 3 (by decide)).trans (congrArg some (E.2.2.1 (Or.inr (Or.inl q21))))
      refine ⟨dtSI μ 131 k (Int32.ofNat (dd D 2 k)), ?_, Fr.SI (Or.inr (Or.inr (Or.inr rfl))), ?_, ?_, by rw [m_I_SI, if_neg (by omega)]⟩
      · rw [q21, if_neg (by decide), if_pos (by decide), f_X6_behindStep_69, C.g130_0, o_bind, r3, o_bind, l3, o_bind, o_SI C.s131 (show k < 60 by omega) (by decide), o_bind, show (1 : Int32) = Int32.ofNat 1 from rfl, z_add, if_neg (by decide)]
      · rw [if_pos q21]; exact H.loo hh c5'.2
      · rw [if_neg (by omega)]; omega
    · rw [if_neg q21]
      by_cases q23 : dd D 0 k = 23
      · refine ⟨μ, ?_, Fr.rf, H, ?_, rfl⟩
        · rw [q23, if_neg (by decide), if_neg (by decide), if_pos (by decide), f_X6_behindStep_40, o_GI S.1, o_bind, (HD.2 h1).1, if_pos rfl]
        · rw [if_pos q23]; exact Nat.le_refl _
      · refine ⟨μ, ?_, Fr.rf, H, ?_, rfl⟩
        · have n : ∀ v, v < 100 → ¬ dd D 0 k = v → ¬ Int32.ofNat (dd D 0 k) = Int32.ofNat v := fun v hv hn => by
            rw [z_eq (by omega) (by omega)]; exact hn
          rw [if_neg (show ¬ Int32.ofNat (dd D 0 k) = (19 : Int32) from n 19 (by decide) q19), if_neg (show ¬ Int32.ofNat (dd D 0 k) = (21 : Int32) from n 21 (by decide) q21), if_neg (show ¬ Int32.ofNat (dd D 0 k) = (23 : Int32) from n 23 (by decide) q23), f_X6_behindStep_85, show (1 : Int32) = Int32.ofNat 1 from rfl, z_add, if_neg q23]
        · rw [if_neg q23]; omega
abbrev PruX (h : Nat) : Nat → Nat → Prop := fun k _ => (h ≤ k ∧ k ≤ h + 12) ∨ k = 123 ∨ k = 130 ∨ k = 131
theorem Pru.x {h k j : Nat} (x : Pru h k j) : PruX h k j := x.elim Or.inl (fun y => y.elim (fun z => Or.inr (Or.inl z)) (fun z => z.elim (fun u => Or.inr (Or.inr (Or.inl u.1))) (fun u => Or.inr (Or.inr (Or.inr u)))))
theorem a_sub (a b : Int32) : a + b - a = b := by
  rw [Int32.add_comm, Int32.add_sub_cancel]
theorem run176 {μ : dtM} {h : Nat} {A : aH} {m0 : Int32} {Q : aQ} (H : PQ μ h m0 A Q) (hh : h + 12 < 123) : f_X6_run_176 130 h m0 μ = some (dtSI μ 130 4 (Int32.ofNat (qk Q))) ∧ PQ (dtSI μ 130 4 (Int32.ofNat (qk Q))) h m0 A Q := by
  refine ⟨?_, H.set hh rfl rfl rfl rfl rfl rfl rfl⟩
  rw [f_X6_run_176, H.ph.g6, o_bind, H.2.2.1, a_sub, o_PI H.c.s130, o_bind]
/-- what a run leaves -/
def ruEnd (μ μ' : dtM) (h : Nat) (m0 : Int32) (D : aD) (r : aH × aQ × Nat) : Prop := Fr (PruX h) μ μ' ∧ PQ μ' h m0 r.1 r.2.1 ∧ dtI μ' 130 4 = Int32.ofNat (qk r.2.1) ∧ dtI μ' 130 7 = Int32.ofNat r.2.2 ∧ qOK r.2.1 ∧ dWF r.1 D ∧ r.2.2 ≤ 1
theorem ruEnd.tr {μ μ1 μ' : dtM} {h : Nat} {m0 : Int32} {D : aD} {r : aH × aQ × Nat} (F : Fr (PruX h) μ μ1) (E : ruEnd μ1 μ' h m0 D r) : ruEnd μ μ' h m0 D r := ⟨F.tr E.1, E.2⟩
theorem PD.ru {μ μ' : dtM} {h g : Nat} {D : aD} (HD : PD μ g D) (hw : (h = 12 ∨ h = 25) ∧ (g = 38 ∨ g = 45)) (F : Fr (PruX h) μ μ') : PD μ' g D := HD.kept F (fun k j a b x => by
  have y : (h ≤ k ∧ k ≤ h + 12) ∨ k = 123 ∨ k = 130 ∨ k = 131 := x
  omega)
theorem dSh.ru {μ μ' : dtM} {g : Nat} {P : Nat → Nat → Prop} (S : dSh μ g) (F : Fr P μ μ') : dSh μ' g := by
  unfold dSh
  rw [F.S, F.Ra]; exact S
theorem ru43 {h g : Nat} {D : aD} {m0 : Int32} (hw : (h = 12 ∨ h = 25) ∧ (g = 38 ∨ g = 45)) (h1 : D.1 = 1) : ∀ (m f i k : Nat) (A : aH) (Q : aQ) (μ : dtM), i + m = 1000000 → m < f → PQ μ h m0 A Q → PD μ g D → dSh μ g → dWF A D → qOK Q → k ≤ dLen D → dtI μ 130 7 = Int32.ofNat 0 → ∃ μ', f_X6_run_43 f 130 h g 122 m0 (Int32.ofNat k) (Int32.ofNat i) μ = some μ' ∧ ruEnd μ μ' h m0 D (rN D m A Q k) := by
  have hh : h + 12 < 123 := by omega
  intro m
  induction m with
  | zero =>
    intro f i k A Q μ e hf H HD S W q hk h7
    cases f with
    | zero => omega
    | succ f =>
      obtain ⟨e1, H1⟩ := run176 H hh
      refine ⟨_, ?_, Fr.SI (Or.inr (Or.inr (Or.inl rfl))), H1, by rw [m_I_SI, if_pos ⟨rfl, rfl⟩]; rfl, by rw [m_I_SI, if_neg (by omega)]; exact h7, q, W, by show 0 ≤ 1; decide⟩
      rw [f_X6_run_43, if_pos (show (1000000 : Int32) ≤ Int32.ofNat i by rw [show (1000000 : Int32) = Int32.ofNat 1000000 from rfl, z_le (by decide) (by omega)]; omega), e1]
  | succ m ih =>
    intro f i k A Q μ e hf H HD S W q hk h7
    cases f with
    | zero => omega
    | succ f =>
      have h60 := (W.2 h1).1
      have C := H.c
      have HH := H.ph
      have gl : opGI 0 2 μ g = some (Int32.ofNat (dLen D)) := by rw [o_GI S.1, (HD.2 h1).1]
      have st : f_X6_run_43 (f + 1) 130 h g 122 m0 (Int32.ofNat k) (Int32.ofNat i) μ = if Int32.ofNat (dLen D) ≤ Int32.ofNat k then (f_X6_run_176 130 h m0 μ) else ((opGR 0 3 μ g).bind fun x12 => (opLI 1 μ x12 (Int32.ofNat k)).bind fun x14 => if x14 = (22 : Int32) then (f_X6_run_95 (f_X6_run_43 f) 130 h g 122 m0 (Int32.ofNat k) (Int32.ofNat i) x14 130 μ) else ((opGI 6 2 μ 130).bind fun x19 => if x19 < (300 : Int32) then (f_X6_run_95 (f_X6_run_43 f) 130 h g 122 m0 (Int32.ofNat k) (Int32.ofNat i) x14 130 μ) else (f_X6_run_96 (f_X6_run_43 f) 130 h g 122 m0 (Int32.ofNat k) (Int32.ofNat i) x14 130 (1 : Int32) μ))) := by
        rw [f_X6_run_43, if_neg (show ¬ (1000000 : Int32) ≤ Int32.ofNat i by rw [show (1000000 : Int32) = Int32.ofNat 1000000 from rfl, z_le (by decide) (by omega)]; omega), if_neg (show ¬ Int32.ofNat k < 0 by rw [show (0 : Int32) = Int32.ofNat 0 from rfl, z_lt0 (by omega)]; exact id), gl, o_bind]
      rw [st, rN]
      by_cases hl : dLen D ≤ k
      · rw [if_pos hl, if_pos (show Int32.ofNat (dLen D) ≤ Int32.ofNat k by rw [z_le (by omega) (by omega)]; exact hl)]
        obtain ⟨e1, H1⟩ := run176 H hh
        exact ⟨_, e1, Fr.SI (Or.inr (Or.inr (Or.inl rfl))), H1, by rw [m_I_SI, if_pos ⟨rfl, rfl⟩], by rw [m_I_SI, if_neg (by omega)]; exact h7, q, W, by show 0 ≤ 1; decide⟩
      · rw [if_neg hl, if_neg (show ¬ Int32.ofNat (dLen D) ≤ Int32.ofNat k by rw [z_le (by omega) (by omega)]; exact hl)]
        have hk' : k < dLen D := by omega
        obtain ⟨R, L, E⟩ := HD.g S h1 h60 hk'
        have r0 : opGR 0 3 μ g = some (g + 1) := R 0 (by decide)
        have l0 : opLI 1 μ (g + 1) (Int32.ofNat k) = some (Int32.ofNat (dd D 0 k)) := (L 0 (by decide)).trans (congrArg some E.1)
        have k23 : dd D 0 k < 24 := by
          have := ((W.2 h1).2 k hk').1
          omega
        rw [r0, o_bind, l0, o_bind]
        have F0 : Fr (fun a b => a = 130 ∧ b = 7) μ (dtSI μ 130 7 (Int32.ofNat 0)) := Fr.SI ⟨rfl, rfl⟩
        have H0 : PQ (dtSI μ 130 7 (Int32.ofNat 0)) h m0 A Q := H.set hh rfl rfl rfl rfl rfl rfl rfl
        have C0 := H0.c
        have F0x : Fr (PruX h) μ (dtSI μ 130 7 (Int32.ofNat 0)) := F0.wide (fun a b x => Or.inr (Or.inr (Or.inl x.1)))
        have D0 := HD.ru hw F0x
        have S0 := S.ru F0
        have z7 : dtI (dtSI μ 130 7 (Int32.ofNat 0)) 130 7 = Int32.ofNat 0 := by rw [m_I_SI, if_pos ⟨rfl, rfl⟩]
        have pz : opPZ 6 7 μ 130 (0 : Int32) = some (dtSI μ 130 7 (Int32.ofNat 0)) := o_PZ0 C.s130
        have s95 : ∀ x14 : Int32, f_X6_run_95 (f_X6_run_43 f) 130 h g 122 m0 (Int32.ofNat k) (Int32.ofNat i) x14 130 μ = if x14 = (22 : Int32) then ((opRv 6 (dtSI μ 130 7 (Int32.ofNat 0)) 130).bind fun _ => opCall (f_X6_behindEnd 130 g (Int32.ofNat k) (dtSI μ 130 7 (Int32.ofNat 0))) fun x29 μ27 => f_X6_run_170 (f_X6_run_43 f) 130 h g 122 m0 x29 (Int32.ofNat i) μ27) else ((opGI 6 2 (dtSI μ 130 7 (Int32.ofNat 0)) 130).bind fun x11 => (opPI 6 2 (dtSI μ 130 7 (Int32.ofNat 0)) 130 (x11 + (1 : Int32))).bind fun μ13 => (opRv 6 μ13 130).bind fun _ => opCall (f_X6_act 130 h g 122 (Int32.ofNat k) μ13) fun x18 μ16 => if x18 = 0 then ((opGI 6 3 μ16 130).bind fun x22 => (opPI 6 3 μ16 130 (x22 + (1 : Int32))).bind fun μ24 => f_X6_run_160 (f_X6_run_43 f) 130 h g 122 m0 (Int32.ofNat k) (Int32.ofNat i) μ24) else (f_X6_run_160 (f_X6_run_43 f) 130 h g 122 m0 (Int32.ofNat k) (Int32.ofNat i) μ16)) := fun x14 => by
          rw [f_X6_run_95, f_X6_run_96, pz, o_bind, o_GI C0.s130, z7, o_bind, if_pos (by decide)]
        by_cases q22 : dd D 0 k = 22
        · rw [if_pos q22, if_pos (show Int32.ofNat (dd D 0 k) = (22 : Int32) by rw [q22]; rfl), s95, if_pos (show Int32.ofNat (dd D 0 k) = (22 : Int32) by rw [q22]; rfl), o_Rv C0.s130, o_bind]
          obtain ⟨μ1, e1, F1, H1, hb, h71⟩ := r_end H0 hh D0 S0 W h1 hk' q22
          have F1x : Fr (PruX h) _ _ := F1.wide (fun a b x => Pru.x x)
          obtain ⟨μ2, e2, E2⟩ := ih f (i + 1) (bE D (ql Q) k).2 A _ μ1 (by omega) (by omega) H1 (D0.ru hw F1x) (S0.ru F1) W q hb (h71.trans z7)
          refine ⟨μ2, ?_, ruEnd.tr (F0x.tr F1x) E2⟩
          rw [e1, o_call, f_X6_run_170, show (1 : Int32) = Int32.ofNat 1 from rfl, z_add, e2]
        · rw [if_neg q22, if_neg (show ¬ Int32.ofNat (dd D 0 k) = (22 : Int32) by rw [show (22 : Int32) = Int32.ofNat 22 from rfl, z_eq (by omega) (by decide)]; exact q22), o_GI C.s130, H.2.2.2.1.2.1, o_bind]
          have q3 := q.2.2
          by_cases q300 : 300 ≤ qn Q
          · rw [if_pos q300, if_neg (show ¬ Int32.ofNat (qn Q) < (300 : Int32) by rw [show (300 : Int32) = Int32.ofNat 300 from rfl, z_lt (by omega) (by decide)]; omega)]
            have pz1 : opPZ 6 7 μ 130 (1 : Int32) = some (dtSI μ 130 7 (Int32.ofNat 1)) := o_PZ1 C.s130
            have H7 : PQ (dtSI μ 130 7 (Int32.ofNat 1)) h m0 A Q := H.set hh rfl rfl rfl rfl rfl rfl rfl
            obtain ⟨e1, H1⟩ := run176 H7 hh
            refine ⟨_, ?_, (Fr.SI (Or.inr (Or.inr (Or.inl rfl)))).tr (Fr.SI (Or.inr (Or.inr (Or.inl rfl)))), H1, by rw [m_I_SI, if_pos ⟨rfl, rfl⟩], by rw [m_I_SI, if_neg (by omega), m_I_SI, if_pos ⟨rfl, rfl⟩], q, W, by show 1 ≤ 1; decide⟩
            rw [f_X6_run_96, pz1, o_bind, o_GI H7.c.s130, m_I_SI, if_pos ⟨rfl, rfl⟩, o_bind, if_neg (by decide), e1]
          · rw [if_neg q300, if_pos (show Int32.ofNat (qn Q) < (300 : Int32) by rw [show (300 : Int32) = Int32.ofNat 300 from rfl, z_lt (by omega) (by decide)]; omega), s95, if_neg (show ¬ Int32.ofNat (dd D 0 k) = (22 : Int32) by rw [show (22 : Int32) = Int32.ofNat 22 from rfl, z_eq (by omega) (by decide)]; exact q22)]
            have Fd : Fr (fun a b => a = 130 ∧ b = 2) (dtSI μ 130 7 (Int32.ofNat 0)) (dtSI (dtSI μ 130 7 (Int32.ofNat 0)) 130 2 (Int32.ofNat (qn Q + 1))) := Fr.SI ⟨rfl, rfl⟩
            have Fdx : Fr (PruX h) _ _ := Fd.wide (fun a b x => Or.inr (Or.inr (Or.inl x.1)))
            have Hd : PQ (dtSI (dtSI μ 130 7 (Int32.ofNat 0)) 130 2 (Int32.ofNat (qn Q + 1))) h m0 A (qDone Q) := H0.set hh rfl rfl rfl rfl rfl rfl rfl
            have Cd := Hd.c
            have Dd := D0.ru hw Fdx
            have Sd := S0.ru Fd
            have zd7 : dtI (dtSI (dtSI μ 130 7 (Int32.ofNat 0)) 130 2 (Int32.ofNat (qn Q + 1))) 130 7 = Int32.ofNat 0 := by rw [m_I_SI, if_neg (by omega)]; exact z7
            obtain ⟨μ1, e1, F1, H1⟩ := r_act Hd hh Dd Sd W h1 (show qd (qDone Q) < 65536 from q.1) hk'
            have F1x : Fr (PruX h) _ _ := F1.wide (fun a b x => Pru.x x)
            have z17 : dtI μ1 130 7 = Int32.ofNat 0 := by rw [F1.i (by omega)]; exact zd7
            have C1 := H1.c
            have W1 : dWF (stA A D k Q) D := stA_W W
            obtain ⟨sok, sn, sl⟩ := st_ok (A := A) (D := D) (k := k) q q300
            have key : ∀ μ16, PQ μ16 h m0 (stA A D k Q) (stQ A D k Q) → PD μ16 g D → dSh μ16 g → dtI μ16 130 7 = Int32.ofNat 0 → ∃ μ', f_X6_run_160 (f_X6_run_43 f) 130 h g 122 m0 (Int32.ofNat k) (Int32.ofNat i) μ16 = some μ' ∧ ruEnd μ16 μ' h m0 D (rN D m (stA A D k Q) (stL A D k Q) (nxK (stA A D k Q) D k)) := fun μ16 Hx Dx Sx zx => by
              obtain ⟨μ3, e3, F3, H3, hn3, z3⟩ := r_next Hx hh Dx Sx W1 h1 hk' q22
              have F3x : Fr (PruX h) _ _ := F3.wide (fun a b x => Pru.x x)
              obtain ⟨μ4, e4, E4⟩ := ih f (i + 1) _ _ _ μ3 (by omega) (by omega) H3 (Dx.ru hw F3x) (Sx.ru F3) W1 sok hn3 (z3.trans zx)
              refine ⟨μ4, ?_, ruEnd.tr F3x E4⟩
              rw [f_X6_run_160, o_Rv Hx.c.s130, o_bind, e3, o_call, f_X6_run_170, show (1 : Int32) = Int32.ofNat 1 from rfl, z_add, e4]
            rw [o_GI C0.s130, H0.2.2.2.1.2.1, o_bind, show (1 : Int32) = Int32.ofNat 1 from rfl, z_add, o_PI C0.s130, o_bind, o_Rv Cd.s130, o_bind, e1, o_call]
            have Fx := (F0x.tr Fdx).tr F1x
            cases hb : (doK A D k (qDone Q)).1
            · have H2 : PQ (dtSI μ1 130 3 (Int32.ofNat (qm (doK A D k (qDone Q)).2.2 + 1))) h m0 (stA A D k Q) (stQ A D k Q) := by
                have e5 : stQ A D k Q = qMiss (doK A D k (qDone Q)).2.2 := by unfold stQ tkQ; rw [hb]; rfl
                rw [e5]
                exact H1.set hh rfl rfl rfl rfl rfl rfl rfl
              have F2 : Fr (fun a b => a = 130 ∧ b = 3) μ1 (dtSI μ1 130 3 (Int32.ofNat (qm (doK A D k (qDone Q)).2.2 + 1))) := Fr.SI ⟨rfl, rfl⟩
              have F2x : Fr (PruX h) _ _ := F2.wide (fun a b x => Or.inr (Or.inr (Or.inl x.1)))
              obtain ⟨μ', e', E'⟩ := key _ H2 ((Dd.ru hw F1x).ru hw F2x) ((Sd.ru F1).ru F2) (by rw [F2.i (by omega)]; exact z17)
              refine ⟨μ', ?_, ruEnd.tr (Fx.tr F2x) E'⟩
              rw [if_pos (by decide), o_GI C1.s130, H1.2.2.2.1.2.2.1, o_bind, z_add, o_PI C1.s130, o_bind, e']
            · have H2 : PQ μ1 h m0 (stA A D k Q) (stQ A D k Q) := by
                have e5 : stQ A D k Q = (doK A D k (qDone Q)).2.2 := by unfold stQ tkQ; rw [hb]; rfl
                rw [e5]
                exact H1
              obtain ⟨μ', e', E'⟩ := key _ H2 (Dd.ru hw F1x) (Sd.ru F1) z17
              refine ⟨μ', ?_, ruEnd.tr Fx E'⟩
              rw [if_neg (by decide), e']
def q0 (seed : Nat) (l : Nat → Nat) : aQ := ((seed, 0, 0), (0, 0, 0), l)
theorem p_run0 {μ : dtM} {h g seed : Nat} {A : aH} {D : aD} {l : Nat → Nat} (C : CX μ) (HH : PH μ h A) (L : PL μ l) (hw : (h = 12 ∨ h = 25) ∧ (g = 38 ∨ g = 45)) (h1 : D.1 = 1) (HD : PD μ g D) (S : dSh μ g) (W : dWF A D) (hseed : seed < 65536) : ∃ μ', f_X6_run 130 h g 122 (Int32.ofNat seed) μ = some μ' ∧ ruEnd μ μ' h (hm A) D (rN D 1000000 A (q0 seed l) 0) := by
  have hh : h + 12 < 123 := by omega
  obtain ⟨μ1, e1, F1, v1, v2, v3, v5, v6, v7⟩ : ∃ μ1, f_X6_run 130 h g 122 (Int32.ofNat seed) μ = f_X6_run_43 dtFuel 130 h g 122 (hm A) (Int32.ofNat 0) (Int32.ofNat 0) μ1 ∧ Fr (fun a _ => a = 130) μ μ1 ∧ dtI μ1 130 1 = Int32.ofNat seed ∧ dtI μ1 130 2 = Int32.ofNat 0 ∧ dtI μ1 130 3 = Int32.ofNat 0 ∧ dtI μ1 130 5 = Int32.ofNat 0 ∧ dtI μ1 130 6 = Int32.ofNat 0 ∧ dtI μ1 130 7 = Int32.ofNat 0 := by
    have sI : ∀ (ν : dtM) (j : Nat) (v : Int32), dtS ν 130 = (0, 6) → dtS (dtSI ν 130 j v) 130 = (0, 6) := fun ν j v x => x
    have S0 := C.s130
    refine ⟨dtSI (dtSI (dtSI (dtSI (dtSI (dtSI μ 130 1 (Int32.ofNat seed)) 130 2 (Int32.ofNat 0)) 130 3 (Int32.ofNat 0)) 130 5 (Int32.ofNat 0)) 130 6 (Int32.ofNat 0)) 130 7 (Int32.ofNat 0), ?_, ?_, ?_, ?_, ?_, ?_, ?_, ?_⟩
    · have S1 := sI μ 1 (Int32.ofNat seed) S0
      have S2 := sI _ 2 (Int32.ofNat 0) S1
      have S3 := sI _ 3 (Int32.ofNat 0) S2
      have S5 := sI _ 5 (Int32.ofNat 0) S3
      have S6 := sI _ 6 (Int32.ofNat 0) S5
      rw [f_X6_run, HH.g6, o_bind, o_PI S0, o_bind, show (0 : Int32) = Int32.ofNat 0 from rfl, o_PI S1, o_bind, o_PI S2, o_bind, o_PI S3, o_bind, o_PI S5, o_bind, show opPZ 6 7 (dtSI (dtSI (dtSI (dtSI (dtSI μ 130 1 (Int32.ofNat seed)) 130 2 (Int32.ofNat 0)) 130 3 (Int32.ofNat 0)) 130 5 (Int32.ofNat 0)) 130 6 (Int32.ofNat 0)) 130 (Int32.ofNat 0) = some (dtSI (dtSI (dtSI (dtSI (dtSI (dtSI μ 130 1 (Int32.ofNat seed)) 130 2 (Int32.ofNat 0)) 130 3 (Int32.ofNat 0)) 130 5 (Int32.ofNat 0)) 130 6 (Int32.ofNat 0)) 130 7 (Int32.ofNat 0)) from o_PZ0 S6, o_bind]
    · exact (((((Fr.SI (P := fun a _ => a = 130) rfl).tr (Fr.SI rfl)).tr (Fr.SI rfl)).tr (Fr.SI rfl)).tr (Fr.SI rfl)).tr (Fr.SI rfl)
    · rw [m_I_SI, if_neg (by decide), m_I_SI, if_neg (by decide), m_I_SI, if_neg (by decide), m_I_SI, if_neg (by decide), m_I_SI, if_neg (by decide), m_I_SI, if_pos ⟨rfl, rfl⟩]
    · rw [m_I_SI, if_neg (by decide), m_I_SI, if_neg (by decide), m_I_SI, if_neg (by decide), m_I_SI, if_neg (by decide), m_I_SI, if_pos ⟨rfl, rfl⟩]
    · rw [m_I_SI, if_neg (by decide), m_I_SI, if_neg (by decide), m_I_SI, if_neg (by decide), m_I_SI, if_pos ⟨rfl, rfl⟩]
    · rw [m_I_SI, if_neg (by decide), m_I_SI, if_neg (by decide), m_I_SI, if_pos ⟨rfl, rfl⟩]
    · rw [m_I_SI, if_neg (by decide), m_I_SI, if_pos ⟨rfl, rfl⟩]
    · rw [m_I_SI, if_pos ⟨rfl, rfl⟩]
  have F1x : Fr (PruX h) μ μ1 := F1.wide (fun a b x => Or.inr (Or.inr (Or.inl x)))
  have H1 : PQ μ1 h (hm A) A (q0 seed l) := ⟨C.kept F1, HH.kept F1 (by intros; omega), (by show hm A = hm A + Int32.ofNat 0; exact (Int32.add_zero _).symm), ⟨v1, v2, v3, v5, v6⟩, L.kept F1 (by intros; omega)⟩
  obtain ⟨μ2, e2, E2⟩ := ru43 hw h1 1000000 dtFuel 0 0 A (q0 seed l) μ1 (by omega) (dtFuel_gt (by decide)) H1 (HD.ru hw F1x) (S.ru F1) W ⟨hseed, Nat.le_refl _, Nat.zero_le _⟩ (Nat.zero_le _) v7
  exact ⟨μ2, e1.trans e2, ruEnd.tr F1x E2⟩
