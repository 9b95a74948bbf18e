/-! PURE 99994: the days' text, a step, the model -/
def MDe (μ : dtM) (S : aY) : Prop := ∀ k, k < sL S → mdR μ (2152 + 6 * k) (fun t => sT S t k) ∧ ((nst (sT S 0 k) ∨ sT S 0 k = 22) → (∀ i, i < sN S → ¬ sB S i = k) → dtI μ 134 (2152 + 6 * k + 4) = Int32.ofNat (sT S 5 k))
def MDs (μ : dtM) (S : aY) : Prop := dtI μ 133 23 = Int32.ofNat (sC S) ∧ dtI μ 134 2023 = Int32.ofNat (sL S) ∧ dtI μ 133 22 = Int32.ofNat (sN S) ∧ (∀ i, i < sN S → dtI μ 141 i = Int32.ofNat (sB S i)) ∧ MDe μ S
theorem mdR.kept {P : Nat → Nat → Prop} {μ μ' : dtM} {R : Nat} {r : Nat → Nat} (H : mdR μ R r) (F : Fr P μ μ') (q : ∀ j, R ≤ j → j < R + 6 → ¬ P 134 j) : mdR μ' R r := by
  obtain ⟨a, b, c, d, e, f⟩ := H
  refine ⟨by rw [F.i (q _ (by omega) (by omega))]; exact a, fun x => by rw [F.i (q _ (by omega) (by omega))]; exact b x, fun x => by rw [F.i (q _ (by omega) (by omega))]; exact c x, fun x => by rw [F.i (q _ (by omega) (by omega))]; exact d x, fun x => by rw [F.i (q _ (by omega) (by omega))]; exact e x, fun x => by rw [F.i (q _ (by omega) (by omega))]; exact f x⟩
theorem MDe.kept {P : Nat → Nat → Prop} {μ μ' : dtM} {S : aY} (H : MDe μ S) (F : Fr P μ μ') (q : ∀ j, 2152 ≤ j → j < 2152 + 6 * sL S → ¬ P 134 j) : MDe μ' S := fun k hk => ⟨(H k hk).1.kept F (fun j a b => q j (by omega) (by omega)), fun x y => by rw [F.i (q _ (by omega) (by omega))]; exact (H k hk).2 x y⟩
theorem MDs.tk {μ μ' : dtM} {S : aY} (H : MDs μ S) (F : Fr Mcl μ μ') : MDs μ' S := by
  obtain ⟨a, b, c, d, e⟩ := H
  refine ⟨by rw [F.i (by omega)]; exact a, by rw [F.i (by omega)]; exact b, by rw [F.i (by omega)]; exact c, fun i hi => by rw [F.i (by omega)]; exact d i hi, e.kept F (fun j h1 h2 x => by have := x.1; omega)⟩
theorem mdR_c {μ : dtM} {R : Nat} {r r' : Nat → Nat} (h : ∀ t, t < 5 → r' t = r t) (H : mdR μ R r) : mdR μ R r' := by
  unfold mdR rWho rTwo rOne at H ⊢
  rw [h 0 (by decide), h 1 (by decide), h 2 (by decide), h 3 (by decide), h 4 (by decide)]
  exact H
theorem mdR_22 {μ : dtM} {R : Nat} {r : Nat → Nat} (h : r 0 = 22) (H : dtI μ 134 R = Int32.ofNat 21) : mdR μ R r := by
  unfold mdR rWho rTwo rOne
  rw [h]
  exact ⟨H, fun x => by omega, fun x => by omega, fun x => by omega, fun x => by omega, fun x => by omega⟩
theorem MDs.add {μ : dtM} {k : Nat} {S : aY} {v : aRw} (c : dtI μ 133 23 = Int32.ofNat (sC S + 1)) (l : dtI μ 134 2023 = Int32.ofNat (sL S + 1)) (nn : dtI μ 133 22 = Int32.ofNat (sN (sAdd S k v))) (st : ∀ i, i < sN (sAdd S k v) → dtI μ 141 i = Int32.ofNat (sB (sAdd S k v) i)) (e : MDe μ S) (h22 : ¬ k = 22) (hr : mdR μ (2152 + 6 * sL S) (rwV k v)) : MDs μ (sAdd S k v) := by
  refine ⟨c, l, nn, st, fun j hj => ?_⟩
  rw [add_L] at hj
  have nle : sN S ≤ sN (sAdd S k v) := by
    by_cases y : nst k
    · rw [add_Ny y]; omega
    · rw [add_Nn y]; omega
  by_cases y : j = sL S
  · subst y
    have fe : (fun t => sT (sAdd S k v) t (sL S)) = rwV k v := funext fun t => add_Tn
    rw [fe, add_Tn]
    refine ⟨hr, fun x z => ?_⟩
    rcases x with x | x
    · have x : nst k := x
      exact absurd (add_Bn x) (z (sN S) (by rw [add_Ny x]; omega))
    · exact absurd x h22
  · have fe : (fun t => sT (sAdd S k v) t j) = (fun t => sT S t j) := funext fun t => add_T (by omega)
    rw [fe, add_T (by omega), add_T (by omega)]
    obtain ⟨e1, e2⟩ := e j (by omega)
    exact ⟨e1, fun x z => e2 x (fun i hi w => z i (by omega) (by rw [add_B hi]; exact w))⟩
theorem MDs.fin {μ : dtM} {S : aY} (b1 : sB S (sN S - 1) < sL S) (c : dtI μ 133 23 = Int32.ofNat (sC S)) (l : dtI μ 134 2023 = Int32.ofNat (sL S + 1)) (nn : dtI μ 133 22 = Int32.ofNat (sN S - 1)) (st : ∀ i, i < sN S - 1 → dtI μ 141 i = Int32.ofNat (sB S i)) (e1 : ∀ j, j < sL S → mdR μ (2152 + 6 * j) (fun t => sT S t j)) (e2 : ∀ j, j < sL S → ¬ j = sB S (sN S - 1) → (nst (sT S 0 j) ∨ sT S 0 j = 22) → (∀ i, i < sN S → ¬ sB S i = j) → dtI μ 134 (2152 + 6 * j + 4) = Int32.ofNat (sT S 5 j)) (eb : dtI μ 134 (2152 + 6 * sB S (sN S - 1) + 4) = Int32.ofNat (sL S)) (r0 : dtI μ 134 (2152 + 6 * sL S) = Int32.ofNat 21) (r4 : dtI μ 134 (2152 + 6 * sL S + 4) = Int32.ofNat (sB S (sN S - 1))) : MDs μ (sEnd S) := by
  refine ⟨c, l, nn, st, fun j hj => ?_⟩
  rw [end_L] at hj
  by_cases y : j = sL S
  · subst y
    have z0 : sT (sEnd S) 0 (sL S) = 22 := by rw [end_Tn, if_pos rfl]
    have z5 : sT (sEnd S) 5 (sL S) = sB S (sN S - 1) := by rw [end_Tn, if_neg (by decide), if_pos rfl]
    refine ⟨mdR_22 z0 r0, fun _ _ => ?_⟩
    rw [z5]; exact r4
  · refine ⟨mdR_c (fun t ht => end_T (by omega) (by omega)) (e1 j (by omega)), fun x z => ?_⟩
    by_cases w : j = sB S (sN S - 1)
    · rw [w, end_T5 b1]; exact eb
    · rw [end_T (t := 0) (by omega) (by omega)] at x
      rw [end_T (t := 5) (by omega) (fun y => w y.2)]
      refine e2 j (by omega) w x (fun i hi v => ?_)
      by_cases v2 : i = sN S - 1
      · exact w (by rw [← v, v2])
      · exact z i (by rw [end_N]; omega) v
def MRd (μ : dtM) (n : Nat) (B : Nat → Int32) (r : aX (aY × Nat)) : Prop := match r with
  | .ok y => MDs μ y.1 ∧ MTk μ n B y.2 ∧ M0f μ
  | .error x => MFl μ x
def dsT (l1 l2 l3 l4 : Int32) (μ : dtM) : Option (Int32 × dtM) := (opGR 12 0 μ 133).bind fun x4 => (opLI 1 μ x4 (2023 : Int32)).bind fun x6 => (opSI μ x4 (2023 : Int32) (x6 + (1 : Int32))).bind fun μ8 => (opRv 12 μ8 133).bind fun _ => (f_X12_ahead 133 μ8).bind fun μ11 => (opRv 12 μ11 133).bind fun _ => opCall (f_X12_dayOrder 133 l1 l3 μ11) fun x16 μ14 => if x16 = 0 then (opRet (0 : Int32) μ14) else (if l4 = 0 then (f_X12_dayStep_228 133 l1 l2 l3 μ14) else ((opGR 12 21 μ14 133).bind fun x23 => (opGI 12 22 μ14 133).bind fun x25 => (opSI μ14 x23 x25 l2).bind fun μ27 => (opGI 12 22 μ27 133).bind fun x29 => (opPI 12 22 μ27 133 (x29 + (1 : Int32))).bind fun μ31 => f_X12_dayStep_228 133 l1 l2 l3 μ31))
theorem ds153 {R : Nat} {l1 l2 l4 : Int32} (hR : R + 6 ≤ 2656) : ∀ (m f i : Nat) (μ : dtM), i + m = 6 → 1 ≤ i → m < f → CX μ → ∃ μ', f_X12_dayStep_153 f 133 l1 l2 (Int32.ofNat R) l4 (Int32.ofNat i) μ = dsT l1 l2 (Int32.ofNat R) l4 μ' ∧ Fr (fun k j => k = 134 ∧ R + 1 ≤ j ∧ j < R + 6) μ μ' := by
  intro m
  induction m with
  | zero =>
    intro f i μ e h1 hf C
    cases f with
    | zero => omega
    | succ f =>
      refine ⟨μ, ?_, Fr.rf⟩
      rw [f_X12_dayStep_153, if_pos (show (6 : Int32) ≤ Int32.ofNat i by rw [show (6 : Int32) = Int32.ofNat 6 from rfl, z_le (by decide) (by omega)]; omega)]; rfl
  | succ m ih =>
    intro f i μ e h1 hf C
    cases f with
    | zero => omega
    | succ f =>
      have F1 : Fr (fun k j => k = 134 ∧ R + 1 ≤ j ∧ j < R + 6) μ (dtSI μ 134 (R + i) (Int32.ofNat 0)) := Fr.SI ⟨rfl, by omega, by omega⟩
      obtain ⟨μ2, e2, F2⟩ := ih f (i + 1) _ (by omega) (by omega) (by omega) (C.kept F1)
      refine ⟨μ2, ?_, F1.tr F2⟩
      rw [← e2, f_X12_dayStep_153, if_neg (show ¬ (6 : Int32) ≤ Int32.ofNat i by rw [show (6 : Int32) = Int32.ofNat 6 from rfl, z_le (by decide) (by omega)]; omega), C.g133_0, o_bind, z_add, show (0 : Int32) = Int32.ofNat 0 from rfl, o_SI C.s134 (show R + i < 2656 by omega) (by decide), o_bind, show (1 : Int32) = Int32.ofNat 1 from rfl, z_add]
abbrev Mst : Nat → Nat → Prop := fun k j => Mcl k j ∨ (k = 133 ∧ (j = 22 ∨ j = 23)) ∨ (k = 134 ∧ (j = 2023 ∨ (2152 ≤ j ∧ j < 2512))) ∨ k = 141
theorem n_285 {μ : dtM} {n e : Nat} {B : Nat → Int32} {S : aY} (D : MDs μ S) (H : MTk μ n B e) (h0 : M0f μ) : ∃ μ', f_X12_dayStep_285 133 μ = some (bI (xOk (xEnd (tx B) n (.ok (S, e)))), μ') ∧ Fr Mcl μ μ' ∧ MRd μ' n B (xEnd (tx B) n (.ok (S, e))) := by
  have C := H.1.1
  obtain ⟨μ1, e1, F1, R1⟩ := H.wantSign h0 (s := 59) (by decide)
  unfold xEnd
  rw [xB_o]
  have es : f_X12_dayStep_285 133 μ = some (bI (xOk (xSign (tx B) n 59 e)), μ1) := by
    rw [f_X12_dayStep_285, C.v133, o_bind, show (59 : Int32) = Int32.ofNat 59 from rfl, e1, o_call, o_bI]
  cases q : xSign (tx B) n 59 e with
  | ok e2 =>
    rw [q] at es R1
    exact ⟨μ1, es, F1, D.tk F1, R1⟩
  | error x =>
    rw [q] at es R1
    exact ⟨μ1, es, F1, R1⟩
theorem kwM_st : ∀ k, k < 24 → ((k = 22 ∨ k = 4 ∨ k = 19 ∨ k = 21 ∨ k = 23 ∨ (15 ≤ k ∧ k ≤ 18)) ↔ (kwM.getD k 99 = 6 ∨ (15 ≤ kwM.getD k 99 ∧ kwM.getD k 99 ≤ 22))) ∧ (kwM.getD k 99 = 19 ↔ k = 19) ∧ (kwM.getD k 99 = 20 ↔ k = 21) ∧ (kwM.getD k 99 = 21 ↔ k = 22) := by decide
/-- behind the checks: the row's slots, its order, its end -/
theorem n_139 {μ : dtM} {n e k d : Nat} {B : Nat → Int32} {A : aH} {S : aY} {l4 : Int32} (H : MTk μ n B e) (h0 : M0f μ) (HA : MH μ 0 0 A) (D : MDs μ S) (W : sWF A S) (k24 : k < 24) (sk : stK k ∨ k = 22) (hL : sL S < 60) (hd : d = if k = 22 then 0 else 1) (h4 : (l4 = 0 ∧ ¬ nst k) ∨ (l4 = 1 ∧ nst k)) (h3 : nst k → sN S < 3) (hN : k = 22 → 0 < sN S) : ∃ μ', f_X12_dayStep_139 133 (Int32.ofNat (kwM.getD k 99)) (Int32.ofNat (sL S)) (Int32.ofNat (2152 + 6 * sL S)) l4 133 (Int32.ofNat (sC S)) (Int32.ofNat d) μ = some (bI (xOk (xEnd (tx B) n (xB (xRow (tx B) n A k (lxE (tx B) n e)) (fun v e1 => (.ok (if k = 22 then sEnd S else sAdd S k v, e1) : aX (aY × Nat)))))), μ') ∧ Fr Mst μ μ' ∧ MRd μ' n B (xEnd (tx B) n (xB (xRow (tx B) n A k (lxE (tx B) n e)) (fun v e1 => (.ok (if k = 22 then sEnd S else sAdd S k v, e1) : aX (aY × Nat))))) := by
  have C := H.1.1
  obtain ⟨c0, c1, c2, c3⟩ := kwM_st k k24
  have kl := kwM_lt k k24
  obtain ⟨⟨w1, w2, w3⟩, _, u3, _⟩ := W
  obtain ⟨d1, d2, d3, d4, d5⟩ := D
  obtain ⟨m1, hm1⟩ : ∃ m, m = dtSI μ 133 23 (Int32.ofNat (sC S + d)) := ⟨_, rfl⟩
  have F1 : Fr (fun k j => k = 133 ∧ j = 23) μ m1 := by
    rw [hm1]; exact Fr.SI ⟨rfl, rfl⟩
  have C1 := C.kept F1
  obtain ⟨m2, hm2⟩ : ∃ m, m = dtSI m1 134 (2152 + 6 * sL S) (Int32.ofNat (kwM.getD k 99)) := ⟨_, rfl⟩
  have F2 : Fr (fun k j => k = 134 ∧ j = 2152 + 6 * sL S) m1 m2 := by
    rw [hm2]; exact Fr.SI ⟨rfl, rfl⟩
  have C2 := C1.kept F2
  obtain ⟨m3, e3, F3⟩ := ds153 (R := 2152 + 6 * sL S) (l1 := Int32.ofNat (kwM.getD k 99)) (l2 := Int32.ofNat (sL S)) (l4 := l4) (by omega) 5 dtFuel 1 m2 (by omega) (by decide) (dtFuel_gt (by decide)) C2
  have C3 := C2.kept F3
  obtain ⟨m4, hm4⟩ : ∃ m, m = dtSI m3 134 2023 (Int32.ofNat (sL S + 1)) := ⟨_, rfl⟩
  have F4 : Fr (fun k j => k = 134 ∧ j = 2023) m3 m4 := by
    rw [hm4]; exact Fr.SI ⟨rfl, rfl⟩
  have C4 := C3.kept F4
  have F14 : Fr (fun k j => (k = 133 ∧ j = 23) ∨ (k = 134 ∧ (j = 2023 ∨ (2152 + 6 * sL S ≤ j ∧ j < 2152 + 6 * sL S + 6)))) μ m4 := (F1.wide (fun k j x => by omega)).tr ((F2.wide (fun k j x => by omega)).tr ((F3.wide (fun k j x => by omega)).tr (F4.wide (fun k j x => by omega))))
  have l2 : opLI 1 m3 134 (2023 : Int32) = some (Int32.ofNat (sL S)) := by
    rw [show (2023 : Int32) = Int32.ofNat 2023 from rfl, o_LI C3.s134 (by decide) (by decide), F3.i (by omega), F2.i (by omega), F1.i (by omega), d2]
  have H4 : MTk m4 n B e := H.kept2 F14 (by intros; omega) (by intros; omega)
  have h04 : M0f m4 := h0.kept2 F14 (by omega)
  obtain ⟨m5, e5, F5, H5⟩ := H4.adv
  have h5 := h04.tk F5
  have F5' : Fr Mcl m4 m5 := F5.wide (fun _ _ x => Mtk.c x)
  have C5 := C4.kept F5
  have HA5 : MH m5 0 0 A := (HA.keptAt F14 (by intros; omega) (by intros; omega)).kM (F5'.wide (fun _ _ x => Or.inl x))
  have k5 : dtI m5 134 (2152 + 6 * sL S) = Int32.ofNat (kwM.getD k 99) := by rw [F5'.i (by omega), F4.i (by omega), F3.i (by omega), hm2, m_I_SI, if_pos ⟨rfl, rfl⟩]
  obtain ⟨m6, e6, F6, R6⟩ := n_order (R := 2152 + 6 * sL S) H5 h5 HA5 (by omega) sk k5
  have C6 := C5.kept F6
  have F16 : Fr Mst μ m6 := (F14.wide (fun k j x => Or.inr (by omega))).tr ((F5'.wide (fun _ _ x => Or.inl x)).tr (F6.wide (fun k j x => x.elim Or.inl (fun y => Or.inr (Or.inr (Or.inl (by omega)))))))
  have base : f_X12_dayStep_139 133 (Int32.ofNat (kwM.getD k 99)) (Int32.ofNat (sL S)) (Int32.ofNat (2152 + 6 * sL S)) l4 133 (Int32.ofNat (sC S)) (Int32.ofNat d) μ = if bI (xOk (xRow (tx B) n A k (lxE (tx B) n e))) = 0 then (opRet (0 : Int32) m6) else (if l4 = 0 then (f_X12_dayStep_228 133 (Int32.ofNat (kwM.getD k 99)) (Int32.ofNat (sL S)) (Int32.ofNat (2152 + 6 * sL S)) m6) else ((opGR 12 21 m6 133).bind fun x23 => (opGI 12 22 m6 133).bind fun x25 => (opSI m6 x23 x25 (Int32.ofNat (sL S))).bind fun μ27 => (opGI 12 22 μ27 133).bind fun x29 => (opPI 12 22 μ27 133 (x29 + (1 : Int32))).bind fun μ31 => f_X12_dayStep_228 133 (Int32.ofNat (kwM.getD k 99)) (Int32.ofNat (sL S)) (Int32.ofNat (2152 + 6 * sL S)) μ31)) := by
    have e3' : f_X12_dayStep_153 dtFuel 133 (Int32.ofNat (kwM.getD k 99)) (Int32.ofNat (sL S)) (Int32.ofNat (2152 + 6 * sL S)) l4 (1 : Int32) m2 = dsT (Int32.ofNat (kwM.getD k 99)) (Int32.ofNat (sL S)) (Int32.ofNat (2152 + 6 * sL S)) l4 m3 := e3
    rw [f_X12_dayStep_139, z_add, o_PI C.s133, o_bind, ← hm1, C1.g133_0, o_bind, o_SI C1.s134 (show 2152 + 6 * sL S < 2656 by omega) (by decide), o_bind, ← hm2, e3', dsT, C3.g133_0, o_bind, l2, o_bind, show (2023 : Int32) = Int32.ofNat 2023 from rfl, show Int32.ofNat (sL S) + (1 : Int32) = Int32.ofNat (sL S + 1) from z_add _ 1, o_SI C3.s134 (show 2023 < 2656 by decide) (by decide), o_bind, ← hm4, C4.v133, o_bind, e5, o_bind, C5.v133, o_bind, e6, o_call]
  rw [base]
  cases r : xRow (tx B) n A k (lxE (tx B) n e) with
  | error x =>
    rw [r] at R6
    rw [xB_e, if_pos bI_f]
    exact ⟨m6, by rw [show (0 : Int32) = Int32.ofNat 0 from rfl, o_ret0']; rfl, F16, R6⟩
  | ok y =>
    rw [r] at R6
    obtain ⟨r6, H6, h6⟩ := R6
    rw [xB_o, if_neg bI_t]
    have n6 : ∀ j, (j < 2152 + 6 * sL S ∨ 2152 + 6 * sL S + 6 ≤ j) → dtI m6 134 j = dtI m4 134 j := fun j hj => by
      rw [F6.i (fun x => x.elim (fun y => by have := y.1; omega) (fun y => by omega)), F5'.i (by omega)]
    have q6 : ∀ k' j, (k' = 133 ∧ (j = 22 ∨ j = 23)) ∨ k' = 141 → dtI m6 k' j = dtI m4 k' j := fun k' j hj => by
      rw [F6.i (fun x => x.elim (fun y => by have := y.2; omega) (fun y => by omega)), F5'.i (by omega)]
    have v23 : dtI m6 133 23 = Int32.ofNat (sC S + d) := by rw [q6 _ _ (Or.inl ⟨rfl, Or.inr rfl⟩), F4.i (by omega), F3.i (by omega), F2.i (by omega), hm1, m_I_SI, if_pos ⟨rfl, rfl⟩]
    have v20 : dtI m6 134 2023 = Int32.ofNat (sL S + 1) := by rw [n6 _ (by omega), hm4, m_I_SI, if_pos ⟨rfl, rfl⟩]
    have v22 : dtI m6 133 22 = Int32.ofNat (sN S) := by rw [q6 _ _ (Or.inl ⟨rfl, Or.inl rfl⟩), F14.i (by omega)]; exact d3
    have v14 : ∀ i, i < sN S → dtI m6 141 i = Int32.ofNat (sB S i) := fun i hi => by rw [q6 _ _ (Or.inr rfl), F14.i (by omega)]; exact d4 i hi
    have vE : MDe m6 S := ((d5.kept F14 (by intros; omega)).kept F5' (by intros; omega)).kept F6 (fun j a b x => x.elim (fun y => by have := y.1; omega) (fun y => by omega))
    have g22 : opGI 12 22 m6 133 = some (Int32.ofNat (sN S)) := by rw [o_GI C6.s133, v22]
    by_cases q22 : k = 22
    · have l40 : l4 = 0 := by
        rcases h4 with x | x
        · exact x.1
        · have := x.2
          unfold nst at this
          omega
      have n0 := hN q22
      obtain ⟨b1, b2⟩ := u3 (sN S - 1) (by omega)
      have m21 : kwM.getD k 99 = 21 := c3.mpr q22
      obtain ⟨m7, hm7⟩ : ∃ m, m = dtSI m6 133 22 (Int32.ofNat (sN S - 1)) := ⟨_, rfl⟩
      have F7 : Fr (fun k j => k = 133 ∧ j = 22) m6 m7 := by
        rw [hm7]; exact Fr.SI ⟨rfl, rfl⟩
      have C7 := C6.kept F7
      have g7 : opGI 12 22 m7 133 = some (Int32.ofNat (sN S - 1)) := by rw [o_GI C7.s133, hm7, m_I_SI, if_pos ⟨rfl, rfl⟩]
      have s7 : opLI 1 m7 141 (Int32.ofNat (sN S - 1)) = some (Int32.ofNat (sB S (sN S - 1))) := by rw [o_LI C7.s141 (by omega) (by decide), F7.i (by omega), v14 _ (by omega)]
      obtain ⟨m8, hm8⟩ : ∃ m, m = dtSI m7 134 (2152 + 6 * sL S + 4) (Int32.ofNat (sB S (sN S - 1))) := ⟨_, rfl⟩
      have F8 : Fr (fun k j => k = 134 ∧ j = 2152 + 6 * sL S + 4) m7 m8 := by
        rw [hm8]; exact Fr.SI ⟨rfl, rfl⟩
      have C8 := C7.kept F8
      have g8 : opGI 12 22 m8 133 = some (Int32.ofNat (sN S - 1)) := by rw [o_GI C8.s133, F8.i (by omega), hm7, m_I_SI, if_pos ⟨rfl, rfl⟩]
      have s8 : opLI 1 m8 141 (Int32.ofNat (sN S - 1)) = some (Int32.ofNat (sB S (sN S - 1))) := by rw [o_LI C8.s141 (by omega) (by decide), F8.i (by omega), F7.i (by omega), v14 _ (by omega)]
      obtain ⟨m9, hm9⟩ : ∃ m, m = dtSI m8 134 (2152 + 6 * sB S (sN S - 1) + 4) (Int32.ofNat (sL S)) := ⟨_, rfl⟩
      have F9 : Fr (fun k j => k = 134 ∧ j = 2152 + 6 * sB S (sN S - 1) + 4) m8 m9 := by
        rw [hm9]; exact Fr.SI ⟨rfl, rfl⟩
      have C9 := C8.kept F9
      have F79 : Fr (fun k j => (k = 133 ∧ j = 22) ∨ (k = 134 ∧ (j = 2152 + 6 * sL S + 4 ∨ j = 2152 + 6 * sB S (sN S - 1) + 4))) m6 m9 := (F7.wide (fun k j x => by omega)).tr ((F8.wide (fun k j x => by omega)).tr (F9.wide (fun k j x => by omega)))
      have H9 : MTk m9 n B y.2 := H6.kept2 F79 (by intros; omega) (by intros; omega)
      have h9 : M0f m9 := h6.kept2 F79 (by omega)
      have D9 : MDs m9 (sEnd S) := by
        refine MDs.fin b1 ?_ ?_ ?_ (fun i hi => ?_) (fun j hj => ?_) (fun j hj a b c => ?_) ?_ ?_ ?_
        · rw [F79.i (by omega), v23, hd, if_pos q22]; rfl
        · rw [F79.i (by omega)]; exact v20
        · rw [F9.i (by omega), F8.i (by omega), hm7, m_I_SI, if_pos ⟨rfl, rfl⟩]
        · rw [F79.i (by omega)]; exact v14 i (by omega)
        · obtain ⟨⟨p0, p1, p2, p3, p4, p5⟩, _⟩ := vE j hj
          exact ⟨by rw [F79.i (by omega)]; exact p0, fun x => by rw [F79.i (by omega)]; exact p1 x, fun x => by rw [F79.i (by omega)]; exact p2 x, fun x => by rw [F79.i (by omega)]; exact p3 x, fun x => by rw [F79.i (by omega)]; exact p4 x, fun x => by rw [F79.i (by omega)]; exact p5 x⟩
        · rw [F79.i (by omega)]
          exact (vE j hj).2 b c
        · rw [hm9, m_I_SI, if_pos ⟨rfl, rfl⟩]
        · rw [F79.i (by omega)]
          have := r6.1
          rw [rw0, q22] at this
          exact this
        · rw [F9.i (by omega), hm8, m_I_SI, if_pos ⟨rfl, rfl⟩]
      obtain ⟨μf, ef, Ff, Rf⟩ := n_285 D9 H9 h9
      rw [if_pos q22]
      refine ⟨μf, ?_, F16.tr ((F79.wide (fun k j x => Or.inr (by omega))).tr (Ff.wide (fun _ _ x => Or.inl x))), Rf⟩
      rw [if_pos l40, f_X12_dayStep_228, if_pos (show Int32.ofNat (kwM.getD k 99) = (21 : Int32) by rw [m21]; rfl), g22, o_bind, show (1 : Int32) = Int32.ofNat 1 from rfl, z_sub (show 1 ≤ sN S by omega), o_PI C6.s133, o_bind, ← hm7, C7.g133_0, o_bind, C7.g133_21, o_bind, g7, o_bind, s7, o_bind, show (4 : Int32) = Int32.ofNat 4 from rfl, z_add, o_SI C7.s134 (show 2152 + 6 * sL S + 4 < 2656 by omega) (by decide), o_bind, ← hm8, C8.g133_0, o_bind, C8.g133_21, o_bind, g8, o_bind, s8, o_bind, show (6 : Int32) = Int32.ofNat 6 from rfl, show (2152 : Int32) = Int32.ofNat 2152 from rfl, z_mul, z_add, z_add, o_SI C8.s134 (show 2152 + 6 * sB S (sN S - 1) + 4 < 2656 by omega) (by decide), o_bind, ← hm9]
      exact ef
    · have m21 : ¬ Int32.ofNat (kwM.getD k 99) = (21 : Int32) := by
        rw [show (21 : Int32) = Int32.ofNat 21 from rfl, z_eq (by omega) (by decide)]
        exact fun x => q22 (c3.mp x)
      have d1' : d = 1 := by rw [hd, if_neg q22]
      rw [if_neg q22]
      rcases h4 with ⟨z, nn⟩ | ⟨z, yy⟩
      · have D6 : MDs m6 (sAdd S k y.1) := MDs.add (by rw [v23, d1']) v20 (by rw [add_Nn nn]; exact v22) (fun i hi => by
          rw [add_Nn nn] at hi
          rw [add_B hi]; exact v14 i hi) vE q22 r6
        obtain ⟨μf, ef, Ff, Rf⟩ := n_285 D6 H6 h6
        refine ⟨μf, ?_, F16.tr (Ff.wide (fun _ _ x => Or.inl x)), Rf⟩
        rw [if_pos z, f_X12_dayStep_228, if_neg m21]
        exact ef
      · have n3 := h3 yy
        obtain ⟨m7, hm7⟩ : ∃ m, m = dtSI m6 141 (sN S) (Int32.ofNat (sL S)) := ⟨_, rfl⟩
        have F7 : Fr (fun k j => k = 141 ∧ j = sN S) m6 m7 := by
          rw [hm7]; exact Fr.SI ⟨rfl, rfl⟩
        have C7 := C6.kept F7
        have g7 : opGI 12 22 m7 133 = some (Int32.ofNat (sN S)) := by rw [o_GI C7.s133, F7.i (by omega), v22]
        obtain ⟨m8, hm8⟩ : ∃ m, m = dtSI m7 133 22 (Int32.ofNat (sN S + 1)) := ⟨_, rfl⟩
        have F8 : Fr (fun k j => k = 133 ∧ j = 22) m7 m8 := by
          rw [hm8]; exact Fr.SI ⟨rfl, rfl⟩
        have C8 := C7.kept F8
        have F78 : Fr (fun k j => (k = 141 ∧ j = sN S) ∨ (k = 133 ∧ j = 22)) m6 m8 := (F7.wide (fun k j x => Or.inl x)).tr (F8.wide (fun k j x => Or.inr x))
        have H8 : MTk m8 n B y.2 := H6.kept2 F78 (by intros; omega) (by intros; omega)
        have h8 : M0f m8 := h6.kept2 F78 (by omega)
        have D8 : MDs m8 (sAdd S k y.1) := MDs.add (by rw [F78.i (by omega), v23, d1']) (by rw [F78.i (by omega)]; exact v20) (by rw [add_Ny yy, hm8, m_I_SI, if_pos ⟨rfl, rfl⟩]) (fun i hi => by
          rw [add_Ny yy] at hi
          rw [F8.i (by omega)]
          by_cases q : i = sN S
          · rw [q, add_Bn yy, hm7, m_I_SI, if_pos ⟨rfl, rfl⟩]
          · rw [add_B (by omega), F7.i (by omega)]; exact v14 i (by omega)) (vE.kept F78 (by intros; omega)) q22 (r6.kept F78 (by intros; omega))
        obtain ⟨μf, ef, Ff, Rf⟩ := n_285 D8 H8 h8
        refine ⟨μf, ?_, F16.tr ((F78.wide (fun k j x => Or.inr (by omega))).tr (Ff.wide (fun _ _ x => Or.inl x))), Rf⟩
        rw [if_neg (by rw [z]; decide), C6.g133_21, o_bind, g22, o_bind, o_SI C6.s141 n3 (by decide), o_bind, ← hm7, g7, o_bind, show (1 : Int32) = Int32.ofNat 1 from rfl, z_add, o_PI C7.s133, o_bind, ← hm8, f_X12_dayStep_228, if_neg m21]
        exact ef
