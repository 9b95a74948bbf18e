/-! PURE 99995: the days' text, its loop, the model -/
theorem n_75 {μ : dtM} {n e : Nat} {B : Nat → Int32} (H : MTk μ n B e) (h0 : M0f μ) : ∃ μ', f_X12_dayStep_75 133 μ = some (bI false, μ') ∧ Fr Mcl μ μ' ∧ MFl μ' (flt (tx B) n e 2) := by
  obtain ⟨μ1, e1, F1, R1⟩ := n_fails (w := 2) H h0 (by decide)
  exact ⟨μ1, by rw [f_X12_dayStep_75, H.1.1.v133, o_bind, show (2 : Int32) = Int32.ofNat 2 from rfl, e1, o_call, o_bI], F1, R1⟩
theorem n_dayStep {μ : dtM} {n e : Nat} {B : Nat → Int32} {A : aH} {S : aY} (H : MTk μ n B e) (h0 : M0f μ) (HA : MH μ 0 0 A) (D : MDs μ S) (W : sWF A S) : ∃ μ', f_X12_dayStep 133 μ = some (bI (xOk (xEnd (tx B) n (xStp (tx B) n A S e))), μ') ∧ Fr Mst μ μ' ∧ MRd μ' n B (xEnd (tx B) n (xStp (tx B) n A S e)) := by
  have C := H.1.1
  have Wd := H.words
  have w1 := W.1
  obtain ⟨μ7, e7, F7, R7⟩ := n_75 H h0
  have F7' : Fr Mst μ μ7 := F7.wide (fun _ _ x => Or.inl x)
  have l2 : opLI 1 μ 134 (2023 : Int32) = some (Int32.ofNat (sL S)) := by
    rw [show (2023 : Int32) = Int32.ofNat 2023 from rfl, o_LI C.s134 (by decide) (by decide), D.2.1]
  have g22 : opGI 12 22 μ 133 = some (Int32.ofNat (sN S)) := by rw [o_GI C.s133, D.2.2.1]
  have g23 : opGI 12 23 μ 133 = some (Int32.ofNat (sC S)) := by rw [o_GI C.s133, D.1]
  have st : f_X12_dayStep 133 μ = if oN (lxM (tx B) n e) = (19 : Int32) then (f_X12_dayStep_37 133 (oN (lxM (tx B) n e)) (Int32.ofNat (sL S)) (Int32.ofNat (2152 + 6 * sL S)) μ) else (if oN (lxM (tx B) n e) = (20 : Int32) then (f_X12_dayStep_37 133 (oN (lxM (tx B) n e)) (Int32.ofNat (sL S)) (Int32.ofNat (2152 + 6 * sL S)) μ) else (f_X12_dayStep_42 133 (oN (lxM (tx B) n e)) (Int32.ofNat (sL S)) (Int32.ofNat (2152 + 6 * sL S)) (0 : Int32) μ)) := by
    rw [f_X12_dayStep, C.v133, o_bind, Wd, o_call, C.g133_0, o_bind, l2, o_bind, o_bind, show (2152 : Int32) = Int32.ofNat 2152 from rfl, show (6 : Int32) = Int32.ofNat 6 from rfl, z_mul, z_add]
  rw [st]
  cases hk : lxK (tx B) n e with
  | none =>
    have hm : oN (lxM (tx B) n e) = (-1 : Int32) := by
      unfold lxM
      rw [hk]; rfl
    rw [xStp_n hk, hm]
    refine ⟨μ7, ?_, F7', R7⟩
    rw [if_neg (by decide), if_neg (by decide), f_X12_dayStep_42, if_neg (by decide), if_pos (by decide), e7]; rfl
  | some k =>
    have k24 := lxK_lt hk
    have kl := kwM_lt k k24
    obtain ⟨c0, c1, c2, c3⟩ := kwM_st k k24
    have hm : oN (lxM (tx B) n e) = Int32.ofNat (kwM.getD k 99) := by
      unfold lxM
      rw [hk]; rfl
    have me : ∀ c, c < 24 → (Int32.ofNat (kwM.getD k 99) = Int32.ofNat c) = (kwM.getD k 99 = c) := fun c hc => z_kd kl hc
    have m19 : (Int32.ofNat (kwM.getD k 99) = (19 : Int32)) = (kwM.getD k 99 = 19) := me 19 (by decide)
    have m20 : (Int32.ofNat (kwM.getD k 99) = (20 : Int32)) = (kwM.getD k 99 = 20) := me 20 (by decide)
    have m21 : (Int32.ofNat (kwM.getD k 99) = (21 : Int32)) = (kwM.getD k 99 = 21) := me 21 (by decide)
    have m6 : (Int32.ofNat (kwM.getD k 99) = (6 : Int32)) = (kwM.getD k 99 = 6) := me 6 (by decide)
    have l15 : (Int32.ofNat (kwM.getD k 99) < (15 : Int32)) = (kwM.getD k 99 < 15) := z_lt (by omega) (show 15 < 2147483648 by decide)
    have l22 : ((22 : Int32) < Int32.ofNat (kwM.getD k 99)) = (22 < kwM.getD k 99) := z_lt (show 22 < 2147483648 by decide) (by omega)
    obtain ⟨l4, es, h4⟩ : ∃ l4 : Int32, (if Int32.ofNat (kwM.getD k 99) = (19 : Int32) then (f_X12_dayStep_37 133 (Int32.ofNat (kwM.getD k 99)) (Int32.ofNat (sL S)) (Int32.ofNat (2152 + 6 * sL S)) μ) else (if Int32.ofNat (kwM.getD k 99) = (20 : Int32) then (f_X12_dayStep_37 133 (Int32.ofNat (kwM.getD k 99)) (Int32.ofNat (sL S)) (Int32.ofNat (2152 + 6 * sL S)) μ) else (f_X12_dayStep_42 133 (Int32.ofNat (kwM.getD k 99)) (Int32.ofNat (sL S)) (Int32.ofNat (2152 + 6 * sL S)) (0 : Int32) μ))) = f_X12_dayStep_42 133 (Int32.ofNat (kwM.getD k 99)) (Int32.ofNat (sL S)) (Int32.ofNat (2152 + 6 * sL S)) l4 μ ∧ ((l4 = 0 ∧ ¬ nst k) ∨ (l4 = 1 ∧ nst k)) := by
      by_cases a : kwM.getD k 99 = 19
      · exact ⟨1, by rw [if_pos (Eq.mpr m19 a), f_X12_dayStep_37], Or.inr ⟨rfl, Or.inl (c1.mp a)⟩⟩
      · by_cases b : kwM.getD k 99 = 20
        · exact ⟨1, by rw [if_neg (fun x => a (Eq.mp m19 x)), if_pos (Eq.mpr m20 b), f_X12_dayStep_37], Or.inr ⟨rfl, Or.inr (c2.mp b)⟩⟩
        · exact ⟨0, by rw [if_neg (fun x => a (Eq.mp m19 x)), if_neg (fun x => b (Eq.mp m20 x))], Or.inl ⟨rfl, fun x => x.elim (fun y => a (c1.mpr y)) (fun y => b (c2.mpr y))⟩⟩
    rw [hm, es, xStp_k hk]
    by_cases inS : k = 22 ∨ k = 4 ∨ k = 19 ∨ k = 21 ∨ k = 23 ∨ (15 ≤ k ∧ k ≤ 18)
    · have e62 : f_X12_dayStep_42 133 (Int32.ofNat (kwM.getD k 99)) (Int32.ofNat (sL S)) (Int32.ofNat (2152 + 6 * sL S)) l4 μ = f_X12_dayStep_62 133 (Int32.ofNat (kwM.getD k 99)) (Int32.ofNat (sL S)) (Int32.ofNat (2152 + 6 * sL S)) l4 μ := by
        rw [f_X12_dayStep_42]
        rcases c0.mp inS with x | x
        · rw [if_pos (Eq.mpr m6 x)]
        · rw [if_neg (fun y => by have := Eq.mp m6 y; omega), if_neg (fun y => by have := Eq.mp l15 y; omega), if_neg (fun y => by have := Eq.mp l22 y; omega)]
      rw [e62]
      by_cases q22 : k = 22
      · have mm : Int32.ofNat (kwM.getD k 99) = (21 : Int32) := Eq.mpr m21 (c3.mpr q22)
        rw [if_pos q22]
        by_cases z : sN S = 0
        · rw [if_pos z]
          refine ⟨μ7, ?_, F7', R7⟩
          rw [f_X12_dayStep_62, if_pos mm, g22, o_bind, if_pos (by rw [z]; decide), e7]; rfl
        · rw [if_neg z]
          have l40 : l4 = 0 := by
            rcases h4 with x | x
            · exact x.1
            · have := x.2
              unfold nst at this
              omega
          obtain ⟨μ1, e1, F1, R1⟩ := n_139 (k := k) (d := 0) (l4 := l4) H h0 HA D W k24 (Or.inr q22) (by omega) (by rw [if_pos q22]) h4 (fun x => by unfold nst at x; omega) (fun _ => by omega)
          rw [xRow_0 (Or.inr (Or.inl q22)), xB_o, if_pos q22] at e1 R1
          refine ⟨μ1, ?_, F1, R1⟩
          have e1' : f_X12_dayStep_139 133 (Int32.ofNat (kwM.getD k 99)) (Int32.ofNat (sL S)) (Int32.ofNat (2152 + 6 * sL S)) l4 133 (Int32.ofNat (sC S)) (0 : Int32) μ = some (bI (xOk (xEnd (tx B) n (.ok (sEnd S, lxE (tx B) n e)))), μ1) := e1
          rw [f_X12_dayStep_62, if_pos mm, g22, o_bind, if_neg (show ¬ Int32.ofNat (sN S) = 0 by rw [show (0 : Int32) = Int32.ofNat 0 from rfl, z_eq (by omega) (by decide)]; exact z), f_X12_dayStep_81, if_pos mm, f_X12_dayStep_103, if_pos l40, f_X12_dayStep_123, g23, o_bind, if_pos mm, e1']
      · have mm : ¬ Int32.ofNat (kwM.getD k 99) = (21 : Int32) := fun x => q22 (c3.mp (Eq.mp m21 x))
        have kk : k = 4 ∨ k = 19 ∨ k = 21 ∨ k = 23 ∨ (15 ≤ k ∧ k ≤ 18) := by omega
        rw [if_neg q22, if_pos kk, f_X12_dayStep_62, if_neg mm, f_X12_dayStep_81, if_neg mm, g23, o_bind]
        unfold xStk
        by_cases a : sC S = 30
        · obtain ⟨μ1, e1, F1, R1⟩ := n_fails (w := 6) H h0 (by decide)
          rw [if_pos a, if_pos (show Int32.ofNat (sC S) = (30 : Int32) by rw [a]; rfl)]
          refine ⟨μ1, ?_, F1.wide (fun _ _ x => Or.inl x), R1⟩
          rw [C.v133, o_bind, show (6 : Int32) = Int32.ofNat 6 from rfl, e1, o_call, o_bI]; rfl
        · rw [if_neg a, if_neg (show ¬ Int32.ofNat (sC S) = (30 : Int32) by rw [show (30 : Int32) = Int32.ofNat 30 from rfl, z_eq (by omega) (by decide)]; exact a), f_X12_dayStep_103]
          by_cases b : nst k ∧ sN S = 3
          · have l41 : l4 = 1 := by
              rcases h4 with x | x
              · exact absurd b.1 x.2
              · exact x.1
            obtain ⟨μ1, e1, F1, R1⟩ := n_fails (w := 7) H h0 (by decide)
            rw [if_pos (show (k = 19 ∨ k = 21) ∧ sN S = 3 from b), if_neg (by rw [l41]; decide), g22, o_bind, if_pos (show Int32.ofNat (sN S) = (3 : Int32) by rw [b.2]; rfl)]
            refine ⟨μ1, ?_, F1.wide (fun _ _ x => Or.inl x), R1⟩
            rw [C.v133, o_bind, show (7 : Int32) = Int32.ofNat 7 from rfl, e1, o_call, o_bI]; rfl
          · rw [if_neg (show ¬ ((k = 19 ∨ k = 21) ∧ sN S = 3) from b)]
            have sk : stK k := by unfold stK; omega
            have fe : (fun (v : aRw) (e1 : Nat) => (.ok (if k = 22 then sEnd S else sAdd S k v, e1) : aX (aY × Nat))) = (fun v e1 => .ok (sAdd S k v, e1)) := by
              funext v e1
              rw [if_neg q22]
            have n3 : nst k → sN S < 3 := fun x => by
              rcases Nat.lt_or_ge (sN S) 3 with y | y
              · exact y
              · exact absurd ⟨x, by omega⟩ b
            obtain ⟨μ1, e1, F1, R1⟩ := n_139 (k := k) (d := 1) (l4 := l4) H h0 HA D W k24 (Or.inl sk) (by omega) (by rw [if_neg q22]) h4 n3 (fun x => absurd x q22)
            rw [fe] at e1 R1
            refine ⟨μ1, ?_, F1, R1⟩
            have e1' : f_X12_dayStep_139 133 (Int32.ofNat (kwM.getD k 99)) (Int32.ofNat (sL S)) (Int32.ofNat (2152 + 6 * sL S)) l4 133 (Int32.ofNat (sC S)) (1 : Int32) μ = some (bI (xOk (xEnd (tx B) n (xB (xRow (tx B) n A k (lxE (tx B) n e)) (fun v e1 => (.ok (sAdd S k v, e1) : aX (aY × Nat)))))), μ1) := e1
            have e123 : f_X12_dayStep_123 133 (Int32.ofNat (kwM.getD k 99)) (Int32.ofNat (sL S)) (Int32.ofNat (2152 + 6 * sL S)) l4 μ = some (bI (xOk (xEnd (tx B) n (xB (xRow (tx B) n A k (lxE (tx B) n e)) (fun v e1 => (.ok (sAdd S k v, e1) : aX (aY × Nat)))))), μ1) := by
              rw [f_X12_dayStep_123, g23, o_bind, if_neg mm, e1']
            rcases h4 with x | x
            · rw [if_pos x.1, e123]
            · rw [if_neg (by rw [x.1]; decide), g22, o_bind, if_neg (show ¬ Int32.ofNat (sN S) = (3 : Int32) by rw [show (3 : Int32) = Int32.ofNat 3 from rfl, z_eq (by omega) (by decide)]; exact fun y => b ⟨x.2, y⟩), e123]
    · have nIn : ¬ (kwM.getD k 99 = 6 ∨ (15 ≤ kwM.getD k 99 ∧ kwM.getD k 99 ≤ 22)) := fun x => inS (c0.mpr x)
      rw [if_neg (fun x => inS (Or.inl x)), if_neg (fun x => inS (Or.inr x))]
      refine ⟨μ7, ?_, F7', R7⟩
      rw [f_X12_dayStep_42, if_neg (fun x => nIn (Or.inl (Eq.mp m6 x)))]
      by_cases y : kwM.getD k 99 < 15
      · rw [if_pos (Eq.mpr l15 y), e7]; rfl
      · rw [if_neg (fun x => y (Eq.mp l15 x)), if_pos (Eq.mpr l22 (by omega)), e7]; rfl
theorem da38 {n : Nat} {B : Nat → Int32} {A : aH} : ∀ (m e f : Nat) (S : aY) (μ : dtM), n < e + m → m < f → MDs μ S → sWF A S → MH μ 0 0 A → MTk μ n B e → M0f μ → ∃ μ', f_X12_days_38 f 133 (bI true) μ = f_X12_days_57 133 μ' ∧ Fr Mst μ μ' ∧ MRd μ' n B (xDl (tx B) n A m S e)
  | _, _, 0, _, _, _, hf, _, _, _, _, _ => absurd hf (Nat.not_lt_zero _)
  | 0, e, f + 1, S, μ, hm', hf, D, W, HA, H, h0 => by
    have := H.2.1
    omega
  | m + 1, e, f + 1, S, μ, hm', hf, D, W, HA, H, h0 => by
    have C := H.1.1
    have en := H.2.1
    have h4 := lxT_4 (tx := tx B) (n := n) (e := e)
    obtain ⟨m5, m0, _⟩ := mkT_b h4
    rw [f_X12_days_38, if_neg (show ¬ bI true = 0 from (by decide : ¬ bI true = 0)), H.1.g 12, H.2.2.2.2.1, o_bind, xDl]
    by_cases q : lxT (tx B) n e = 0
    · rw [if_pos q, if_pos (show Int32.ofNat (mkT (lxT (tx B) n e)) = 0 by rw [m0.mpr q]; rfl)]
      exact ⟨μ, rfl, Fr.rf, D, H, h0⟩
    · obtain ⟨μ1, e1, F1, R1⟩ := n_dayStep H h0 HA D W
      rw [if_neg q, if_neg (show ¬ Int32.ofNat (mkT (lxT (tx B) n e)) = 0 by rw [show (0 : Int32) = Int32.ofNat 0 from rfl, z_eq (by omega) (by decide)]; exact fun x => q (m0.mp x)), C.v133, o_bind, e1, o_call]
      cases r : xEnd (tx B) n (xStp (tx B) n A S e) with
      | error x =>
        rw [r] at R1
        obtain ⟨f', hf'⟩ : ∃ f', f = f' + 1 := ⟨f - 1, by omega⟩
        rw [xB_e]
        refine ⟨μ1, ?_, F1, R1⟩
        rw [hf', f_X12_days_38, if_pos (show bI (xOk (Except.error x : aX (aY × Nat))) = 0 from (by decide : bI false = 0))]
      | ok y =>
        have on := xEnd_on xStp_m r
        have W1 := xEnd_W (fun z hz => xRow_ok W hz) r
        rw [r] at R1
        obtain ⟨D1, H1, h1⟩ := R1
        have HA1 : MH μ1 0 0 A := HA.keptAt F1 (fun j a b _ x => by
          rcases x with x | x | x | x
          · have := x.1; omega
          · omega
          · omega
          · omega) (fun j a b x => by
          rcases x with x | x | x | x
          · have := x.1; omega
          · omega
          · omega
          · omega)
        obtain ⟨μ2, e2, F2, R2⟩ := da38 m y.2 f y.1 μ1 (by omega) (by omega) D1 W1 HA1 H1 h1
        rw [xB_o]
        exact ⟨μ2, e2, F1.tr F2, R2⟩
