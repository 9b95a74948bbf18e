/-! PURE 995: the parts of a house, the model's loop -/
def xH (r : aX ((aH × (Nat → List Nat)) × Nat)) (m : Nat) : Prop := ∀ y, r = .ok y → m ≤ hs y.1.1 3
theorem xH_e {x : Nat × Nat} {m : Nat} : xH (.error x) m := fun _ h => absurd h (fun x => nomatch x)
theorem xH_o {a : aH × (Nat → List Nat)} {e1 m : Nat} (h : m ≤ hs a.1 3) : xH (.ok (a, e1)) m := fun y hy => by
  have z : (a, e1) = y := Except.ok.inj hy
  rw [← z]; exact h
theorem xH_B {α : Type} {r : aX (α × Nat)} {f : α → Nat → aX ((aH × (Nat → List Nat)) × Nat)} {m : Nat} (g : ∀ a e1, xH (f a e1) m) : xH (xB r f) m := by
  cases r with
  | error x => exact xH_e
  | ok y => exact g y.1 y.2
theorem xH_K {r : aX Nat} {f : Nat → aX ((aH × (Nat → List Nat)) × Nat)} {m : Nat} (g : ∀ e1, xH (f e1) m) : xH (xS1 r f) m := by
  cases r with
  | error x => exact xH_e
  | ok y => exact g y
theorem xH_if {c : Prop} [Decidable c] {a b : aX ((aH × (Nat → List Nat)) × Nat)} {m : Nat} (x : xH a m) (y : xH b m) : xH (if c then a else b) m := by
  by_cases h : c
  · rw [if_pos h]; exact x
  · rw [if_neg h]; exact y
theorem xPart_h {u : Nat → Nat} {n e : Nat} {A : aH} {wn : Nat → List Nat} {od : Bool} : xH (xPart u n A wn od e) (hs A 3) :=
  xH_if (xH_if xH_e (xH_B (fun v e1 => xH_o (Nat.le_of_eq (hOd_s (by decide)).symm)))) (xH_if (xH_B (fun l e1 => xH_o (Nat.le_of_eq (hRm_s (by decide)).symm))) (xH_if (xH_if xH_e (xH_B (fun a e1 => xH_B (fun b e2 => xH_B (fun z e3 => xH_o (Nat.le_of_eq (hDr_s (by decide)).symm)))))) (xH_if (xH_B (fun l e1 => xH_K (fun e2 => xH_B (fun ks e3 => xH_if (xH_if xH_e (xH_o (Nat.le_of_eq (hCo_s (by decide)).symm))) xH_e)))) (xH_if (xH_B (fun l e1 => xH_K (fun e2 => xH_B (fun rm e3 => xH_B (fun df e4 => xH_B (fun kn e5 => xH_o (Nat.le_succ _))))))) xH_e))))
theorem xEnd_h {u : Nat → Nat} {n m : Nat} {r : aX ((aH × (Nat → List Nat)) × Nat)} (h : xH r m) : xH (xEnd u n r) m := by
  cases r with
  | error x => exact xH_e
  | ok z =>
    have hz := h z rfl
    unfold xEnd
    rw [xB_o]
    exact xH_B (fun _ e2 => xH_o hz)
theorem hl31 {n : Nat} {B : Nat → Int32} : ∀ (m e f : Nat) (A : aH) (wn : Nat → List Nat) (od : Bool) (μ : dtM), n < e + m → m < f → MHN μ A wn → MZ μ A → MTk μ n B e → M0f μ → dtI μ 133 20 = bI od → ∃ μ', f_X12_house_31 f 133 (bI true) μ = f_X12_house_50 133 μ' ∧ Fr MDq μ μ' ∧ MRh μ' n B (xLp (tx B) n m A wn od e)
  | _, _, 0, _, _, _, _, _, hf, _, _, _, _, _ => absurd hf (Nat.not_lt_zero _)
  | 0, e, f + 1, A, wn, od, μ, hm', hf, S, Z, H, h0, fl => by
    have := H.2.1
    omega
  | m + 1, e, f + 1, A, wn, od, μ, hm', hf, S, Z, H, h0, fl => by
    have C := S.1
    have en := H.2.1
    have h4 := lxT_4 (tx := tx B) (n := n) (e := e)
    obtain ⟨m5, m0, _⟩ := mkT_b h4
    rw [f_X12_house_31, if_neg (show ¬ bI true = 0 from (by decide : ¬ bI true = 0)), H.1.g 12, H.2.2.2.2.1, o_bind, xLp]
    by_cases q : lxT (tx B) n e = 0
    · rw [if_pos q, if_pos (show Int32.ofNat (mkT (lxT (tx B) n e)) = 0 by rw [m0.mpr q]; rfl)]
      exact ⟨μ, rfl, Fr.rf, S, H, h0⟩
    · obtain ⟨μ1, e1, F1, R1, f1⟩ := n_part S Z H h0 fl
      rw [if_neg q, if_neg (show ¬ Int32.ofNat (mkT (lxT (tx B) n e)) = 0 by rw [show (0 : Int32) = Int32.ofNat 0 from rfl, z_eq (by omega) (by decide)]; exact fun x => q (m0.mp x)), C.v133, o_bind, e1, o_call]
      cases r : xEnd (tx B) n (xPart (tx B) n A wn od e) with
      | error x =>
        rw [r] at R1
        obtain ⟨f', hf'⟩ : ∃ f', f = f' + 1 := ⟨f - 1, by omega⟩
        rw [xB_e]
        refine ⟨μ1, ?_, F1, R1⟩
        rw [hf', f_X12_house_31, if_pos (show bI (xOk (Except.error x : aX ((aH × (Nat → List Nat)) × Nat))) = 0 from (by decide : bI false = 0))]
      | ok y =>
        have on := xEnd_on xPart_m r
        have h3 := xEnd_h (n := n) xPart_h y r
        rw [r] at R1 f1
        obtain ⟨S1, H1, h1⟩ := R1
        have Z1 : MZ μ1 y.1.1 := fun p a b => by
          rw [F1.i (fun x => by
            rcases x with (x | x | x) | x
            · have := x.1; omega
            · omega
            · omega
            · omega)]
          exact Z p (by omega) b
        obtain ⟨μ2, e2, F2, R2⟩ := hl31 m y.2 f y.1.1 y.1.2 (od || decide (lxK (tx B) n e = some 0)) μ1 (by omega) (by omega) S1 Z1 H1 h1 (f1 rfl)
        rw [xB_o]
        exact ⟨μ2, e2, F1.tr F2, R2⟩
