/-! PURE 93: a word told, the program -/
def xS1 {β : Type} (r : aX Nat) (f : Nat → aX β) : aX β := match r with
  | .ok y => f y
  | .error x => .error x
theorem xS1_o {β : Type} {y : Nat} {f : Nat → aX β} : xS1 (.ok y) f = f y := rfl
theorem xS1_e {β : Type} {x : Nat × Nat} {f : Nat → aX β} : xS1 (.error x) f = .error x := rfl
def xWe (u : Nat → Nat) (n : Nat) (A : aH) (wn : Nat → List Nat) (l : List Nat) (ks : Nat × (Nat → Nat)) (e : Nat) : aX ((aH × (Nat → List Nat)) × Nat) := if lxT u n e = 3 ∧ u (lxF u n e) = 59 then (if nwB A ks.1 ks.2 (hs A 2) 0 = true then .error (flt u n e 5) else .ok ((hCo A ks.1 ks.2, dtUp wn (hs A 2) l), e)) else .error (flt u n e 2)
def xWord (u : Nat → Nat) (n : Nat) (A : aH) (wn : Nat → List Nat) (e : Nat) : aX ((aH × (Nat → List Nat)) × Nat) := xB (xNw u n A wn 2 7 e) (fun l e1 => xS1 (xKey u n 6 e1) (fun e2 => xB (xSn u n e2) (fun ks e3 => xWe u n A wn l ks e3)))
theorem dU_s {α : Type} {g : Nat → α} {j : Nat} {v : α} : dtUp g j v j = v := if_pos rfl
theorem dU_o {α : Type} {g : Nat → α} {j b : Nat} {v : α} (h : ¬ b = j) : dtUp g j v b = g b := if_neg h
theorem p_88 {μ : dtM} {h n e k : Nat} {s : Nat → Nat} {l : List Nat} {B : Nat → Int32} {A : aH} {wn : Nat → List Nat} (S : PHN μ h A wn) (H : PTk μ 115 n B e) (L : swL μ h (hs A 2) k s) (h7 : hs A 2 < 7) (hk : 1 ≤ k ∧ k ≤ 4) (h4 : ∀ j, j < k → s j < 4) (ok : nOk l) : ∃ μ', f_X4_readWord_88 114 h (n32 l) μ = some (bI (xOk (xEnd (tx B) n (.ok ((hCo A k s, dtUp wn (hs A 2) l), e)))), μ') ∧ Fr (PDr h) μ μ' ∧ PRh μ' n B h (xEnd (tx B) n (.ok ((hCo A k s, dtUp wn (hs A 2) l), e))) := by
  obtain ⟨C, HH, hh, N⟩ := S
  have F1 : Fr (fun k j => k = 117 ∧ j = hs A 2) μ (dtSJ μ 117 (hs A 2) (n32 l)) := Fr.SJ ⟨rfl, rfl⟩
  have H1 : PH (dtSJ μ 117 (hs A 2) (n32 l)) h A := HH.kept F1 (fun k _ _ j x => by omega)
  have L1 : swL (dtSJ μ 117 (hs A 2) (n32 l)) h (hs A 2) k s := L
  have H2 := H1.coined h7 hk h4 L1
  have F2 : Fr (PDr h) μ (dtSI (dtSJ μ 117 (hs A 2) (n32 l)) h 2 (Int32.ofNat (hs A 2 + 1))) := (F1.wide (fun k j x => Or.inr (Or.inr x.1))).tr (Fr.SI (Or.inr (Or.inl (by omega))))
  have S2 : PHN (dtSI (dtSJ μ 117 (hs A 2) (n32 l)) h 2 (Int32.ofNat (hs A 2 + 1))) h (hCo A k s) (dtUp wn (hs A 2) l) := by
    refine ⟨C.kept F2, H2, hh, fun j hj => ?_⟩
    rw [hCo_2] at hj
    rw [m_J_SI, m_J_SJ]
    by_cases x : j = hs A 2
    · rw [if_pos ⟨rfl, x⟩, x, dU_s]; exact ⟨rfl, ok⟩
    · rw [if_neg (fun y => x y.2), dU_o x]; exact N j (by omega)
  have T2 : PTk (dtSI (dtSJ μ 117 (hs A 2) (n32 l)) h 2 (Int32.ofNat (hs A 2 + 1))) 115 n B e := by
    have Fx : Fr (fun k j => (k = 117 ∧ j = hs A 2) ∨ (k = h ∧ j = 2)) μ (dtSI (dtSJ μ 117 (hs A 2) (n32 l)) h 2 (Int32.ofNat (hs A 2 + 1))) := (F1.wide (fun _ _ x => Or.inl x)).tr (Fr.SI (Or.inr ⟨rfl, rfl⟩))
    exact H.kept Fx (fun j x => by omega) (fun j x => by omega)
  obtain ⟨μ3, e3, F3, R3⟩ := p_end S2 T2
  refine ⟨μ3, ?_, F2.tr (F3.wide (fun _ _ x => Or.inl x)), R3⟩
  rw [f_X4_readWord_88, C.g114_1, o_bind, HH.g2, o_bind, o_SJ C.s117 h7 (by decide), o_bind, H1.g2, o_bind, show (1 : Int32) = Int32.ofNat 1 from rfl, z_add, o_PI H1.s0, o_bind, S2.1.g114_0, o_bind, T2.1.v, o_bind, e3, o_call, o_bI]
theorem p_word {μ : dtM} {h n e : Nat} {B : Nat → Int32} {A : aH} {wn : Nat → List Nat} (S : PHN μ h A wn) (H : PTk μ 115 n B e) : ∃ μ', f_X4_readWord 114 h μ = some (bI (xOk (xEnd (tx B) n (xWord (tx B) n A wn e))), μ') ∧ Fr (PDr h) μ μ' ∧ PRh μ' n B h (xEnd (tx B) n (xWord (tx B) n A wn e)) := by
  have C := S.1
  have HH := S.2.1
  have nw := HH.nw
  unfold xWord xNw
  by_cases q : hs A 2 = 7
  · obtain ⟨μ1, e1, F1, H1⟩ := p_flaw (w := 6) H
    rw [if_pos q, xB_e]
    refine ⟨μ1, ?_, F1.wide (fun _ _ x => Or.inl x), H1⟩
    rw [f_X4_readWord, HH.g2, o_bind, if_neg (show ¬ Int32.ofNat (hs A 2) < (7 : Int32) by rw [show (7 : Int32) = Int32.ofNat 7 from rfl, z_lt (by omega) (by decide)]; omega), C.g114_0, o_bind, H.1.v, o_bind, show (6 : Int32) = Int32.ofNat 6 from rfl, e1, o_call, o_bI]; rfl
  · rw [if_neg q]
    have h7 : hs A 2 < 7 := by omega
    obtain ⟨μ1, e1, F1, H1⟩ := H.adv
    have S1 := S.k (F1.wide (fun _ _ x => Ptk.c x))
    obtain ⟨μ2, v, e2, F2, R2⟩ := p_newName S1 H1
    have S2 := S1.k F2
    have F02 : Fr (PDr h) μ μ2 := (F1.wide (fun _ _ x => Or.inl (Ptk.c x))).tr (F2.wide (fun _ _ x => Or.inl x))
    have e58 : ∀ μ, f_X4_readWord_58 μ = some (bI false, μ) := fun μ => by rw [f_X4_readWord_58, show (0 : Int32) = Int32.ofNat 0 from rfl, o_ret0']
    have st : f_X4_readWord 114 h μ = if (lg_cmp v (0 : Int64)) = 0 then (f_X4_readWord_58 μ2) else ((opGR 4 0 μ2 114).bind fun x18 => (opRv 8 μ2 x18).bind fun _ => opCall (f_X8_passKeyword x18 (6 : Int32) μ2) fun x23 μ21 => if x23 = 0 then (f_X4_readWord_58 μ21) else ((opRv 4 μ21 114).bind fun _ => opCall (f_X4_readSounds 114 h μ21) fun x30 μ28 => if x30 = 0 then (f_X4_readWord_58 μ28) else ((opGR 4 0 μ28 114).bind fun x34 => (opRv 8 μ28 x34).bind fun _ => opCall (f_X8_isSign x34 (59 : Int32) μ28) fun x39 μ37 => if x39 = 0 then (f_X4_readWord_88 114 h v μ37) else ((opRv 3 μ37 h).bind fun _ => opCall (f_X3_isNewWordSaid h μ37) fun x46 μ44 => if x46 = 0 then (f_X4_readWord_88 114 h v μ44) else ((opGR 4 0 μ44 114).bind fun x50 => (opRv 8 μ44 x50).bind fun _ => opCall (f_X8_flaw x50 (5 : Int32) μ44) fun x55 μ53 => opRet x55 μ53))))) := by
      rw [f_X4_readWord, HH.g2, o_bind, if_pos (show Int32.ofNat (hs A 2) < (7 : Int32) by rw [show (7 : Int32) = Int32.ofNat 7 from rfl, z_lt (by omega) (by decide)]; exact h7), C.g114_0, o_bind, H.1.v, o_bind, e1, o_bind, o_Rv S1.1.s114, o_bind, e2, o_call]
    rw [st]
    cases r : xNew (tx B) n A wn (lxE (tx B) n e) with
    | error x =>
      rw [r] at R2
      obtain ⟨r1, r2⟩ := R2
      rw [xB_e]
      refine ⟨μ2, ?_, F02, r2⟩
      rw [r1, if_pos (Eq.mpr (lg0 _) rfl), e58]; rfl
    | ok y =>
      rw [r] at R2
      obtain ⟨r1, ok, l1, H2⟩ := R2
      obtain ⟨μ3, e3, F3, R3⟩ := H2.passKey (k := 6) (by decide)
      have S3 := S2.k F3
      have F03 : Fr (PDr h) μ μ3 := F02.tr (F3.wide (fun _ _ x => Or.inl x))
      rw [xB_o, r1, if_neg (fun x => n32_0 ok l1 (Eq.mp (lg0 _) x)), S2.1.g114_0, o_bind, H2.1.v, o_bind, show (6 : Int32) = Int32.ofNat 6 from rfl, e3, o_call]
      cases r : xKey (tx B) n 6 y.2 with
      | error x =>
        rw [r] at R3
        rw [xS1_e]
        refine ⟨μ3, ?_, F03, R3⟩
        rw [if_pos (show bI (xOk (Except.error x : aX Nat)) = 0 from (by decide : bI false = 0)), e58]; rfl
      | ok e2' =>
        rw [r] at R3
        have H3 : PTk μ3 115 n B e2' := R3
        obtain ⟨μ4, e4, F4, R4⟩ := p_sounds S3 H3 h7
        have F04 := F03.tr F4
        rw [xS1_o, if_neg (show ¬ bI (xOk (Except.ok e2' : aX Nat)) = 0 from (by decide : ¬ bI true = 0)), o_Rv S3.1.s114, o_bind, e4, o_call]
        cases r : xSn (tx B) n e2' with
        | error x =>
          rw [r] at R4
          rw [xB_e]
          refine ⟨μ4, ?_, F04, R4⟩
          rw [if_pos (show bI (xOk (Except.error x : aX ((Nat × (Nat → Nat)) × Nat))) = 0 from (by decide : bI false = 0)), e58]; rfl
        | ok z =>
          have zk := xSn_ok r
          rw [r] at R4
          obtain ⟨S4, L4, H4⟩ := R4
          have is' := H4.isSign (s := 59) (by decide)
          have new := p_isNew S4.2.1 h7 L4 zk.1.2 zk.2
          obtain ⟨μ5, e5, F5, R5⟩ := p_88 S4 H4 L4 h7 zk.1 zk.2 ok
          rw [xB_o, if_neg (show ¬ bI (xOk (Except.ok z : aX ((Nat × (Nat → Nat)) × Nat))) = 0 from (by decide : ¬ bI true = 0)), S4.1.g114_0, o_bind, H4.1.v, o_bind, show (59 : Int32) = Int32.ofNat 59 from rfl, is', o_call]
          unfold xWe
          by_cases sg : lxT (tx B) n z.2 = 3 ∧ tx B (lxF (tx B) n z.2) = 59
          · rw [if_pos sg, if_neg (by rw [decide_eq_true sg]; decide), S4.2.1.rv, o_bind, new, o_call]
            by_cases old : nwB A z.1.1 z.1.2 (hs A 2) 0 = true
            · obtain ⟨μ6, e6, F6, R6⟩ := p_flaw (w := 5) H4
              rw [if_pos old, if_neg (by rw [old]; decide), S4.1.g114_0, o_bind, H4.1.v, o_bind, show (5 : Int32) = Int32.ofNat 5 from rfl, e6, o_call, o_bI]
              exact ⟨μ6, rfl, F04.tr (F6.wide (fun _ _ x => Or.inl x)), R6⟩
            · have old' : nwB A z.1.1 z.1.2 (hs A 2) 0 = false := by
                cases h : nwB A z.1.1 z.1.2 (hs A 2) 0 with
                | true => exact absurd h old
                | false => rfl
              rw [if_neg old, if_pos (by rw [old']; decide)]
              exact ⟨μ5, e5, F04.tr F5, R5⟩
          · rw [if_neg sg, if_pos (by rw [decide_eq_false sg]; decide)]
            have er : xEnd (tx B) n (.ok ((hCo A z.1.1 z.1.2, dtUp wn (hs A 2) y.1), z.2)) = .error (flt (tx B) n z.2 2) := by
              unfold xEnd xSign
              rw [xB_o, if_neg sg]; rfl
            rw [er] at e5 R5
            exact ⟨μ5, e5, F04.tr F5, R5⟩
