/-! PURE 90: a door told, the model -/
theorem n_roomTo {μ : dtM} {n e t : Nat} {B : Nat → Int32} {A : aH} (H : MTk μ n B e) (h0 : M0f μ) (W : hWF A) (c0 : dtI μ 134 2016 = Int32.ofNat (hs A 0)) (N : ∀ r, r < hs A 0 → dtJ μ 135 (76 + r) = n256 (hrn A r)) (ht : t < 2656) : ∃ μ', f_X12_newRoomTo 133 (Int32.ofNat t) μ = some (bI (xOk (xOld (tx B) n (hrn A) (hs A 0) e)), μ') ∧ Fr (Mat t) μ μ' ∧ MRv μ' n B (xOld (tx B) n (hrn A) (hs A 0) e) t := by
  have C := H.1.1
  have nr := W.1.1
  obtain ⟨μ1, e1, F1, R1⟩ := H.oldOne h0 ht (base := 76) (many := hs A 0) (N := hrn A) (by omega) (fun k hk => ⟨N k hk, W.2.2.2.2.1 k hk⟩)
  refine ⟨μ1, ?_, F1, R1⟩
  rw [f_X12_newRoomTo, C.g133_0, o_bind, show (2016 : Int32) = Int32.ofNat 2016 from rfl, o_LI C.s134 (by decide) (by decide), c0, o_bind, C.v133, o_bind, show (76 : Int32) = Int32.ofNat 76 from rfl, e1, o_call, o_bI]
theorem n_cho {K : dtM → Option (Int32 × dtM)} {μ : dtM} {n e t k m hi : Nat} {B : Nat → Int32} (H : MTk μ n B e) (h0 : M0f μ) (ht : t < 2656) (hk : k < 24) (hm : kwM.getD k 99 = m) (hh : hi < 10000) (z0 : dtI μ 134 t = Int32.ofNat 0) : ∃ μ', (opCall (f_X12_isThere 133 (Int32.ofNat m) μ) fun x15 μ13 => if x15 = 0 then (K μ13) else ((opRv 12 μ13 133).bind fun _ => opCall (f_X12_number 133 (Int32.ofNat t) (0 : Int32) (Int32.ofNat hi) μ13) fun x22 μ20 => if x22 = 0 then (opRet (0 : Int32) μ20) else (K μ20))) = (if xOk (xCho (tx B) n k hi e) = true then K μ' else some (bI false, μ')) ∧ Fr (Mat t) μ μ' ∧ MRv μ' n B (xCho (tx B) n k hi e) t := by
  obtain ⟨μ1, e1, F1, H1, h1⟩ := H.isThere h0 hk hm
  have C1 := H1.1.1
  unfold xCho
  by_cases q : lxK (tx B) n e = some k
  · rw [if_pos q] at H1
    obtain ⟨μ2, e2, F2, R2⟩ := H1.number h1 ht (lo := 0) (hi := hi) (by decide) hh
    rw [if_pos q]
    refine ⟨μ2, ?_, (F1.wide (fun _ _ x => Or.inl x)).tr F2, R2⟩
    rw [e1, o_call, if_neg (by rw [decide_eq_true q]; decide), C1.v133, o_bind, show (0 : Int32) = Int32.ofNat 0 from rfl, e2, o_call]
    cases r : xNum (tx B) n 0 hi (lxE (tx B) n e) with
    | error x => rw [if_pos (show bI (xOk (Except.error x : aX (Nat × Nat))) = Int32.ofNat 0 from (by decide : bI false = Int32.ofNat 0)), o_ret0']; rfl
    | ok y => rw [if_neg (show ¬ bI (xOk (Except.ok y : aX (Nat × Nat))) = Int32.ofNat 0 from (by decide : ¬ bI true = Int32.ofNat 0))]; rfl
  · rw [if_neg q] at H1
    rw [if_neg q]
    refine ⟨μ1, ?_, F1.wide (fun _ _ x => Or.inl x), ?_, H1, h1⟩
    · rw [e1, o_call, if_pos (by rw [decide_eq_false q]; decide)]; rfl
    · rw [F1.i (fun x => by have := x.1; omega), z0]
abbrev Mdo (d : Nat) : Nat → Nat → Prop := fun k j => Mcl k j ∨ (k = 134 ∧ 2026 + 3 * d ≤ j ∧ j < 2029 + 3 * d)
theorem Mdo.c {d k j : Nat} (x : Mcl k j) : Mdo d k j := Or.inl x
theorem n_159 {P : Nat → Nat → Prop} {μ μ0 : dtM} {n e a b z : Nat} {op : Bool} {B : Nat → Int32} {A : aH} {wn : Nat → List Nat} (S : MHN μ0 A wn) (F : Fr P μ0 μ) (hP : ∀ k j, P k j → Mdo (hs A 1) k j ∨ (k = 134 ∧ j = 2021)) (H : MTk μ n B e) (h0 : M0f μ) (h10 : hs A 1 < 10) (ha : a < hs A 0) (hb : b < hs A 0) (hab : ¬ a = b) (hz : z ≤ 9) (e5 : dtI μ 134 2021 = Int32.ofNat (dOp A op)) (ea : dtI μ 134 (2026 + 3 * hs A 1) = Int32.ofNat a) (eb : dtI μ 134 (2027 + 3 * hs A 1) = Int32.ofNat b) (ez : dtI μ 134 (2028 + 3 * hs A 1) = Int32.ofNat z) : ∃ μ', f_X12_aDoor_159 133 μ = some (bI true, μ') ∧ Fr MDr μ0 μ' ∧ MHN μ' (hDr A a b z op) wn ∧ MTk μ' n B e ∧ M0f μ' := by
  have C := H.1.1
  obtain ⟨C0, HH, N⟩ := S
  have c1 : dtI μ 134 2017 = Int32.ofNat (hs A 1) := by
    rw [F.i (fun x => by have := hP _ _ x; omega)]; exact HH.2.1.1 1 (by decide)
  have Fx : Fr (fun k j => Mdo (hs A 1) k j ∨ (k = 134 ∧ (j = 2021 ∨ j = 2017))) μ0 (dtSI μ 134 2017 (Int32.ofNat (hs A 1 + 1))) := (F.wide (fun k j x => by
    rcases hP k j x with y | y
    · exact Or.inl y
    · exact Or.inr ⟨y.1, Or.inl y.2⟩)).tr (Fr.SI (Or.inr ⟨rfl, Or.inr rfl⟩))
  refine ⟨dtSI μ 134 2017 (Int32.ofNat (hs A 1 + 1)), ?_, Fx.wide (fun k j x => by
    rcases x with (x | x) | x
    · exact Or.inl x
    · exact Or.inr (Or.inl (by omega))
    · exact Or.inr (Or.inl (by omega))), ⟨C0.kept Fx, HH.doored h10 ha hb hab hz Fx (fun k j x => by omega) (by rw [m_I_SI, if_pos ⟨rfl, rfl⟩]) (by rw [m_I_SI, if_neg (by omega)]; exact e5) (by rw [m_I_SI, if_neg (by omega), show 2016 + 10 + 3 * hs A 1 = 2026 + 3 * hs A 1 by omega]; exact ea) (by rw [m_I_SI, if_neg (by omega), show 2016 + 10 + 3 * hs A 1 + 1 = 2027 + 3 * hs A 1 by omega]; exact eb) (by rw [m_I_SI, if_neg (by omega), show 2016 + 10 + 3 * hs A 1 + 2 = 2028 + 3 * hs A 1 by omega]; exact ez), fun k hk => ?_⟩, H.at4, h0.at4⟩
  · rw [f_X12_aDoor_159, C.g133_0, o_bind, show (2017 : Int32) = Int32.ofNat 2017 from rfl, o_LI C.s134 (by decide) (by decide), c1, o_bind, show (1 : Int32) = Int32.ofNat 1 from rfl, z_add, o_SI C.s134 (by decide) (by decide), o_bind, o_ret1']
  · rw [hDr_s (by decide)] at hk
    rw [Fx.j (fun x => by omega)]; exact N k hk
theorem n_129 {μ μ0 : dtM} {n e a b z : Nat} {B : Nat → Int32} {A : aH} {wn : Nat → List Nat} (S : MHN μ0 A wn) (F : Fr (Mdo (hs A 1)) μ0 μ) (H : MTk μ n B e) (h0 : M0f μ) (h10 : hs A 1 < 10) (ha : a < hs A 0) (hb : b < hs A 0) (hab : ¬ a = b) (hz : z ≤ 9) (ea : dtI μ 134 (2026 + 3 * hs A 1) = Int32.ofNat a) (eb : dtI μ 134 (2027 + 3 * hs A 1) = Int32.ofNat b) (ez : dtI μ 134 (2028 + 3 * hs A 1) = Int32.ofNat z) : ∃ μ', f_X12_aDoor_129 133 μ = some (bI true, μ') ∧ Fr MDr μ0 μ' ∧ MHN μ' (hDr A a b z (xOpn (tx B) n e).1) wn ∧ MTk μ' n B (xOpn (tx B) n e).2 ∧ M0f μ' := by
  have C := H.1.1
  obtain ⟨μ1, e1, F1, H1, h1⟩ := H.isThere h0 (k := 4) (m := 6) (by decide) (by decide)
  have C1 := H1.1.1
  have F01 : Fr (Mdo (hs A 1)) μ0 μ1 := F.tr (F1.wide (fun _ _ x => Or.inl x))
  have V := S.2.1.2.1
  have k4 : ∀ j, dtI μ1 134 j = dtI μ 134 j := fun j => F1.i (fun x => by have := x.1; omega)
  have v5 : dtI μ1 134 2021 = Int32.ofNat (hs A 5) := by
    rw [F01.i (fun x => by
      have y : Mcl 134 2021 ∨ (134 = 134 ∧ 2026 + 3 * hs A 1 ≤ 2021 ∧ 2021 < 2029 + 3 * hs A 1) := x
      rcases y with y | y
      · have := y.1; omega
      · omega)]
    exact V.1 5 (by decide)
  have v1 : dtI μ1 134 2017 = Int32.ofNat (hs A 1) := by
    rw [F01.i (fun x => by
      have y : Mcl 134 2017 ∨ (134 = 134 ∧ 2026 + 3 * hs A 1 ≤ 2017 ∧ 2017 < 2029 + 3 * hs A 1) := x
      rcases y with y | y
      · have := y.1; omega
      · omega)]
    exact V.1 1 (by decide)
  have st : f_X12_aDoor_129 133 μ = if bI (decide (lxK (tx B) n e = some 4)) = 0 then (f_X12_aDoor_159 133 μ1) else ((opGR 12 0 μ1 133).bind fun x8 => (opLI 1 μ1 x8 (2021 : Int32)).bind fun x10 => (opGR 12 0 μ1 133).bind fun x12 => (opLI 1 μ1 x12 (2017 : Int32)).bind fun x14 => (opSI μ1 x8 (2021 : Int32) (x10 ||| ((1 : Int32) <<< (x14 &&& 31)))).bind fun μ16 => f_X12_aDoor_159 133 μ16) := by
    rw [f_X12_aDoor_129, C.v133, o_bind, show (6 : Int32) = Int32.ofNat 6 from rfl, e1, o_call]
  rw [st]
  unfold xOpn
  by_cases q : lxK (tx B) n e = some 4
  · rw [if_pos q] at H1
    have Fx : Fr (fun k j => Mdo (hs A 1) k j ∨ (k = 134 ∧ j = 2021)) μ0 (dtSI μ1 134 2021 (Int32.ofNat (hs A 5 ||| 2 ^ hs A 1))) := (F01.wide (fun _ _ x => Or.inl x)).tr (Fr.SI (Or.inr ⟨rfl, rfl⟩))
    obtain ⟨μ2, e2, F2, S2, H2, h2⟩ := n_159 (op := true) S Fx (fun _ _ x => x) (H1.at4) (h1.at4) h10 ha hb hab hz (by rw [m_I_SI, if_pos ⟨rfl, rfl⟩]; rfl) (by rw [m_I_SI, if_neg (by omega), k4]; exact ea) (by rw [m_I_SI, if_neg (by omega), k4]; exact eb) (by rw [m_I_SI, if_neg (by omega), k4]; exact ez)
    rw [if_pos q]
    refine ⟨μ2, ?_, F2, S2, H2, h2⟩
    rw [if_neg (by rw [decide_eq_true q]; decide), C1.g133_0, o_bind, show (2021 : Int32) = Int32.ofNat 2021 from rfl, o_LI C1.s134 (by decide) (by decide), v5, o_bind, o_bind, show (2017 : Int32) = Int32.ofNat 2017 from rfl, o_LI C1.s134 (by decide) (by decide), v1, o_bind, show (1 : Int32) = Int32.ofNat 1 from rfl, show (31 : Int32) = Int32.ofNat 31 from rfl, z_bit (by omega), z_or, o_SI C1.s134 (by decide) (by decide), o_bind]
    exact e2
  · rw [if_neg q] at H1
    obtain ⟨μ2, e2, F2, S2, H2, h2⟩ := n_159 (op := false) S F01 (fun _ _ x => Or.inl x) H1 h1 h10 ha hb hab hz (by rw [v5]; rfl) (by rw [k4]; exact ea) (by rw [k4]; exact eb) (by rw [k4]; exact ez)
    rw [if_neg q]
    refine ⟨μ2, ?_, F2, S2, H2, h2⟩
    rw [if_pos (by rw [decide_eq_false q]; decide)]
    exact e2
