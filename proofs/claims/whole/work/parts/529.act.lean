/-! PURE 69: a step of the days, on both sides -/
abbrev aQ : Type := (Nat × Nat × Nat) × (Nat × Nat × Nat) × (Nat → Nat)
def qd (Q : aQ) : Nat := Q.1.1
def qn (Q : aQ) : Nat := Q.1.2.1
def qm (Q : aQ) : Nat := Q.1.2.2
def qk (Q : aQ) : Nat := Q.2.1.1
def qc (Q : aQ) : Nat := Q.2.1.2.1
def qp (Q : aQ) : Nat := Q.2.1.2.2
def ql (Q : aQ) : Nat → Nat := Q.2.2
def qOk (Q : aQ) : Prop := qd Q < 65536 ∧ qn Q ≤ 301 ∧ qm Q ≤ qn Q ∧ qk Q ≤ qn Q ∧ qc Q ≤ 10 * qn Q ∧ qp Q ≤ qn Q
def qDone (Q : aQ) : aQ := ((qd Q, qn Q + 1, qm Q), Q.2)
def qMiss (Q : aQ) : aQ := ((qd Q, qn Q, qm Q + 1), Q.2)
def qShut (Q : aQ) (c : Nat) : aQ := (Q.1, (qk Q + 1, qc Q + c, qp Q), Q.2.2)
def qPass (Q : aQ) : aQ := (Q.1, (qk Q, qc Q, qp Q + 1), Q.2.2)
def drV (Q : aQ) : Nat := (qd Q * 3221 + 11449) % 65536
def qDraw (Q : aQ) (v : Nat) : aQ := ((v, qn Q, qm Q), Q.2)
def qLoop (Q : aQ) (l : Nat → Nat) : aQ := (Q.1, Q.2.1, l)
def drN (A : aH) (Q : aQ) : Nat := drV Q / 8 % hs A 1
def doK (A : aH) (D : aD) (k : Nat) (Q : aQ) : Bool × aH × aQ :=
  if dd D 0 k = 15 then (if (hAt A (dd D 1 k) (dd D 2 k) && (hs A 5).testBit (dd D 2 k)) = true then (true, hSn A (dd D 2 k) (dd D 3 k) (hSet A (dd D 2 k) (dd D 3 k) (Int32.ofNat (dd D 1 k))), qShut Q (pc (hSet A (dd D 2 k) (dd D 3 k) (Int32.ofNat (dd D 1 k))))) else (false, A, Q))
  else if dd D 0 k = 4 then (if (hAt A (dd D 1 k) (dd D 2 k) && !(hs A 5).testBit (dd D 2 k)) = true then (true, hOp A (dd D 2 k), Q) else (false, A, Q))
  else if dd D 0 k = 16 then (if (hAt A (dd D 1 k) (dd D 2 k) && (hs A 5).testBit (dd D 2 k)) = true then (true, hPs A (dd D 1 k) (dd D 2 k), qPass Q) else (false, A, Q))
  else if dd D 0 k = 17 then (if ht A 11 (dd D 1 k) = 0 then (false, A, Q) else (true, hUt A 11 (dd D 1 k) 0, Q))
  else if dd D 0 k = 18 then (if hs A 1 = 0 then (false, A, Q) else if (hs A 5).testBit (drN A Q) = true then (true, hSn A (drN A Q) 0 (hSet A (drN A Q) 0 (-Int32.ofNat 1)), qShut (qDraw Q (drV Q)) (pc (hSet A (drN A Q) 0 (-Int32.ofNat 1)))) else (true, hOp A (drN A Q), qDraw Q (drV Q)))
  else (true, A, Q)
def holdK (A : aH) (D : aD) (k : Nat) : Bool :=
  if dd D 4 k = 4 then (hs A 5).testBit (dd D 2 k) else if dd D 4 k = 12 then decide (ht A 8 (dd D 1 k) = dd D 2 k) else if dd D 3 k = 0 then decide (ht A 11 (dd D 1 k) < dd D 2 k) else if dd D 3 k = 1 then decide (dd D 2 k < ht A 11 (dd D 1 k)) else decide (ht A 11 (dd D 1 k) = dd D 2 k)
theorem hm_Ct {A : aH} {p s : Nat} : hm (hCt A p s) = hm A := by
  unfold hCt
  by_cases h : ht A 11 p = 8
  · rw [if_pos h]; rfl
  · rw [if_neg h]; rfl
theorem hm_C1 {A : aH} {set s p : Nat} : hm (hC1 set s p A) = hm A := by
  unfold hC1
  by_cases h : set.testBit p = true
  · rw [if_pos h]; exact hm_Ct
  · rw [if_neg h]
theorem hm_fo {set s : Nat} : ∀ (n i : Nat) (A : aH), hm (fo (hC1 set s) n i A) = hm A
  | 0, _, _ => rfl
  | n + 1, i, A => by rw [fo, hm_fo n (i + 1), hm_C1]
theorem hm_Sn {A : aH} {d s set : Nat} : hm (hSn A d s set) = hm A + Int32.ofNat 1 := by
  have e : hm (hMd (fo (hC1 set s) (hs A 3) 0 A)) = hm A + Int32.ofNat 1 := by
    show hm (fo (hC1 set s) (hs A 3) 0 A) + 1 = _
    rw [hm_fo]; rfl
  unfold hSn
  by_cases h : s = 3
  · rw [if_pos h]; exact e
  · rw [if_neg h]; exact e
theorem hUt_same {A : aH} {t i v : Nat} (h : ht A t i = v) : hUt A t i v = A := by
  have e : (fun a b => if a = t ∧ b = i then v else A.2.1 a b) = A.2.1 := by
    funext a b
    by_cases q : a = t ∧ b = i
    · rw [if_pos q, q.1, q.2]; exact h.symm
    · rw [if_neg q]
  show (A.1, (fun a b => if a = t ∧ b = i then v else A.2.1 a b), A.2.2) = A
  rw [e]
theorem doK_s {A : aH} {D : aD} {k : Nat} {Q : aQ} {j : Nat} (hj : ¬ j = 5) : hs (doK A D k Q).2.1 j = hs A j := by
  unfold doK
  by_cases c15 : dd D 0 k = 15
  · rw [if_pos c15]
    by_cases q : (hAt A (dd D 1 k) (dd D 2 k) && (hs A 5).testBit (dd D 2 k)) = true
    · rw [if_pos q]; exact hSn_s hj
    · rw [if_neg q]
  · rw [if_neg c15]
    by_cases c4 : dd D 0 k = 4
    · rw [if_pos c4]
      by_cases q : (hAt A (dd D 1 k) (dd D 2 k) && !(hs A 5).testBit (dd D 2 k)) = true
      · rw [if_pos q]; exact if_neg hj
      · rw [if_neg q]
    · rw [if_neg c4]
      by_cases c16 : dd D 0 k = 16
      · rw [if_pos c16]
        by_cases q : (hAt A (dd D 1 k) (dd D 2 k) && (hs A 5).testBit (dd D 2 k)) = true
        · rw [if_pos q]; rfl
        · rw [if_neg q]
      · rw [if_neg c16]
        by_cases c17 : dd D 0 k = 17
        · rw [if_pos c17]
          by_cases q : ht A 11 (dd D 1 k) = 0
          · rw [if_pos q]
          · rw [if_neg q]; rfl
        · rw [if_neg c17]
          by_cases c18 : dd D 0 k = 18
          · rw [if_pos c18]
            by_cases q : hs A 1 = 0
            · rw [if_pos q]
            · rw [if_neg q]
              by_cases q2 : (hs A 5).testBit (drN A Q) = true
              · rw [if_pos q2]
                show hs (hSn A (drN A Q) 0 (hSet A (drN A Q) 0 (-Int32.ofNat 1))) j = hs A j
                exact hSn_s hj
              · rw [if_neg q2]; exact if_neg hj
          · rw [if_neg c18]
def PQ (μ : dtM) (h : Nat) (m0 : Int32) (A : aH) (Q : aQ) : Prop := CX μ ∧ PH μ h A ∧ hm A = m0 + Int32.ofNat (qk Q) ∧ (dtI μ 130 1 = Int32.ofNat (qd Q) ∧ dtI μ 130 2 = Int32.ofNat (qn Q) ∧ dtI μ 130 3 = Int32.ofNat (qm Q) ∧ dtI μ 130 5 = Int32.ofNat (qc Q) ∧ dtI μ 130 6 = Int32.ofNat (qp Q)) ∧ PL μ (ql Q)
def MU (μ : dtM) (A : aH) (Q : aQ) : Prop := CX μ ∧ MH μ 0 0 A ∧ (dtI μ 133 34 = Int32.ofNat (qd Q) ∧ dtI μ 133 35 = Int32.ofNat (qn Q)) ∧ (dtI μ 152 0 = Int32.ofNat (qm Q) ∧ dtI μ 152 1 = Int32.ofNat (qk Q) ∧ dtI μ 152 2 = Int32.ofNat (qc Q) ∧ dtI μ 152 3 = Int32.ofNat (qp Q) ∧ dtI μ 152 4 = Int32.ofNat 0) ∧ ML μ (ql Q)
/-! the program's frame of a run -/
abbrev Pru (h : Nat) : Nat → Nat → Prop := fun k j => (h ≤ k ∧ k ≤ h + 12) ∨ k = 123 ∨ (k = 130 ∧ ¬ j = 7) ∨ k = 131
theorem PQ.ph {μ : dtM} {h : Nat} {m0 : Int32} {A : aH} {Q : aQ} (H : PQ μ h m0 A Q) : PH μ h A := H.2.1
theorem PQ.c {μ : dtM} {h : Nat} {m0 : Int32} {A : aH} {Q : aQ} (H : PQ μ h m0 A Q) : CX μ := H.1
/-- the house has changed, and it and the hearing alone -/
theorem PQ.hou {μ μ' : dtM} {h : Nat} {m0 : Int32} {A A' : aH} {Q : aQ} (H : PQ μ h m0 A Q) (F : Fr (fun k _ => (h ≤ k ∧ k ≤ h + 12) ∨ k = 123) μ μ') (hh : h + 12 < 123) (H' : PH μ' h A') (em : hm A' = hm A) : PQ μ' h m0 A' Q := by
  obtain ⟨C, _, e, ⟨a1, a2, a3, a4, a5⟩, L⟩ := H
  refine ⟨C.kept F, H', em.trans e, ⟨?_, ?_, ?_, ?_, ?_⟩, L.kept F (by intros; omega)⟩
  · rw [F.i (by omega)]; exact a1
  · rw [F.i (by omega)]; exact a2
  · rw [F.i (by omega)]; exact a3
  · rw [F.i (by omega)]; exact a4
  · rw [F.i (by omega)]; exact a5
theorem p_isOp {μ : dtM} {h : Nat} {A : aH} (HH : PH μ h A) {d : Nat} (hd : d < hs A 1) : f_X3_isOpen h (Int32.ofNat d) μ = some (bI ((hs A 5).testBit d), μ) := HH.isOpen (by have := HH.nd; omega)
theorem r_unshut {μ : dtM} {h : Nat} {A : aH} {d : Nat} {m0 : Int32} {Q : aQ} (H : PQ μ h m0 A Q) (hh : h + 12 < 123) (hd : d < hs A 1) (b : Bool) (hb : (hs A 5).testBit d = b) : ∃ μ', f_X6_unshut h (Int32.ofNat d) μ = some (bI (!b), μ') ∧ Fr (Pru h) μ μ' ∧ PQ μ' h m0 (if b = true then A else hOp A d) Q := by
  have HH := H.ph
  cases b with
  | true =>
    refine ⟨μ, ?_, Fr.rf, H⟩
    rw [f_X6_unshut, HH.rv, o_bind, p_isOp HH hd, hb, o_call, if_neg (by decide), show (0 : Int32) = Int32.ofNat 0 from rfl, o_ret0']; rfl
  | false =>
    obtain ⟨μ', e, F, H'⟩ := HH.unshut hd
    refine ⟨μ', ?_, F.wide (fun k j x => Or.inl (by have : k = h := x; omega)), H.hou (F.wide (fun k j x => Or.inl (by have : k = h := x; omega))) hh H' rfl⟩
    rw [f_X6_unshut, HH.rv, o_bind, p_isOp HH hd, hb, o_call, if_pos (by decide), HH.rv, o_bind, e, o_bind, show (1 : Int32) = Int32.ofNat 1 from rfl, o_ret1']; rfl
theorem r_shutBy {μ : dtM} {h : Nat} {A : aH} {d s : Nat} {mk m0 : Int32} {Q : aQ} (H : PQ μ h m0 A Q) (hh : h + 12 < 123) (hd : d < hs A 1) (hs4 : s < 4) (b : Bool) (hb : (hs A 5).testBit d = b) : ∃ μ', f_X6_shutBy 130 h 122 mk (Int32.ofNat d) (Int32.ofNat s) μ = some (bI b, μ') ∧ Fr (Pru h) μ μ' ∧ PQ μ' h m0 (if b = true then hSn A d s (hSet A d s mk) else A) (if b = true then qShut Q (pc (hSet A d s mk)) else Q) := by
  have HH := H.ph
  have C := H.c
  cases b with
  | false =>
    refine ⟨μ, ?_, Fr.rf, H⟩
    rw [f_X6_shutBy, HH.rv, o_bind, p_isOp HH hd, hb, o_call, if_pos (by decide), show (0 : Int32) = Int32.ofNat 0 from rfl, o_ret0']
  | true =>
    obtain ⟨μ1, e1, F1, H1⟩ := HH.shutWith C.hHr hh (mk := mk) hs4 hd
    have C1 := C.kept F1
    have hl := hSet_lt HH.2.2 (d := d) (s := s) (mk := mk)
    obtain ⟨_, _, em, ⟨a1, a2, a3, a4, a5⟩, L⟩ := H
    have Fk : Fr (fun k j => k = 130 ∧ j = 5) μ1 (dtSI μ1 130 5 (Int32.ofNat (qc Q + pc (hSet A d s mk)))) := Fr.SI ⟨rfl, rfl⟩
    refine ⟨_, ?_, (F1.wide (fun k j x => x.elim (fun y => Or.inl y) (fun y => Or.inr (Or.inl y)))).tr (Fk.wide (fun k j x => Or.inr (Or.inr (Or.inl ⟨x.1, by omega⟩)))), C1.kept Fk, H1.kept Fk (by intros; omega), ?_, ⟨?_, ?_, ?_, ?_, ?_⟩, (L.kept F1 (by intros; unfold PHs; omega)).kept Fk (by intros; omega)⟩
    · rw [f_X6_shutBy, HH.rv, o_bind, p_isOp HH hd, hb, o_call, if_neg (by decide), o_GI C.s130, o_bind, o_Rv C.s122, o_bind, e1, o_call, f_bitCount (by omega), o_call, a4, z_add, o_PI C1.s130, o_bind, show (1 : Int32) = Int32.ofNat 1 from rfl, o_ret1']
    · show hm (hSn A d s (hSet A d s mk)) = m0 + Int32.ofNat (qk Q + 1)
      rw [hm_Sn, em, Int32.add_assoc, z_add]
    · rw [Fk.i (by omega), F1.i (by unfold PHs; omega)]; exact a1
    · rw [Fk.i (by omega), F1.i (by unfold PHs; omega)]; exact a2
    · rw [Fk.i (by omega), F1.i (by unfold PHs; omega)]; exact a3
    · rw [m_I_SI, if_pos ⟨rfl, rfl⟩]; rfl
    · rw [Fk.i (by omega), F1.i (by unfold PHs; omega)]; exact a5
theorem r_pass {μ : dtM} {h : Nat} {A : aH} {p d : Nat} {m0 : Int32} {Q : aQ} (H : PQ μ h m0 A Q) (hh : h + 12 < 123) (hp : p < hs A 3) (hd : d < hs A 1) (b : Bool) (hb : (hs A 5).testBit d = b) : ∃ μ', f_X6_pass 130 h (Int32.ofNat p) (Int32.ofNat d) μ = some (bI b, μ') ∧ Fr (Pru h) μ μ' ∧ PQ μ' h m0 (if b = true then hPs A p d else A) (if b = true then qPass Q else Q) := by
  have HH := H.ph
  have C := H.c
  cases b with
  | false =>
    refine ⟨μ, ?_, Fr.rf, H⟩
    rw [f_X6_pass, HH.rv, o_bind, p_isOp HH hd, hb, o_call, if_pos (by decide), show (0 : Int32) = Int32.ofNat 0 from rfl, o_ret0']
  | true =>
    obtain ⟨μ1, e1, F1, H1⟩ := HH.passThrough hp hd
    have C1 := C.kept F1
    obtain ⟨_, _, em, ⟨a1, a2, a3, a4, a5⟩, L⟩ := H
    have Fk : Fr (fun k j => k = 130 ∧ j = 6) μ1 (dtSI μ1 130 6 (Int32.ofNat (qp Q + 1))) := Fr.SI ⟨rfl, rfl⟩
    refine ⟨_, ?_, (F1.wide (fun k j x => Or.inl (by have : k = h + 8 := x; omega))).tr (Fk.wide (fun k j x => Or.inr (Or.inr (Or.inl ⟨x.1, by omega⟩)))), C1.kept Fk, H1.kept Fk (by intros; omega), em, ⟨?_, ?_, ?_, ?_, ?_⟩, (L.kept F1 (by intros; omega)).kept Fk (by intros; omega)⟩
    · rw [f_X6_pass, HH.rv, o_bind, p_isOp HH hd, hb, o_call, if_neg (by decide), HH.rv, o_bind, e1, o_bind, o_GI C1.s130, o_bind, F1.i (by omega), a5, show (1 : Int32) = Int32.ofNat 1 from rfl, z_add, o_PI C1.s130, o_bind, o_ret1']
    · rw [Fk.i (by omega), F1.i (by omega)]; exact a1
    · rw [Fk.i (by omega), F1.i (by omega)]; exact a2
    · rw [Fk.i (by omega), F1.i (by omega)]; exact a3
    · rw [Fk.i (by omega), F1.i (by omega)]; exact a4
    · rw [m_I_SI, if_pos ⟨rfl, rfl⟩]; rfl
theorem r_draw {μ : dtM} {h : Nat} {A : aH} {m0 : Int32} {Q : aQ} (H : PQ μ h m0 A Q) (hh : h + 12 < 123) (hq : qd Q < 65536) (hd : 0 < hs A 1) : ∃ μ', f_X6_draw 130 (Int32.ofNat (hs A 1)) μ = some (Int32.ofNat (drN A Q), μ') ∧ Fr (Pru h) μ μ' ∧ PQ μ' h m0 A (qDraw Q (drV Q)) := by
  have C := H.c
  have hnd := H.ph.nd
  have hv : (qd Q * 3221 + 11449) % 65536 < 65536 := Nat.mod_lt _ (by decide)
  have ev : drV Q = (qd Q * 3221 + 11449) % 65536 := by unfold drV; rfl
  unfold drN
  rw [ev]
  generalize hx : (qd Q * 3221 + 11449) % 65536 = v at hv
  obtain ⟨_, HH, em, ⟨a1, a2, a3, a4, a5⟩, L⟩ := H
  have Fk : Fr (fun k j => k = 130 ∧ j = 1) μ (dtSI μ 130 1 (Int32.ofNat v)) := Fr.SI ⟨rfl, rfl⟩
  have C1 := C.kept Fk
  refine ⟨_, ?_, Fk.wide (fun k j x => Or.inr (Or.inr (Or.inl ⟨x.1, by omega⟩))), C1, HH.kept Fk (by intros; omega), em, ⟨?_, ?_, ?_, ?_, ?_⟩, L.kept Fk (by intros; omega)⟩
  · rw [f_X6_draw, if_pos (show 0 < Int32.ofNat (hs A 1) by rw [show (0 : Int32) = Int32.ofNat 0 from rfl, z_lt (by decide) (by omega)]; exact hd), o_GI C.s130, o_bind, a1, show (3221 : Int32) = Int32.ofNat 3221 from rfl, show (11449 : Int32) = Int32.ofNat 11449 from rfl, show (65536 : Int32) = Int32.ofNat 65536 from rfl, z_mul, z_add, z_rem (by omega) (by decide), hx, o_bind, o_PI C.s130, o_bind, o_GI C1.s130, o_bind, m_I_SI, if_pos ⟨rfl, rfl⟩, show (8 : Int32) = Int32.ofNat 8 from rfl, z_div (by omega) (by decide), o_bind, z_rem (by omega) (by omega), o_bind]
  · rw [m_I_SI, if_pos ⟨rfl, rfl⟩]; rfl
  · rw [Fk.i (by omega)]; exact a2
  · rw [Fk.i (by omega)]; exact a3
  · rw [Fk.i (by omega)]; exact a4
  · rw [Fk.i (by omega)]; exact a5
theorem r_forget {μ : dtM} {h : Nat} {A : aH} {p : Nat} {m0 : Int32} {Q : aQ} (H : PQ μ h m0 A Q) (hh : h + 12 < 123) (hp : p < hs A 3) : ∃ μ', f_X6_forgetAll h (Int32.ofNat p) μ = some (bI (!decide (ht A 11 p = 0)), μ') ∧ Fr (Pru h) μ μ' ∧ PQ μ' h m0 (if ht A 11 p = 0 then A else hUt A 11 p 0) Q := by
  have HH := H.ph
  have C := H.c
  have h8 := (HH.pers hp).2.2.2.1
  have hnp := HH.np
  by_cases q : ht A 11 p = 0
  · refine ⟨μ, ?_, Fr.rf, ?_⟩
    · rw [f_X6_forgetAll, HH.r17, o_bind, HH.l11 hp, o_bind, q, if_pos (by decide), show (0 : Int32) = Int32.ofNat 0 from rfl, o_ret0']; rfl
    · rw [if_pos q]; exact H
  · have F1 : Fr (fun k _ => (h ≤ k ∧ k ≤ h + 12) ∨ k = 123) μ (dtSI μ (h + 11) p (Int32.ofNat 0)) := Fr.SI (Or.inl ⟨by omega, by omega⟩)
    refine ⟨_, ?_, F1.wide (fun k j x => x.elim (fun y => Or.inl y) (fun y => Or.inr (Or.inl y))), ?_⟩
    · rw [f_X6_forgetAll, HH.r17, o_bind, HH.l11 hp, o_bind, if_neg (show ¬ Int32.ofNat (ht A 11 p) = 0 by rw [show (0 : Int32) = Int32.ofNat 0 from rfl, z_eq (by omega) (by decide)]; exact q), o_bind, show (0 : Int32) = Int32.ofNat 0 from rfl, o_SI HH.s11 (show p < 5 by omega) (by decide), o_bind, show (1 : Int32) = Int32.ofNat 1 from rfl, o_ret1', decide_eq_false q]; rfl
    · rw [if_neg q]
      exact H.hou F1 hh (HH.setH hp (Nat.zero_le _)) rfl
/-- what the program reads of a step -/
theorem PD.g {μ : dtM} {g : Nat} {D : aD} (H : PD μ g D) (S : dSh μ g) (h1 : D.1 = 1) (h60 : dLen D ≤ 60) {k : Nat} (hk : k < dLen D) : (∀ t, t < 6 → opGR 0 (3 + t) μ g = some (g + 1 + t)) ∧ (∀ t, t < 6 → opLI 1 μ (g + 1 + t) (Int32.ofNat k) = some (dtI μ (g + 1 + t) k)) ∧ pdE μ g D k :=
  ⟨fun t ht => o_GR S.1 (S.2.2 t ht), fun t ht => o_LI (S.2.1 t ht) (show k < 60 by omega) (by decide), (H.2 h1).2 k hk⟩
theorem r_act {μ : dtM} {h g : Nat} {A : aH} {D : aD} {m0 : Int32} {Q : aQ} (H : PQ μ h m0 A Q) (hh : h + 12 < 123) (HD : PD μ g D) (S : dSh μ g) (W : dWF A D) (h1 : D.1 = 1) (hq : qd Q < 65536) {k : Nat} (hk : k < dLen D) : ∃ μ', f_X6_act 130 h g 122 (Int32.ofNat k) μ = some (bI (doK A D k Q).1, μ') ∧ Fr (Pru h) μ μ' ∧ PQ μ' h m0 (doK A D k Q).2.1 (doK A D k Q).2.2 := by
  have HH := H.ph
  have C := H.c
  obtain ⟨h60, dk⟩ := W.2 h1
  obtain ⟨c0, c1, c2, c3, c4, c5, c6, c7⟩ := dk k hk
  obtain ⟨R, L, E⟩ := HD.g S h1 h60 hk
  obtain ⟨e0, e1, e2, e3, e4, e5, e6⟩ := E
  have hnd := HH.nd
  have hnp := HH.np
  have st : f_X6_act 130 h g 122 (Int32.ofNat k) μ = (if Int32.ofNat (dd D 0 k) = 4 then (f_X6_act_137 h (dtI μ (g + 3) k) (dtI μ (g + 4) k) μ) else if Int32.ofNat (dd D 0 k) = 15 then (f_X6_act_100 130 h g 122 (Int32.ofNat k) (dtI μ (g + 3) k) (dtI μ (g + 4) k) μ) else if Int32.ofNat (dd D 0 k) = 16 then (f_X6_act_163 130 h (dtI μ (g + 3) k) (dtI μ (g + 4) k) μ) else if Int32.ofNat (dd D 0 k) = 17 then (f_X6_act_192 h (dtI μ (g + 3) k) μ) else if Int32.ofNat (dd D 0 k) = 18 then (f_X6_act_199 130 h 122 μ) else f_X6_act_243 μ) := by
    have r2 : opGR 0 5 μ g = some (g + 3) := R 2 (by decide)
    have r3 : opGR 0 6 μ g = some (g + 4) := R 3 (by decide)
    have r0 : opGR 0 3 μ g = some (g + 1) := R 0 (by decide)
    have l2 : opLI 1 μ (g + 3) (Int32.ofNat k) = some (dtI μ (g + 3) k) := L 2 (by decide)
    have l3 : opLI 1 μ (g + 4) (Int32.ofNat k) = some (dtI μ (g + 4) k) := L 3 (by decide)
    have l0 : opLI 1 μ (g + 1) (Int32.ofNat k) = some (Int32.ofNat (dd D 0 k)) := (L 0 (by decide)).trans (congrArg some e0)
    rw [f_X6_act, r2, o_bind, l2, o_bind, r3, o_bind, l3, o_bind, r0, o_bind, l0, o_bind]
  rw [st]
  unfold doK
  rcases c0 with x | x | x | x | x | x | x | x | x
  · -- open
    have hp := c1 (Or.inr (Or.inl x))
    have hd := c2 (Or.inr (Or.inl x))
    have v1 := e1 (Or.inr (Or.inl x))
    have v2 := e2 (Or.inl (Or.inr (Or.inl x)))
    rw [x, if_pos (by decide), if_neg (by decide), if_pos rfl, v1, v2, f_X6_act_137, HH.rv, o_bind, HH.isAt hp hd, o_call]
    cases ha : hAt A (dd D 1 k) (dd D 2 k)
    · refine ⟨μ, ?_, Fr.rf, ?_⟩
      · rw [if_pos (by decide), f_X6_act_161, f_X6_act_162, show (0 : Int32) = Int32.ofNat 0 from rfl, o_ret0']; rfl
      · exact H
    · obtain ⟨μ', e, F, H'⟩ := r_unshut H hh hd ((hs A 5).testBit (dd D 2 k)) rfl
      refine ⟨μ', ?_, F, ?_⟩
      · rw [if_neg (by decide), e, o_call]
        cases hb : (hs A 5).testBit (dd D 2 k)
        · rw [if_neg (by decide), f_X6_act_162, show (1 : Int32) = Int32.ofNat 1 from rfl, o_ret1']; rfl
        · rw [if_pos (by decide), f_X6_act_161, f_X6_act_162, show (0 : Int32) = Int32.ofNat 0 from rfl, o_ret0']; rfl
      · cases hb : (hs A 5).testBit (dd D 2 k)
        · rw [hb] at H'; exact H'
        · rw [hb] at H'; exact H'
  · -- close
    have hp := c1 (Or.inl x)
    have hd := c2 (Or.inl x)
    have h4 := c3 x
    have v1 := e1 (Or.inl x)
    have v2 := e2 (Or.inl (Or.inl x))
    have v3 := e3 x
    have r4 : opGR 0 7 μ g = some (g + 5) := R 4 (by decide)
    have l4 : opLI 1 μ (g + 5) (Int32.ofNat k) = some (Int32.ofNat (dd D 3 k)) := (L 4 (by decide)).trans (congrArg some v3)
    rw [x, if_neg (by decide), if_pos (by decide), if_pos rfl, v1, v2, f_X6_act_100, HH.rv, o_bind, HH.isAt hp hd, o_call]
    cases ha : hAt A (dd D 1 k) (dd D 2 k)
    · refine ⟨μ, ?_, Fr.rf, ?_⟩
      · rw [if_pos (by decide), f_X6_act_135, f_X6_act_136, show (0 : Int32) = Int32.ofNat 0 from rfl, o_ret0']; rfl
      · exact H
    · obtain ⟨μ', e, F, H'⟩ := r_shutBy (mk := Int32.ofNat (dd D 1 k)) H hh hd h4 ((hs A 5).testBit (dd D 2 k)) rfl
      refine ⟨μ', ?_, F, ?_⟩
      · rw [if_neg (by decide), r4, o_bind, l4, o_bind, o_Rv C.s130, o_bind, e, o_call]
        cases hb : (hs A 5).testBit (dd D 2 k)
        · rw [if_pos (by decide), f_X6_act_135, f_X6_act_136, show (0 : Int32) = Int32.ofNat 0 from rfl, o_ret0']; rfl
        · rw [if_neg (by decide), f_X6_act_136, show (1 : Int32) = Int32.ofNat 1 from rfl, o_ret1']; rfl
      · cases hb : (hs A 5).testBit (dd D 2 k)
        · rw [hb] at H'; exact H'
        · rw [hb] at H'; exact H'
  · -- go
    have hp := c1 (Or.inr (Or.inr (Or.inl x)))
    have hd := c2 (Or.inr (Or.inr x))
    have v1 := e1 (Or.inr (Or.inr (Or.inl x)))
    have v2 := e2 (Or.inl (Or.inr (Or.inr (Or.inl x))))
    rw [x, if_neg (by decide), if_neg (by decide), if_pos (by decide), if_neg (by decide), if_neg (by decide), if_pos rfl, v1, v2, f_X6_act_163, HH.rv, o_bind, HH.isAt hp hd, o_call]
    cases ha : hAt A (dd D 1 k) (dd D 2 k)
    · refine ⟨μ, ?_, Fr.rf, ?_⟩
      · rw [if_pos (by decide), f_X6_act_190, f_X6_act_191, show (0 : Int32) = Int32.ofNat 0 from rfl, o_ret0']; rfl
      · exact H
    · obtain ⟨μ', e, F, H'⟩ := r_pass H hh hp hd ((hs A 5).testBit (dd D 2 k)) rfl
      refine ⟨μ', ?_, F, ?_⟩
      · rw [if_neg (by decide), o_Rv C.s130, o_bind, e, o_call]
        cases hb : (hs A 5).testBit (dd D 2 k)
        · rw [if_pos (by decide), f_X6_act_190, f_X6_act_191, show (0 : Int32) = Int32.ofNat 0 from rfl, o_ret0']; rfl
        · rw [if_neg (by decide), f_X6_act_191, show (1 : Int32) = Int32.ofNat 1 from rfl, o_ret1']; rfl
      · cases hb : (hs A 5).testBit (dd D 2 k)
        · rw [hb] at H'; exact H'
        · rw [hb] at H'; exact H'
  · -- forget
    have hp := c1 (Or.inr (Or.inr (Or.inr (Or.inl x))))
    have v1 := e1 (Or.inr (Or.inr (Or.inr (Or.inl x))))
    rw [x, if_neg (by decide), if_neg (by decide), if_neg (by decide), if_pos (by decide), if_neg (by decide), if_neg (by decide), if_neg (by decide), if_pos rfl, v1, f_X6_act_192]
    obtain ⟨μ', e, F, H'⟩ := r_forget H hh hp
    refine ⟨μ', ?_, F, ?_⟩
    · rw [e, o_call, o_bI]
      by_cases q : ht A 11 (dd D 1 k) = 0
      · rw [if_pos q, decide_eq_true q]; rfl
      · rw [if_neg q, decide_eq_false q]; rfl
    · by_cases q : ht A 11 (dd D 1 k) = 0
      · rw [if_pos q] at H' ⊢; exact H'
      · rw [if_neg q] at H' ⊢; exact H'
  · -- any
    rw [x, if_neg (by decide), if_neg (by decide), if_neg (by decide), if_neg (by decide), if_pos (by decide), if_neg (by decide), if_neg (by decide), if_neg (by decide), if_neg (by decide), if_pos rfl, f_X6_act_199, HH.g1, o_bind, o_Rv C.s130, o_bind]
    by_cases q : hs A 1 = 0
    · refine ⟨μ, ?_, Fr.rf, ?_⟩
      · rw [if_pos q, q, f_X6_draw, if_neg (by decide), o_call, if_pos rfl, f_X6_act_241, f_X6_act_242, show (0 : Int32) = Int32.ofNat 0 from rfl, o_ret0']
      · rw [if_pos q]; exact H
    · obtain ⟨μ1, e1, F1, H1⟩ := r_draw H hh hq (by omega)
      have hd : drN A Q < hs A 1 := Nat.mod_lt _ (by omega)
      have C1 := H1.c
      rw [if_neg q, e1, o_call, if_neg (show ¬ Int32.ofNat (drN A Q) = (-1 : Int32) by rw [show (-1 : Int32) = -Int32.ofNat 1 from rfl, z_neg (by omega)]; exact id), o_Rv C1.s130, o_bind]
      obtain ⟨μ2, e2, F2, H2⟩ := r_shutBy (mk := -Int32.ofNat 1) (s := 0) H1 hh hd (by decide) ((hs A 5).testBit (drN A Q)) rfl
      have e2' : f_X6_shutBy 130 h 122 (-1 : Int32) (Int32.ofNat (drN A Q)) (0 : Int32) μ1 = some (bI ((hs A 5).testBit (drN A Q)), μ2) := e2
      rw [e2', o_call]
      cases hb : (hs A 5).testBit (drN A Q)
      · rw [hb] at H2
        obtain ⟨μ3, e3, F3, H3⟩ := r_unshut H2 hh hd false hb
        refine ⟨μ3, ?_, (F1.tr F2).tr F3, H3⟩
        rw [if_pos (by decide), e3, o_call, if_neg (by decide), f_X6_act_237, f_X6_act_242, show (1 : Int32) = Int32.ofNat 1 from rfl, o_ret1']; rfl
      · rw [hb] at H2
        refine ⟨μ2, ?_, F1.tr F2, H2⟩
        rw [if_neg (by decide), f_X6_act_237, f_X6_act_242, show (1 : Int32) = Int32.ofNat 1 from rfl, o_ret1']; rfl
  all_goals
    rw [x]
    refine ⟨μ, ?_, Fr.rf, H⟩
    rw [if_neg (by decide), if_neg (by decide), if_neg (by decide), if_neg (by decide), if_neg (by decide), f_X6_act_243, show (1 : Int32) = Int32.ofNat 1 from rfl, o_ret1']
    rfl
theorem f_compare {a b : Nat} (ha : a < 2147483648) (hb : b < 2147483648) {μ : dtM} : f_J6_compare_7cf53 (Int32.ofNat a) (Int32.ofNat b) μ = some (if a < b then -Int32.ofNat 1 else if a = b then Int32.ofNat 0 else Int32.ofNat 1, μ) := by
  rw [f_J6_compare_7cf53]
  by_cases h : a < b
  · rw [if_neg (show ¬ Int32.ofNat b ≤ Int32.ofNat a by rw [z_le hb ha]; omega), f_J6_compare_7cf53_19, if_pos h]; rfl
  · rw [if_pos (show Int32.ofNat b ≤ Int32.ofNat a by rw [z_le hb ha]; omega), if_neg h]
    by_cases q : a = b
    · rw [if_pos (show Int32.ofNat a = Int32.ofNat b by rw [q]), f_J6_compare_7cf53_19, if_pos q]; rfl
    · rw [if_neg (show ¬ Int32.ofNat a = Int32.ofNat b by rw [z_eq ha hb]; exact q), f_J6_compare_7cf53_19, if_neg q]; rfl
theorem r_holds {μ : dtM} {h g : Nat} {A : aH} {D : aD} (HH : PH μ h A) (HD : PD μ g D) (S : dSh μ g) (W : dWF A D) (h1 : D.1 = 1) {k : Nat} (hk : k < dLen D) (x : dd D 0 k = 19) : f_X6_holds h g (Int32.ofNat k) μ = some (bI (holdK A D k), μ) := by
  obtain ⟨h60, dk⟩ := W.2 h1
  obtain ⟨c0, c1, c2, c3, c4, c5, c6, c7⟩ := dk k hk
  obtain ⟨R, L, E⟩ := HD.g S h1 h60 hk
  obtain ⟨e0, e1, e2, e3, e4, e5, e6⟩ := E
  have hnd := HH.nd
  have hnr := HH.nr
  have r1 : opGR 0 4 μ g = some (g + 2) := R 1 (by decide)
  have r2 : opGR 0 5 μ g = some (g + 3) := R 2 (by decide)
  have r3 : opGR 0 6 μ g = some (g + 4) := R 3 (by decide)
  have r4 : opGR 0 7 μ g = some (g + 5) := R 4 (by decide)
  have l1 : opLI 1 μ (g + 2) (Int32.ofNat k) = some (Int32.ofNat (dd D 4 k)) := (L 1 (by decide)).trans (congrArg some (e5 x))
  rw [f_X6_holds, r1, o_bind, l1, o_bind]
  unfold holdK
  rcases c4 x with y | y | y
  · have l3 : opLI 1 μ (g + 4) (Int32.ofNat k) = some (Int32.ofNat (dd D 2 k)) := (L 3 (by decide)).trans (congrArg some (e2 (Or.inr (Or.inr ⟨x, y.1⟩))))
    rw [y.1, if_pos (by decide), if_pos rfl, f_X6_holds_58, r3, o_bind, l3, o_bind, HH.rv, o_bind, p_isOp HH y.2, o_call, o_bI]
  · have n4 : ¬ dd D 4 k = 4 := by omega
    have hp := c1 (Or.inr (Or.inr (Or.inr (Or.inr ⟨x, n4⟩))))
    have l2 : opLI 1 μ (g + 3) (Int32.ofNat k) = some (Int32.ofNat (dd D 1 k)) := (L 2 (by decide)).trans (congrArg some (e1 (Or.inr (Or.inr (Or.inr (Or.inr ⟨x, n4⟩))))))
    have l3 : opLI 1 μ (g + 4) (Int32.ofNat k) = some (Int32.ofNat (dd D 2 k)) := (L 3 (by decide)).trans (congrArg some (e2 (Or.inl (Or.inr (Or.inr (Or.inr ⟨x, n4⟩))))))
    have h8 := (HH.pers hp).1
    rw [y.1, if_neg (by decide), if_pos (by decide), if_neg (by decide), if_pos rfl, f_X6_holds_32, HH.r14, o_bind, r2, o_bind, l2, o_bind, HH.l8 hp, o_bind, r3, o_bind, l3, o_bind]
    by_cases q : ht A 8 (dd D 1 k) = dd D 2 k
    · rw [if_pos (show Int32.ofNat (ht A 8 (dd D 1 k)) = Int32.ofNat (dd D 2 k) by rw [q]), f_X6_holds_57, show (1 : Int32) = Int32.ofNat 1 from rfl, o_ret1', decide_eq_true q]
    · rw [if_neg (show ¬ Int32.ofNat (ht A 8 (dd D 1 k)) = Int32.ofNat (dd D 2 k) by rw [z_eq (by omega) (by omega)]; exact q), f_X6_holds_57, show (0 : Int32) = Int32.ofNat 0 from rfl, o_ret0', decide_eq_false q]
  · have n4 : ¬ dd D 4 k = 4 := by omega
    have hp := c1 (Or.inr (Or.inr (Or.inr (Or.inr ⟨x, n4⟩))))
    have l2 : opLI 1 μ (g + 3) (Int32.ofNat k) = some (Int32.ofNat (dd D 1 k)) := (L 2 (by decide)).trans (congrArg some (e1 (Or.inr (Or.inr (Or.inr (Or.inr ⟨x, n4⟩))))))
    have l3 : opLI 1 μ (g + 4) (Int32.ofNat k) = some (Int32.ofNat (dd D 2 k)) := (L 3 (by decide)).trans (congrArg some (e2 (Or.inl (Or.inr (Or.inr (Or.inr ⟨x, n4⟩))))))
    have l4 : opLI 1 μ (g + 5) (Int32.ofNat k) = some (cmpP (dd D 3 k)) := (L 4 (by decide)).trans (congrArg some (e4 ⟨x, y.1⟩))
    have h11 := (HH.pers hp).2.2.2.1
    have y3 := y.2.2
    have st : f_X6_holds_69 h g (Int32.ofNat k) μ = if (if ht A 11 (dd D 1 k) < dd D 2 k then -Int32.ofNat 1 else if ht A 11 (dd D 1 k) = dd D 2 k then Int32.ofNat 0 else Int32.ofNat 1) = cmpP (dd D 3 k) then some (bI true, μ) else some (bI false, μ) := by
      rw [f_X6_holds_69, HH.r17, o_bind, r2, o_bind, l2, o_bind, HH.l11 hp, o_bind, r3, o_bind, l3, o_bind, f_compare (by omega) (by omega), o_call, r4, o_bind, l4, o_bind, f_X6_holds_105, f_X6_holds_105, show (1 : Int32) = Int32.ofNat 1 from rfl, o_ret1', show (0 : Int32) = Int32.ofNat 0 from rfl, o_ret0']
    rw [y.1, if_neg (by decide), if_neg (by decide), if_neg (by decide), if_neg (by decide), st]
    generalize ht A 11 (dd D 1 k) = a
    generalize dd D 2 k = b
    have c3' : dd D 3 k = 0 ∨ dd D 3 k = 1 ∨ dd D 3 k = 2 := by omega
    rcases c3' with z | z | z
    · rw [z, if_pos (show (0 : Nat) = 0 from rfl)]
      by_cases q : a < b
      · rw [if_pos q, if_pos (by decide), decide_eq_true q]
      · rw [if_neg q, decide_eq_false q]
        by_cases q2 : a = b
        · rw [if_pos q2, if_neg (by decide)]
        · rw [if_neg q2, if_neg (by decide)]
    · rw [z, if_neg (show ¬ (1 : Nat) = 0 by decide), if_pos (show (1 : Nat) = 1 from rfl)]
      by_cases q : a < b
      · rw [if_pos q, if_neg (by decide), decide_eq_false (by omega)]
      · rw [if_neg q]
        by_cases q2 : a = b
        · rw [if_pos q2, if_neg (by decide), decide_eq_false (by omega)]
        · rw [if_neg q2, if_pos (by decide), decide_eq_true (by omega)]
    · rw [z, if_neg (show ¬ (2 : Nat) = 0 by decide), if_neg (show ¬ (2 : Nat) = 1 by decide)]
      by_cases q : a < b
      · rw [if_pos q, if_neg (by decide), decide_eq_false (by omega)]
      · rw [if_neg q]
        by_cases q2 : a = b
        · rw [if_pos q2, if_pos (by decide), decide_eq_true q2]
        · rw [if_neg q2, if_neg (by decide), decide_eq_false q2]
