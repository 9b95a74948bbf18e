/-! PURE 9992: the days' text, what it says -/
abbrev aY : Type := (Nat → Nat → Nat) × Nat × Nat × Nat × (Nat → Nat)
def sT (S : aY) (t k : Nat) : Nat := S.1 t k
def sL (S : aY) : Nat := S.2.1
def sC (S : aY) : Nat := S.2.2.1
def sN (S : aY) : Nat := S.2.2.2.1
def sB (S : aY) (i : Nat) : Nat := S.2.2.2.2 i
def s00 : aY := (fun _ _ => 0, 0, 0, 0, fun _ => 0)
abbrev aRw : Type := Nat × Nat × Nat × Nat
def rwV (k : Nat) (v : aRw) (t : Nat) : Nat := if t = 0 then k else if t = 1 then v.1 else if t = 2 then v.2.1 else if t = 3 then v.2.2.1 else if t = 4 then v.2.2.2 else 0
def nstK (k : Nat) : Prop := k = 19 ∨ k = 21
def sAdd (S : aY) (k : Nat) (v : aRw) : aY := (fun t j => if j = sL S then rwV k v t else sT S t j, sL S + 1, sC S + 1, if k = 19 ∨ k = 21 then sN S + 1 else sN S, fun i => if (k = 19 ∨ k = 21) ∧ i = sN S then sL S else sB S i)
def sEnd (S : aY) : aY := (fun t j => if j = sL S then (if t = 0 then 22 else if t = 5 then sB S (sN S - 1) else 0) else if t = 5 ∧ j = sB S (sN S - 1) then sL S else sT S t j, sL S + 1, sC S, sN S - 1, sB S)
def xDr (u : Nat → Nat) (n nd e : Nat) : aX (Nat × Nat) := if lxT u n e = 2 then (if lxV u n e < nd then .ok (lxV u n e, lxE u n e) else .error (flt u n e 4)) else .error (flt u n e 2)
def xCmp (u : Nat → Nat) (n e : Nat) : aX (Nat × Nat) := if lxT u n e = 3 ∧ u (lxF u n e) = 60 then .ok (0, lxE u n e) else if lxT u n e = 3 ∧ u (lxF u n e) = 62 then .ok (1, lxE u n e) else if lxT u n e = 3 ∧ u (lxF u n e) = 61 then .ok (2, lxE u n e) else .error (flt u n e 2)
def xTst (u : Nat → Nat) (n : Nat) (A : aH) (e : Nat) : aX (aRw × Nat) :=
  if lxK u n e = some 12 then xB (xOld u n (hpn A) (hs A 3) (lxE u n e)) (fun p e1 => xB (xOld u n (hrn A) (hs A 0) e1) (fun r e2 => .ok ((p, r, 0, 12), e2)))
  else if lxK u n e = some 4 then xB (xDr u n (hs A 1) (lxE u n e)) (fun d e1 => .ok ((0, d, 0, 4), e1))
  else if lxK u n e = some 20 then xB (xOld u n (hpn A) (hs A 3) (lxE u n e)) (fun p e1 => xB (xCmp u n e1) (fun c e2 => xB (xNum u n 0 8 e2) (fun v e3 => .ok ((p, v, c, 20), e3))))
  else .error (flt u n e 2)
def xRow (u : Nat → Nat) (n : Nat) (A : aH) (k e : Nat) : aX (aRw × Nat) :=
  if k = 15 then xB (xOld u n (hpn A) (hs A 3) e) (fun p e1 => xB (xDr u n (hs A 1) e1) (fun d e2 => xB (xSnd u n e2) (fun s e3 => .ok ((p, d, s, 0), e3))))
  else if k = 4 ∨ k = 16 then xB (xOld u n (hpn A) (hs A 3) e) (fun p e1 => xB (xDr u n (hs A 1) e1) (fun d e2 => .ok ((p, d, 0, 0), e2)))
  else if k = 17 then xB (xOld u n (hpn A) (hs A 3) e) (fun p e1 => .ok ((p, 0, 0, 0), e1))
  else if k = 21 then xB (xNum u n 1 99 e) (fun v e1 => .ok ((0, v, 0, 0), e1))
  else if k = 19 then xTst u n A e
  else .ok ((0, 0, 0, 0), e)
def stK (k : Nat) : Prop := k = 4 ∨ k = 15 ∨ k = 16 ∨ k = 17 ∨ k = 18 ∨ k = 19 ∨ k = 21 ∨ k = 23
def xStk (u : Nat → Nat) (n : Nat) (A : aH) (S : aY) (k e : Nat) : aX (aY × Nat) :=
  if sC S = 30 then .error (flt u n e 6) else if (k = 19 ∨ k = 21) ∧ sN S = 3 then .error (flt u n e 7) else xB (xRow u n A k (lxE u n e)) (fun v e1 => .ok (sAdd S k v, e1))
def xStp (u : Nat → Nat) (n : Nat) (A : aH) (S : aY) (e : Nat) : aX (aY × Nat) := match lxK u n e with
  | none => .error (flt u n e 2)
  | some k => if k = 22 then (if sN S = 0 then .error (flt u n e 2) else .ok (sEnd S, lxE u n e)) else if k = 4 ∨ k = 19 ∨ k = 21 ∨ k = 23 ∨ (15 ≤ k ∧ k ≤ 18) then xStk u n A S k e else .error (flt u n e 2)
def xDl (u : Nat → Nat) (n : Nat) (A : aH) : Nat → aY → Nat → aX (aY × Nat)
  | 0, S, e => .ok (S, e)
  | m + 1, S, e => if lxT u n e = 0 then .ok (S, e) else xB (xEnd u n (xStp u n A S e)) (fun S1 e1 => xDl u n A m S1 e1)
def xDays (u : Nat → Nat) (n : Nat) (A : aH) : aX (aY × Nat) := xB (xDl u n A (n + 1) s00 0) (fun S e => if sN S = 0 then .ok (S, e) else .error (flt u n e 2))
/-! the text goes onward -/
theorem xDr_m {u : Nat → Nat} {n nd e : Nat} : xM (xDr u n nd e) e := xM_if (xM_if (xM_o lx_on) xM_e) xM_e
theorem xCmp_m {u : Nat → Nat} {n e : Nat} : xM (xCmp u n e) e := xM_if (xM_o lx_on) (xM_if (xM_o lx_on) (xM_if (xM_o lx_on) xM_e))
theorem xSnd_s {u : Nat → Nat} {n e v : Nat} (h : sndO (lxK u n e) = some v) : xSnd u n e = .ok (v, lxE u n e) := by
  unfold xSnd
  rw [h]
theorem xSnd_n {u : Nat → Nat} {n e : Nat} (h : sndO (lxK u n e) = none) : xSnd u n e = .error (flt u n e 2) := by
  unfold xSnd
  rw [h]
theorem xSnd_m {u : Nat → Nat} {n e : Nat} : xM (xSnd u n e) e := by
  cases q : sndO (lxK u n e) with
  | none => rw [xSnd_n q]; exact xM_e
  | some v => rw [xSnd_s q]; exact xM_o lx_on
theorem xTst_m {u : Nat → Nat} {n e : Nat} {A : aH} : xM (xTst u n A e) e :=
  xM_if (xM_B (xM_t lx_on xOld_m) (fun p e1 h => xM_B (xM_t h xOld_m) (fun r e2 h2 => xM_o h2)))
    (xM_if (xM_B (xM_t lx_on xDr_m) (fun d e1 h => xM_o h))
      (xM_if (xM_B (xM_t lx_on xOld_m) (fun p e1 h => xM_B (xM_t h xCmp_m) (fun c e2 h2 => xM_B (xM_t h2 xNum_m) (fun v e3 h3 => xM_o h3)))) xM_e))
theorem xRow_m {u : Nat → Nat} {n k e : Nat} {A : aH} : xM (xRow u n A k e) e :=
  xM_if (xM_B xOld_m (fun p e1 h => xM_B (xM_t h xDr_m) (fun d e2 h2 => xM_B (xM_t h2 xSnd_m) (fun s e3 h3 => xM_o h3))))
    (xM_if (xM_B xOld_m (fun p e1 h => xM_B (xM_t h xDr_m) (fun d e2 h2 => xM_o h2)))
      (xM_if (xM_B xOld_m (fun p e1 h => xM_o h))
        (xM_if (xM_B xNum_m (fun v e1 h => xM_o h)) (xM_if xTst_m (xM_o (Nat.le_refl _))))))
theorem xStk_m {u : Nat → Nat} {n k e : Nat} {A : aH} {S : aY} : xM (xStk u n A S k e) e := xM_if xM_e (xM_if xM_e (xM_B (xM_t lx_on xRow_m) (fun v e1 h => xM_o h)))
theorem xStp_m {u : Nat → Nat} {n e : Nat} {A : aH} {S : aY} : xM (xStp u n A S e) e := by
  unfold xStp
  cases lxK u n e with
  | none => exact xM_e
  | some k => exact xM_if (xM_if xM_e (xM_o lx_on)) (xM_if xStk_m xM_e)
/-! what a row's numbers can be -/
def rWho (r : Nat → Nat) : Prop := r 0 = 15 ∨ r 0 = 4 ∨ r 0 = 16 ∨ r 0 = 17 ∨ (r 0 = 19 ∧ ¬ r 4 = 4)
def rTwo (r : Nat → Nat) : Prop := r 0 = 15 ∨ r 0 = 4 ∨ r 0 = 16 ∨ (r 0 = 19 ∧ ¬ r 4 = 4)
def rOne (r : Nat → Nat) : Prop := r 0 = 21 ∨ (r 0 = 19 ∧ r 4 = 4)
def rkW (A : aH) (r : Nat → Nat) : Prop :=
  (rWho r → r 1 < hs A 3) ∧ (r 0 = 15 ∨ r 0 = 4 ∨ r 0 = 16 → r 2 < hs A 1) ∧ (r 0 = 15 → r 3 < 4) ∧
  (r 0 = 19 → (r 4 = 4 ∧ r 2 < hs A 1) ∨ (r 4 = 12 ∧ r 2 < hs A 0) ∨ (r 4 = 20 ∧ r 2 ≤ 8 ∧ r 3 < 3)) ∧
  (r 0 = 21 → 1 ≤ r 2 ∧ r 2 ≤ 99)
theorem rw0 {k : Nat} {v : aRw} : rwV k v 0 = k := rfl
theorem rw1 {k : Nat} {v : aRw} : rwV k v 1 = v.1 := rfl
theorem rw2 {k : Nat} {v : aRw} : rwV k v 2 = v.2.1 := rfl
theorem rw3 {k : Nat} {v : aRw} : rwV k v 3 = v.2.2.1 := rfl
theorem rw4 {k : Nat} {v : aRw} : rwV k v 4 = v.2.2.2 := rfl
theorem xDr_lt {u : Nat → Nat} {n nd e : Nat} {y : Nat × Nat} (h : xDr u n nd e = .ok y) : y.1 < nd := by
  unfold xDr at h
  by_cases q : lxT u n e = 2
  · rw [if_pos q] at h
    by_cases r : lxV u n e < nd
    · rw [if_pos r] at h
      rw [← Except.ok.inj h]; exact r
    · rw [if_neg r] at h; exact absurd h (fun x => nomatch x)
  · rw [if_neg q] at h; exact absurd h (fun x => nomatch x)
theorem xCmp_lt {u : Nat → Nat} {n e : Nat} {y : Nat × Nat} (h : xCmp u n e = .ok y) : y.1 < 3 := by
  unfold xCmp at h
  by_cases a : lxT u n e = 3 ∧ u (lxF u n e) = 60
  · rw [if_pos a] at h
    rw [← Except.ok.inj h]; exact (by decide : 0 < 3)
  · rw [if_neg a] at h
    by_cases b : lxT u n e = 3 ∧ u (lxF u n e) = 62
    · rw [if_pos b] at h
      rw [← Except.ok.inj h]; exact (by decide : 1 < 3)
    · rw [if_neg b] at h
      by_cases c : lxT u n e = 3 ∧ u (lxF u n e) = 61
      · rw [if_pos c] at h
        rw [← Except.ok.inj h]; exact (by decide : 2 < 3)
      · rw [if_neg c] at h; exact absurd h (fun x => nomatch x)
theorem xSnd_lt {u : Nat → Nat} {n e : Nat} {y : Nat × Nat} (h : xSnd u n e = .ok y) : y.1 < 4 := by
  cases q : sndO (lxK u n e) with
  | none => rw [xSnd_n q] at h; exact absurd h (fun x => nomatch x)
  | some v =>
    rw [xSnd_s q] at h
    rw [← Except.ok.inj h]; exact sndO_lt q
theorem xB_ok {α β : Type} {r : aX (α × Nat)} {f : α → Nat → aX β} {y : β} (h : xB r f = .ok y) : ∃ a, r = .ok a ∧ f a.1 a.2 = .ok y := by
  cases r with
  | error x => exact absurd h (fun x => nomatch x)
  | ok a => exact ⟨a, rfl, h⟩
theorem xTst_W {u : Nat → Nat} {n e : Nat} {A : aH} {y : aRw × Nat} (h : xTst u n A e = .ok y) : rkW A (rwV 19 y.1) := by
  unfold xTst at h
  unfold rkW rWho
  rw [rw0, rw1, rw2, rw3, rw4]
  by_cases a : lxK u n e = some 12
  · rw [if_pos a] at h
    obtain ⟨p, hp, h⟩ := xB_ok h
    obtain ⟨r, hr, h⟩ := xB_ok h
    rw [← Except.ok.inj h]
    have q1 := xOld_lt hp
    have q2 := xOld_lt hr
    exact ⟨fun _ => q1, fun x => by omega, fun x => by omega, fun _ => Or.inr (Or.inl ⟨rfl, q2⟩), fun x => by omega⟩
  · rw [if_neg a] at h
    by_cases b : lxK u n e = some 4
    · rw [if_pos b] at h
      obtain ⟨d, hd, h⟩ := xB_ok h
      rw [← Except.ok.inj h]
      have q1 := xDr_lt hd
      exact ⟨fun x => by
        rcases x with x | x | x | x | x
        · omega
        · omega
        · omega
        · omega
        · exact absurd rfl x.2, fun x => by omega, fun x => by omega, fun _ => Or.inl ⟨rfl, q1⟩, fun x => by omega⟩
    · rw [if_neg b] at h
      by_cases c : lxK u n e = some 20
      · rw [if_pos c] at h
        obtain ⟨p, hp, h⟩ := xB_ok h
        obtain ⟨r, hr, h⟩ := xB_ok h
        obtain ⟨v, hv, h⟩ := xB_ok h
        rw [← Except.ok.inj h]
        have q1 := xOld_lt hp
        have q2 := xCmp_lt hr
        have q3 := (xNum_le hv).1
        exact ⟨fun _ => q1, fun x => by omega, fun x => by omega, fun _ => Or.inr (Or.inr ⟨rfl, q3, q2⟩), fun x => by omega⟩
      · rw [if_neg c] at h; exact absurd h (fun x => nomatch x)
theorem xRow_W {u : Nat → Nat} {n k e : Nat} {A : aH} {y : aRw × Nat} (h : xRow u n A k e = .ok y) : rkW A (rwV k y.1) := by
  unfold xRow at h
  by_cases a : k = 15
  · rw [if_pos a] at h
    obtain ⟨p, hp, h⟩ := xB_ok h
    obtain ⟨d, hd, h⟩ := xB_ok h
    obtain ⟨s, hs', h⟩ := xB_ok h
    rw [← Except.ok.inj h]
    have q1 := xOld_lt hp
    have q2 := xDr_lt hd
    have q3 := xSnd_lt hs'
    unfold rkW rWho
    rw [rw0, rw1, rw2, rw3, rw4, a]
    exact ⟨fun _ => q1, fun _ => q2, fun _ => q3, fun x => by omega, fun x => by omega⟩
  · rw [if_neg a] at h
    by_cases b : k = 4 ∨ k = 16
    · rw [if_pos b] at h
      obtain ⟨p, hp, h⟩ := xB_ok h
      obtain ⟨d, hd, h⟩ := xB_ok h
      rw [← Except.ok.inj h]
      have q1 := xOld_lt hp
      have q2 := xDr_lt hd
      unfold rkW rWho
      rw [rw0, rw1, rw2, rw3, rw4]
      exact ⟨fun _ => q1, fun _ => q2, fun x => by omega, fun x => by omega, fun x => by omega⟩
    · rw [if_neg b] at h
      by_cases c : k = 17
      · rw [if_pos c] at h
        obtain ⟨p, hp, h⟩ := xB_ok h
        rw [← Except.ok.inj h]
        have q1 := xOld_lt hp
        unfold rkW rWho
        rw [rw0, rw1, rw2, rw3, rw4]
        exact ⟨fun _ => q1, fun x => by omega, fun x => by omega, fun x => by omega, fun x => by omega⟩
      · rw [if_neg c] at h
        by_cases d : k = 21
        · rw [if_pos d] at h
          obtain ⟨v, hv, h⟩ := xB_ok h
          rw [← Except.ok.inj h]
          have q1 := xNum_le hv
          unfold rkW rWho
          rw [rw0, rw1, rw2, rw3, rw4]
          exact ⟨fun x => by omega, fun x => by omega, fun x => by omega, fun x => by omega, fun _ => ⟨q1.2, q1.1⟩⟩
        · rw [if_neg d] at h
          by_cases f : k = 19
          · rw [if_pos f] at h
            rw [f]; exact xTst_W h
          · unfold rkW rWho
            rw [rw0, rw1, rw2, rw3, rw4]
            exact ⟨fun x => by omega, fun x => by omega, fun x => by omega, fun x => by omega, fun x => by omega⟩
