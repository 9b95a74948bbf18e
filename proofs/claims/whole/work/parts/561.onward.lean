/-! PURE 992: a text goes onward -/
def xM {α : Type} (r : aX (α × Nat)) (e : Nat) : Prop := ∀ y, r = .ok y → e ≤ y.2
theorem lx_on {u : Nat → Nat} {n e : Nat} : e ≤ lxE u n e := Nat.le_trans lxF_ge lxE_ge
theorem xM_e {α : Type} {x : Nat × Nat} {e : Nat} : xM (.error x : aX (α × Nat)) e := fun _ h => absurd h (fun x => nomatch x)
theorem xM_o {α : Type} {a : α} {e e1 : Nat} (h : e ≤ e1) : xM (.ok (a, e1) : aX (α × Nat)) e := fun y hy => by
  have z : (a, e1) = y := Except.ok.inj hy
  rw [← z]; exact h
theorem xM_t {α : Type} {r : aX (α × Nat)} {e e1 : Nat} (h : e ≤ e1) (m : xM r e1) : xM r e := fun y hy => Nat.le_trans h (m y hy)
theorem xM_B {α β : Type} {r : aX (α × Nat)} {f : α → Nat → aX (β × Nat)} {e : Nat} (m : xM r e) (g : ∀ a e1, e ≤ e1 → xM (f a e1) e) : xM (xB r f) e := by
  cases r with
  | error x => exact xM_e
  | ok y => exact g y.1 y.2 (m y rfl)
theorem xM_K {β : Type} {u : Nat → Nat} {n k e0 e : Nat} {f : Nat → aX (β × Nat)} (h : e ≤ e0) (g : ∀ e1, e ≤ e1 → xM (f e1) e) : xM (xS1 (xKey u n k e0) f) e := by
  cases r : xKey u n k e0 with
  | error x => exact xM_e
  | ok y => exact g y (by rw [xKey_ok r]; exact Nat.le_trans h lx_on)
theorem xM_if {α : Type} {c : Prop} [Decidable c] {a b : aX (α × Nat)} {e : Nat} (x : xM a e) (y : xM b e) : xM (if c then a else b) e := by
  by_cases h : c
  · rw [if_pos h]; exact x
  · rw [if_neg h]; exact y
theorem xOld_m {u : Nat → Nat} {n many e : Nat} {N : Nat → List Nat} : xM (xOld u n N many e) e := by
  cases hn : lxN u n e with
  | none => rw [xOld_0 hn]; exact xM_e
  | some l =>
    cases hf : fnd N l many 0 with
    | none => rw [xOld_1 hn hf]; exact xM_e
    | some i => rw [xOld_2 hn hf]; exact xM_o lx_on
theorem xFind_m {u : Nat → Nat} {n many e : Nat} {N : Nat → List Nat} : xM (xFind u n N many e) e := by
  cases hn : lxN u n e with
  | none => rw [xFind_0 hn]; exact xM_e
  | some l =>
    cases hf : fnd N l many 0 with
    | none => rw [xFind_1 hn hf]; exact xM_e
    | some i => rw [xFind_2 hn hf]; exact xM_o (Nat.le_refl _)
theorem xNum_m {u : Nat → Nat} {n lo hi e : Nat} : xM (xNum u n lo hi e) e := xM_if (xM_if (xM_o lx_on) xM_e) xM_e
theorem xNew_m {u : Nat → Nat} {n e : Nat} {A : aH} {wn : Nat → List Nat} : xM (xNew u n A wn e) e := by
  cases hn : lxN u n e with
  | none => rw [xNew_0 hn]; exact xM_e
  | some l =>
    by_cases q : tkn A wn l = true
    · rw [xNew_1 hn q]; exact xM_e
    · rw [xNew_2 hn q]; exact xM_o lx_on
theorem xNw_m {u : Nat → Nat} {n q mx e : Nat} {A : aH} {wn : Nat → List Nat} : xM (xNw u n A wn q mx e) e := xM_if xM_e (xM_t lx_on xNew_m)
theorem xCho_m {u : Nat → Nat} {n k hi e : Nat} : xM (xCho u n k hi e) e := xM_if (xM_t lx_on xNum_m) (xM_o (Nat.le_refl _))
theorem xTwo_m {u : Nat → Nat} {n many a e : Nat} {N : Nat → List Nat} : xM (xTwo u n N many a e) e := xM_B xFind_m (fun b e1 h => xM_if xM_e (xM_o (Nat.le_trans h lx_on)))
theorem xKs_m {u : Nat → Nat} {n nw : Nat} {wn : Nat → List Nat} : ∀ (m kn e : Nat), xM (xKs u n wn nw m kn e) e
  | 0, kn, e => xM_o (Nat.le_refl _)
  | m + 1, kn, e => by
    cases hn : lxN u n e with
    | none => rw [xKs_n hn]; exact xM_o (Nat.le_refl _)
    | some l =>
      cases hf : fnd wn l nw 0 with
      | none => rw [xKs_f hn hf]; exact xM_e
      | some w => rw [xKs_s hn hf]; exact xM_if xM_e (xM_t lx_on (xKs_m m _ _))
theorem xKn_m {u : Nat → Nat} {n nw e : Nat} {wn : Nat → List Nat} : xM (xKn u n wn nw e) e := xM_if (xM_t lx_on (xKs_m 8 0 _)) (xM_o (Nat.le_refl _))
theorem xSs_m {u : Nat → Nat} {n : Nat} : ∀ (m k e : Nat) (s : Nat → Nat), xM (xSs u n m k s e) e
  | 0, k, e, s => by
    cases q : sndO (lxK u n e) with
    | none => rw [xSs_n q]; exact xM_o (Nat.le_refl _)
    | some v => rw [xSs_0 q]; exact xM_e
  | m + 1, k, e, s => by
    cases q : sndO (lxK u n e) with
    | none => rw [xSs_n q]; exact xM_o (Nat.le_refl _)
    | some v => rw [xSs_s q]; exact xM_t lx_on (xSs_m m _ _ _)
theorem xSn_m {u : Nat → Nat} {n e : Nat} : xM (xSn u n e) e := by
  cases q : sndO (lxK u n e) with
  | none => rw [xSn_0 q]; exact xM_e
  | some v => rw [xSn_1 q]; exact xM_t lx_on (xSs_m 3 1 _ _)
theorem xRoom_m {u : Nat → Nat} {n e : Nat} {A : aH} {wn : Nat → List Nat} : xM (xRoom u n A wn e) e := xM_B xNw_m (fun l e1 h => xM_o h)
theorem xOpn_m {u : Nat → Nat} {n e : Nat} : e ≤ (xOpn u n e).2 := by
  unfold xOpn
  by_cases q : lxK u n e = some 4
  · rw [if_pos q]; exact lx_on
  · rw [if_neg q]; exact Nat.le_refl _
theorem xDoor_m {u : Nat → Nat} {n e : Nat} {A : aH} {wn : Nat → List Nat} : xM (xDoor u n A wn e) e := xM_if xM_e (xM_B (xM_t lx_on xOld_m) (fun a e1 h => xM_B (xM_t h xTwo_m) (fun b e2 h2 => xM_B (xM_t h2 xCho_m) (fun z e3 h3 => xM_o (Nat.le_trans h3 xOpn_m)))))
theorem xWe_m {u : Nat → Nat} {n e : Nat} {A : aH} {wn : Nat → List Nat} {l : List Nat} {ks : Nat × (Nat → Nat)} : xM (xWe u n A wn l ks e) e := xM_if (xM_if xM_e (xM_o (Nat.le_refl _))) xM_e
theorem xWord_m {u : Nat → Nat} {n e : Nat} {A : aH} {wn : Nat → List Nat} : xM (xWord u n A wn e) e := xM_B xNw_m (fun l e1 h => xM_K h (fun e2 h2 => xM_B (xM_t h2 xSn_m) (fun ks e3 h3 => xM_t h3 xWe_m)))
theorem xPers_m {u : Nat → Nat} {n e : Nat} {A : aH} {wn : Nat → List Nat} : xM (xPers u n A wn e) e := xM_B xNw_m (fun l e1 h => xM_K h (fun e2 h2 => xM_B (xM_t h2 xOld_m) (fun rm e3 h3 => xM_B (xM_t h3 xCho_m) (fun df e4 h4 => xM_B (xM_t h4 xKn_m) (fun kn e5 h5 => xM_o h5)))))
theorem xOdds_m {u : Nat → Nat} {n e : Nat} {A : aH} {wn : Nat → List Nat} {od : Bool} : xM (xOdds u n A wn od e) e := xM_if xM_e (xM_B (xM_t lx_on xNum_m) (fun v e1 h => xM_o h))
/-- a part that is told, by its first word -/
def xPart (u : Nat → Nat) (n : Nat) (A : aH) (wn : Nat → List Nat) (od : Bool) (e : Nat) : aX ((aH × (Nat → List Nat)) × Nat) :=
  if lxK u n e = some 0 then xOdds u n A wn od e else if lxK u n e = some 1 then xRoom u n A wn e else if lxK u n e = some 2 then xDoor u n A wn e else if lxK u n e = some 5 then xWord u n A wn e else if lxK u n e = some 11 then xPers u n A wn e else .error (flt u n e 2)
theorem xPart_m {u : Nat → Nat} {n e : Nat} {A : aH} {wn : Nat → List Nat} {od : Bool} : xM (xPart u n A wn od e) e := xM_if xOdds_m (xM_if xRoom_m (xM_if xDoor_m (xM_if xWord_m (xM_if xPers_m xM_e))))
theorem xEnd_on {α : Type} {u : Nat → Nat} {n e : Nat} {r : aX (α × Nat)} {y : α × Nat} (m : xM r e) (h : xEnd u n r = .ok y) : e < y.2 := by
  cases r with
  | error x => exact absurd h (fun x => nomatch x)
  | ok z =>
    have hz := m z rfl
    unfold xEnd at h
    rw [xB_o] at h
    unfold xSign at h
    by_cases q : lxT u n z.2 = 3 ∧ u (lxF u n z.2) = 59
    · rw [if_pos q] at h
      have e' : (z.1, lxE u n z.2) = y := Except.ok.inj h
      rw [← e']
      have g := lxE_gt (tx := u) (n := n) (e := z.2) (fun x => by
        have := Eq.mpr lxT_0 x
        omega)
      have f := lxF_ge (tx := u) (n := n) (e := z.2)
      show e < lxE u n z.2
      omega
    · rw [if_neg q] at h; exact absurd h (fun x => nomatch x)
/-- the parts of a house, till the text is over -/
def xLp (u : Nat → Nat) (n : Nat) : Nat → aH → (Nat → List Nat) → Bool → Nat → aX ((aH × (Nat → List Nat)) × Nat)
  | 0, A, wn, _, e => .ok ((A, wn), e)
  | m + 1, A, wn, od, e => if lxT u n e = 0 then .ok ((A, wn), e) else xB (xEnd u n (xPart u n A wn od e)) (fun a e1 => xLp u n m a.1 a.2 (od || decide (lxK u n e = some 0)) e1)
