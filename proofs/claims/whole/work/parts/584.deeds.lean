/-! PURE 99997: the start: what is made, as a list of deeds, the latest first -/
abbrev aE : Type := Nat × Nat × Nat × Nat
/-- 0 a new cell (its room, its shape), 1 a reference, 2 an int, 3 a long, else -1 -/
def evA : aE → dtM → dtM
  | (0, z, t, n), μ => dtNew μ (t, n) z
  | (1, k, j, v), μ => dtSR μ k j (some v)
  | (2, k, j, v), μ => dtSI μ k j (Int32.ofNat v)
  | (3, k, j, v), μ => dtSJ μ k j (Int64.ofNat v)
  | (_ + 4, k, j, _), μ => dtSI μ k j (-Int32.ofNat 1)
def evM (L : Nat) (xs : Nat → Int32) : List aE → dtM
  | [] => dtMu0 L xs
  | e :: c => evA e (evM L xs c)
def evN : List aE → Nat
  | [] => 0
  | (0, _, _, _) :: c => evN c + 1
  | (_ + 1, _, _, _) :: c => evN c
def evZ : List aE → Nat
  | [] => 0
  | (0, z, _, _) :: c => evZ c + z
  | (_ + 1, _, _, _) :: c => evZ c
def evS : List aE → Nat → Nat × Nat
  | [], _ => (7, 0)
  | (0, _, t, n) :: c, k => if k = evN c then (t, n) else evS c k
  | (_ + 1, _, _, _) :: c, k => evS c k
def evR : List aE → Nat → Nat → Option Nat
  | [], _, _ => none
  | (0, _, _, _) :: c, k, j => if k = evN c then none else evR c k j
  | (1, k', j', v) :: c, k, j => if k = k' ∧ j = j' then some v else evR c k j
  | (_ + 2, _, _, _) :: c, k, j => evR c k j
def evI : List aE → Nat → Nat → Int32
  | [], _, _ => Int32.ofNat 0
  | (0, _, _, _) :: c, k, j => if k = evN c then Int32.ofNat 0 else evI c k j
  | (1, _, _, _) :: c, k, j => evI c k j
  | (2, k', j', v) :: c, k, j => if k = k' ∧ j = j' then Int32.ofNat v else evI c k j
  | (3, _, _, _) :: c, k, j => evI c k j
  | (_ + 4, k', j', _) :: c, k, j => if k = k' ∧ j = j' then -Int32.ofNat 1 else evI c k j
def evJ : List aE → Nat → Nat → Int64
  | [], _, _ => Int64.ofNat 0
  | (0, _, _, _) :: c, k, j => if k = evN c then Int64.ofNat 0 else evJ c k j
  | (1, _, _, _) :: c, k, j => evJ c k j
  | (2, _, _, _) :: c, k, j => evJ c k j
  | (3, k', j', v) :: c, k, j => if k = k' ∧ j = j' then Int64.ofNat v else evJ c k j
  | (_ + 4, _, _, _) :: c, k, j => evJ c k j
/-- no int is laid where the script lies -/
def evG : List aE → Bool
  | [] => true
  | (0, _, _, _) :: c => decide (evN c < 900000) && evG c
  | (1, _, _, _) :: c => evG c
  | (2, k, _, _) :: c => decide (k < 1000000) && evG c
  | (3, _, _, _) :: c => evG c
  | (_ + 4, k, _, _) :: c => decide (k < 1000000) && evG c
theorem ev_N {L : Nat} {xs : Nat → Int32} : ∀ c : List aE, dtN (evM L xs c) = evN c
  | [] => rfl
  | (0, z, t, n) :: c => by
    show dtN (evM L xs c) + 1 = evN c + 1
    rw [ev_N c]
  | (1, _, _, _) :: c => ev_N c
  | (2, _, _, _) :: c => ev_N c
  | (3, _, _, _) :: c => ev_N c
  | (_ + 4, _, _, _) :: c => ev_N c
theorem ev_Z {L : Nat} {xs : Nat → Int32} : ∀ c : List aE, dtZ (evM L xs c) = evZ c
  | [] => rfl
  | (0, z, t, n) :: c => by
    show dtZ (evM L xs c) + z = evZ c + z
    rw [ev_Z c]
  | (1, _, _, _) :: c => ev_Z c
  | (2, _, _, _) :: c => ev_Z c
  | (3, _, _, _) :: c => ev_Z c
  | (_ + 4, _, _, _) :: c => ev_Z c
theorem ev_S {L : Nat} {xs : Nat → Int32} {k : Nat} (hk : ¬ k = 1000000) : ∀ c : List aE, dtS (evM L xs c) k = evS c k
  | [] => if_neg hk
  | (0, z, t, n) :: c => by
    show (if k = dtN (evM L xs c) then (t, n) else dtS (evM L xs c) k) = if k = evN c then (t, n) else evS c k
    rw [ev_N c, ev_S hk c]
  | (1, _, _, _) :: c => ev_S hk c
  | (2, _, _, _) :: c => ev_S hk c
  | (3, _, _, _) :: c => ev_S hk c
  | (_ + 4, _, _, _) :: c => ev_S hk c
theorem ev_R {L : Nat} {xs : Nat → Int32} {k j : Nat} : ∀ c : List aE, dtR (evM L xs c) k j = evR c k j
  | [] => rfl
  | (0, z, t, n) :: c => by
    show dtRow (dtR (evM L xs c)) (dtN (evM L xs c)) (fun _ => none) k j = if k = evN c then none else evR c k j
    unfold dtRow
    rw [ev_N c]
    by_cases q : k = evN c
    · rw [if_pos q, if_pos q]
    · rw [if_neg q, if_neg q, ev_R c]
  | (1, k', j', v) :: c => by
    show dtR (dtSR (evM L xs c) k' j' (some v)) k j = if k = k' ∧ j = j' then some v else evR c k j
    rw [m_R_SR, ev_R c]
  | (2, _, _, _) :: c => ev_R c
  | (3, _, _, _) :: c => ev_R c
  | (_ + 4, _, _, _) :: c => ev_R c
theorem ev_I {L : Nat} {xs : Nat → Int32} {k j : Nat} (hk : ¬ k = 1000000) : ∀ c : List aE, dtI (evM L xs c) k j = evI c k j
  | [] => congrFun (if_neg hk) j
  | (0, z, t, n) :: c => by
    show dtRow (dtI (evM L xs c)) (dtN (evM L xs c)) (fun _ => 0) k j = if k = evN c then Int32.ofNat 0 else evI c k j
    unfold dtRow
    rw [ev_N c]
    by_cases q : k = evN c
    · rw [if_pos q, if_pos q]; rfl
    · rw [if_neg q, if_neg q, ev_I hk c]
  | (1, _, _, _) :: c => ev_I hk c
  | (2, k', j', v) :: c => by
    show dtI (dtSI (evM L xs c) k' j' (Int32.ofNat v)) k j = if k = k' ∧ j = j' then Int32.ofNat v else evI c k j
    rw [m_I_SI, ev_I hk c]
  | (3, _, _, _) :: c => ev_I hk c
  | (_ + 4, k', j', v) :: c => by
    show dtI (dtSI (evM L xs c) k' j' (-Int32.ofNat 1)) k j = if k = k' ∧ j = j' then -Int32.ofNat 1 else evI c k j
    rw [m_I_SI, ev_I hk c]
theorem ev_J {L : Nat} {xs : Nat → Int32} {k j : Nat} : ∀ c : List aE, dtJ (evM L xs c) k j = evJ c k j
  | [] => rfl
  | (0, z, t, n) :: c => by
    show dtRow (dtJ (evM L xs c)) (dtN (evM L xs c)) (fun _ => 0) k j = if k = evN c then Int64.ofNat 0 else evJ c k j
    unfold dtRow
    rw [ev_N c]
    by_cases q : k = evN c
    · rw [if_pos q, if_pos q]; rfl
    · rw [if_neg q, if_neg q, ev_J c]
  | (1, _, _, _) :: c => ev_J c
  | (2, _, _, _) :: c => ev_J c
  | (3, k', j', v) :: c => by
    show dtJ (dtSJ (evM L xs c) k' j' (Int64.ofNat v)) k j = if k = k' ∧ j = j' then Int64.ofNat v else evJ c k j
    rw [m_J_SJ, ev_J c]
  | (_ + 4, _, _, _) :: c => ev_J c
theorem ev_X {L : Nat} {xs : Nat → Int32} : ∀ c : List aE, evG c = true → dtS (evM L xs c) 1000000 = (8, L) ∧ dtI (evM L xs c) 1000000 = xs
  | [], _ => ⟨rfl, rfl⟩
  | (0, z, t, n) :: c, h => by
    rw [evG, Bool.and_eq_true, decide_eq_true_iff] at h
    obtain ⟨a, b⟩ := ev_X c h.2
    have ne : ¬ 1000000 = dtN (evM L xs c) := by rw [ev_N]; omega
    refine ⟨?_, ?_⟩
    · show (if 1000000 = dtN (evM L xs c) then (t, n) else dtS (evM L xs c) 1000000) = (8, L)
      rw [if_neg ne]; exact a
    · show dtRow (dtI (evM L xs c)) (dtN (evM L xs c)) (fun _ => 0) 1000000 = xs
      unfold dtRow
      rw [if_neg ne]; exact b
  | (1, _, _, _) :: c, h => ev_X c h
  | (2, k', j', v) :: c, h => by
    rw [evG, Bool.and_eq_true, decide_eq_true_iff] at h
    obtain ⟨a, b⟩ := ev_X c h.2
    refine ⟨a, ?_⟩
    funext j
    show dtI (dtSI (evM L xs c) k' j' (Int32.ofNat v)) 1000000 j = xs j
    rw [m_I_SI, if_neg (by omega), b]
  | (3, _, _, _) :: c, h => ev_X c h
  | (_ + 4, k', j', v) :: c, h => by
    rw [evG, Bool.and_eq_true, decide_eq_true_iff] at h
    obtain ⟨a, b⟩ := ev_X c h.2
    refine ⟨a, ?_⟩
    funext j
    show dtI (dtSI (evM L xs c) k' j' (-Int32.ofNat 1)) 1000000 j = xs j
    rw [m_I_SI, if_neg (by omega), b]
/-! the deeds of the code -/
theorem b_New {L : Nat} {xs : Nat → Int32} {c : List aE} {ci N : Nat} (hN : evN c = N) (h : N < 900000) : opNew ci (evM L xs c) = some (N, evM L xs ((0, (dtC ci).2.2, 0, ci) :: c)) := by
  unfold opNew
  rw [ev_N c, hN, if_pos h]; rfl
theorem b_NA {L : Nat} {xs : Nat → Int32} {c : List aE} {t n N : Nat} (hN : evN c = N) (h : N < 900000) (hn : n ≤ 100000) : opNA t (evM L xs c) (Int32.ofNat n) = some (N, evM L xs ((0, n, t, n) :: c)) := by
  unfold opNA
  rw [ev_N c, hN, z_cl (show n < 2147483648 by omega), if_pos ⟨h, by rw [show (0 : Int32) = Int32.ofNat 0 from rfl, z_lt0 (by omega)]; exact id, hn⟩]; rfl
theorem b_PR {L : Nat} {xs : Nat → Int32} {c : List aE} {ci j k v : Nat} (hk : k < 1000000) (hs' : evS c k = (0, ci)) (hv : v < 1000000) : opPR ci j (evM L xs c) k v = some (evM L xs ((1, k, j, v) :: c)) := o_PR (by rw [ev_S (by omega)]; exact hs') hv
theorem b_PI {L : Nat} {xs : Nat → Int32} {c : List aE} {ci j k v : Nat} (hk : k < 1000000) (hs' : evS c k = (0, ci)) : opPI ci j (evM L xs c) k (Int32.ofNat v) = some (evM L xs ((2, k, j, v) :: c)) := o_PI (by rw [ev_S (by omega)]; exact hs')
theorem b_PM {L : Nat} {xs : Nat → Int32} {c : List aE} {ci j k : Nat} (hk : k < 1000000) (hs' : evS c k = (0, ci)) : opPI ci j (evM L xs c) k (-Int32.ofNat 1) = some (evM L xs ((4, k, j, 0) :: c)) := o_PI (by rw [ev_S (by omega)]; exact hs')
theorem b_PJ {L : Nat} {xs : Nat → Int32} {c : List aE} {ci j k v : Nat} (hk : k < 1000000) (hs' : evS c k = (0, ci)) : opPJ ci j (evM L xs c) k (Int64.ofNat v) = some (evM L xs ((3, k, j, v) :: c)) := o_PJ (by rw [ev_S (by omega)]; exact hs')
theorem b_SM {L : Nat} {xs : Nat → Int32} {c : List aE} {i k n : Nat} (hk : k < 1000000) (hs' : evS c k = (1, n)) (hi : i < n) (hn : n < 2147483648) : opSI (evM L xs c) k (Int32.ofNat i) (-Int32.ofNat 1) = some (evM L xs ((4, k, i, 0) :: c)) := o_SI (by rw [ev_S (by omega)]; exact hs') hi hn
theorem b_GR {L : Nat} {xs : Nat → Int32} {c : List aE} {ci j k v : Nat} (hk : k < 1000000) (hs' : evS c k = (0, ci)) (hr : evR c k j = some v) : opGR ci j (evM L xs c) k = some v := o_GR (by rw [ev_S (by omega)]; exact hs') (by rw [ev_R]; exact hr)
theorem b_SR {L : Nat} {xs : Nat → Int32} {c : List aE} {t ci i k n v : Nat} (hk : k < 1000000) (hs' : evS c k = (t, n)) (hi : i < n) (hn : n < 2147483648) (hv : v < 1000000) (hs2 : evS c v = (0, ci)) : opSR t ci (evM L xs c) k (Int32.ofNat i) v = some (evM L xs ((1, k, i, v) :: c)) := by
  unfold opSR
  rw [ev_S (show ¬ k = 1000000 by omega), ev_S (show ¬ v = 1000000 by omega), hs', hs2, if_pos ⟨rfl, o_ix hi hn, rfl⟩, z_cl (Nat.lt_trans hi hn)]; rfl
/-! the classes -/
def eL_9 (N : Nat) (c : List aE) : List aE := (1, N, 3, N + 1) :: (0, 60, 3, 60) :: (0, (dtC 9).2.2, 0, 9) :: c
theorem e_9 {N : Nat} {c : List aE} : eL_9 N c = (1, N, 3, N + 1) :: (0, 60, 3, 60) :: (0, (dtC 9).2.2, 0, 9) :: c := rfl
theorem k_9 {L : Nat} {xs : Nat → Int32} {c : List aE} {N : Nat} {α : Type} {K : Nat → dtM → Option α} (hN : evN c = N) (h : N < 800) : (opCall (opNew 9 (evM L xs c)) fun q μ => (opLt q).bind fun _ => (f_X9_init q μ).bind (K q)) = K N (evM L xs (eL_9 N c)) := by
  rw [b_New hN (by omega), o_call, o_Lt (by omega), o_bind, f_X9_init, o_Lt (by omega), o_bind, show (60 : Int32) = Int32.ofNat 60 from rfl, b_NA (N := N + 1) (by simp [evN, hN, Nat.add_assoc]) (by omega) (by decide), o_call, b_PR (by omega) (by simp [evS, evN, hN, Nat.add_assoc]) (by omega), o_bind, o_bind, e_9]
def eL_7 (N : Nat) (c : List aE) : List aE := (4, N, 3, 0) :: (4, N, 2, 0) :: (1, N, 0, N + 1) :: (0, 900, 2, 900) :: (0, (dtC 7).2.2, 0, 7) :: c
theorem e_7 {N : Nat} {c : List aE} : eL_7 N c = (4, N, 3, 0) :: (4, N, 2, 0) :: (1, N, 0, N + 1) :: (0, 900, 2, 900) :: (0, (dtC 7).2.2, 0, 7) :: c := rfl
theorem k_7 {L : Nat} {xs : Nat → Int32} {c : List aE} {N : Nat} {α : Type} {K : Nat → dtM → Option α} (hN : evN c = N) (h : N < 800) : (opCall (opNew 7 (evM L xs c)) fun q μ => (opLt q).bind fun _ => (f_X7_init q μ).bind (K q)) = K N (evM L xs (eL_7 N c)) := by
  rw [b_New hN (by omega), o_call, o_Lt (by omega), o_bind, f_X7_init, o_Lt (by omega), o_bind, show (900 : Int32) = Int32.ofNat 900 from rfl, b_NA (N := N + 1) (by simp [evN, hN, Nat.add_assoc]) (by omega) (by decide), o_call, b_PR (by omega) (by simp [evS, evN, hN, Nat.add_assoc]) (by omega), o_bind, show (-1 : Int32) = -Int32.ofNat 1 from rfl, b_PM (by omega) (by simp [evS, evN, hN, Nat.add_assoc]), o_bind, b_PM (by omega) (by simp [evS, evN, hN, Nat.add_assoc]), o_bind, o_bind, e_7]
def eL_3 (N : Nat) (c : List aE) : List aE := (1, N, 18, N + 12) :: (0, 40, 1, 40) :: (1, N, 17, N + 11) :: (0, 5, 1, 5) :: (1, N, 16, N + 10) :: (0, 5, 1, 5) :: (1, N, 15, N + 9) :: (0, 5, 1, 5) :: (1, N, 14, N + 8) :: (0, 5, 1, 5) :: (1, N, 13, N + 7) :: (0, 28, 1, 28) :: (1, N, 12, N + 6) :: (0, 7, 1, 7) :: (1, N, 11, N + 5) :: (0, 10, 1, 10) :: (1, N, 10, N + 4) :: (0, 10, 1, 10) :: (1, N, 9, N + 3) :: (0, 10, 1, 10) :: (1, N, 8, N + 2) :: (0, 5, 3, 5) :: (1, N, 7, N + 1) :: (0, 7, 3, 7) :: (2, N, 4, 4) :: (0, (dtC 3).2.2, 0, 3) :: c
theorem e_3 {N : Nat} {c : List aE} : eL_3 N c = (1, N, 18, N + 12) :: (0, 40, 1, 40) :: (1, N, 17, N + 11) :: (0, 5, 1, 5) :: (1, N, 16, N + 10) :: (0, 5, 1, 5) :: (1, N, 15, N + 9) :: (0, 5, 1, 5) :: (1, N, 14, N + 8) :: (0, 5, 1, 5) :: (1, N, 13, N + 7) :: (0, 28, 1, 28) :: (1, N, 12, N + 6) :: (0, 7, 1, 7) :: (1, N, 11, N + 5) :: (0, 10, 1, 10) :: (1, N, 10, N + 4) :: (0, 10, 1, 10) :: (1, N, 9, N + 3) :: (0, 10, 1, 10) :: (1, N, 8, N + 2) :: (0, 5, 3, 5) :: (1, N, 7, N + 1) :: (0, 7, 3, 7) :: (2, N, 4, 4) :: (0, (dtC 3).2.2, 0, 3) :: c := rfl
theorem k_3 {L : Nat} {xs : Nat → Int32} {c : List aE} {N : Nat} {α : Type} {K : Nat → dtM → Option α} (hN : evN c = N) (h : N < 800) : (opCall (opNew 3 (evM L xs c)) fun q μ => (opLt q).bind fun _ => (f_X3_init q μ).bind (K q)) = K N (evM L xs (eL_3 N c)) := by
  rw [b_New hN (by omega), o_call, o_Lt (by omega), o_bind, f_X3_init, o_Lt (by omega), o_bind, show (4 : Int32) = Int32.ofNat 4 from rfl, b_PI (by omega) (by simp [evS, evN, hN, Nat.add_assoc]), o_bind, show (7 : Int32) = Int32.ofNat 7 from rfl, b_NA (N := N + 1) (by simp [evN, hN, Nat.add_assoc]) (by omega) (by decide), o_call, b_PR (by omega) (by simp [evS, evN, hN, Nat.add_assoc]) (by omega), o_bind, show (5 : Int32) = Int32.ofNat 5 from rfl, b_NA (N := N + 2) (by simp [evN, hN, Nat.add_assoc]) (by omega) (by decide), o_call, b_PR (by omega) (by simp [evS, evN, hN, Nat.add_assoc]) (by omega), o_bind, show (10 : Int32) = Int32.ofNat 10 from rfl, b_NA (N := N + 3) (by simp [evN, hN, Nat.add_assoc]) (by omega) (by decide), o_call, b_PR (by omega) (by simp [evS, evN, hN, Nat.add_assoc]) (by omega), o_bind, b_NA (N := N + 4) (by simp [evN, hN, Nat.add_assoc]) (by omega) (by decide), o_call, b_PR (by omega) (by simp [evS, evN, hN, Nat.add_assoc]) (by omega), o_bind, b_NA (N := N + 5) (by simp [evN, hN, Nat.add_assoc]) (by omega) (by decide), o_call, b_PR (by omega) (by simp [evS, evN, hN, Nat.add_assoc]) (by omega), o_bind, b_NA (N := N + 6) (by simp [evN, hN, Nat.add_assoc]) (by omega) (by decide), o_call, b_PR (by omega) (by simp [evS, evN, hN, Nat.add_assoc]) (by omega), o_bind, show (28 : Int32) = Int32.ofNat 28 from rfl, b_NA (N := N + 7) (by simp [evN, hN, Nat.add_assoc]) (by omega) (by decide), o_call, b_PR (by omega) (by simp [evS, evN, hN, Nat.add_assoc]) (by omega), o_bind, b_NA (N := N + 8) (by simp [evN, hN, Nat.add_assoc]) (by omega) (by decide), o_call, b_PR (by omega) (by simp [evS, evN, hN, Nat.add_assoc]) (by omega), o_bind, b_NA (N := N + 9) (by simp [evN, hN, Nat.add_assoc]) (by omega) (by decide), o_call, b_PR (by omega) (by simp [evS, evN, hN, Nat.add_assoc]) (by omega), o_bind, b_NA (N := N + 10) (by simp [evN, hN, Nat.add_assoc]) (by omega) (by decide), o_call, b_PR (by omega) (by simp [evS, evN, hN, Nat.add_assoc]) (by omega), o_bind, b_NA (N := N + 11) (by simp [evN, hN, Nat.add_assoc]) (by omega) (by decide), o_call, b_PR (by omega) (by simp [evS, evN, hN, Nat.add_assoc]) (by omega), o_bind, show (40 : Int32) = Int32.ofNat 40 from rfl, b_NA (N := N + 12) (by simp [evN, hN, Nat.add_assoc]) (by omega) (by decide), o_call, b_PR (by omega) (by simp [evS, evN, hN, Nat.add_assoc]) (by omega), o_bind, o_bind, e_3]
def eL_0 (N : Nat) (c : List aE) : List aE := (1, N, 8, N + 6) :: (0, 60, 1, 60) :: (1, N, 7, N + 5) :: (0, 60, 1, 60) :: (1, N, 6, N + 4) :: (0, 60, 1, 60) :: (1, N, 5, N + 3) :: (0, 60, 1, 60) :: (1, N, 4, N + 2) :: (0, 60, 1, 60) :: (1, N, 3, N + 1) :: (0, 60, 1, 60) :: (0, (dtC 0).2.2, 0, 0) :: c
theorem e_0 {N : Nat} {c : List aE} : eL_0 N c = (1, N, 8, N + 6) :: (0, 60, 1, 60) :: (1, N, 7, N + 5) :: (0, 60, 1, 60) :: (1, N, 6, N + 4) :: (0, 60, 1, 60) :: (1, N, 5, N + 3) :: (0, 60, 1, 60) :: (1, N, 4, N + 2) :: (0, 60, 1, 60) :: (1, N, 3, N + 1) :: (0, 60, 1, 60) :: (0, (dtC 0).2.2, 0, 0) :: c := rfl
theorem k_0 {L : Nat} {xs : Nat → Int32} {c : List aE} {N : Nat} {α : Type} {K : Nat → dtM → Option α} (hN : evN c = N) (h : N < 800) : (opCall (opNew 0 (evM L xs c)) fun q μ => (opLt q).bind fun _ => (f_X0_init q μ).bind (K q)) = K N (evM L xs (eL_0 N c)) := by
  rw [b_New hN (by omega), o_call, o_Lt (by omega), o_bind, f_X0_init, o_Lt (by omega), o_bind, show (60 : Int32) = Int32.ofNat 60 from rfl, b_NA (N := N + 1) (by simp [evN, hN, Nat.add_assoc]) (by omega) (by decide), o_call, b_PR (by omega) (by simp [evS, evN, hN, Nat.add_assoc]) (by omega), o_bind, b_NA (N := N + 2) (by simp [evN, hN, Nat.add_assoc]) (by omega) (by decide), o_call, b_PR (by omega) (by simp [evS, evN, hN, Nat.add_assoc]) (by omega), o_bind, b_NA (N := N + 3) (by simp [evN, hN, Nat.add_assoc]) (by omega) (by decide), o_call, b_PR (by omega) (by simp [evS, evN, hN, Nat.add_assoc]) (by omega), o_bind, b_NA (N := N + 4) (by simp [evN, hN, Nat.add_assoc]) (by omega) (by decide), o_call, b_PR (by omega) (by simp [evS, evN, hN, Nat.add_assoc]) (by omega), o_bind, b_NA (N := N + 5) (by simp [evN, hN, Nat.add_assoc]) (by omega) (by decide), o_call, b_PR (by omega) (by simp [evS, evN, hN, Nat.add_assoc]) (by omega), o_bind, b_NA (N := N + 6) (by simp [evN, hN, Nat.add_assoc]) (by omega) (by decide), o_call, b_PR (by omega) (by simp [evS, evN, hN, Nat.add_assoc]) (by omega), o_bind, o_bind, e_0]
def eL_8 (N : Nat) (c : List aE) : List aE := (1, N, 0, N + 1) :: (0, 0, 2, 0) :: (0, (dtC 8).2.2, 0, 8) :: c
theorem e_8 {N : Nat} {c : List aE} : eL_8 N c = (1, N, 0, N + 1) :: (0, 0, 2, 0) :: (0, (dtC 8).2.2, 0, 8) :: c := rfl
theorem k_8 {L : Nat} {xs : Nat → Int32} {c : List aE} {N : Nat} {α : Type} {K : Nat → dtM → Option α} (hN : evN c = N) (h : N < 900) : (opCall (opNew 8 (evM L xs c)) fun q μ => (opLt q).bind fun _ => (f_X8_init q μ).bind (K q)) = K N (evM L xs (eL_8 N c)) := by
  rw [b_New hN (by omega), o_call, o_Lt (by omega), o_bind, f_X8_init, o_Lt (by omega), o_bind, show (0 : Int32) = Int32.ofNat 0 from rfl, b_NA (N := N + 1) (by simp [evN, hN, Nat.add_assoc]) (by omega) (by decide), o_call, b_PR (by omega) (by simp [evS, evN, hN, Nat.add_assoc]) (by omega), o_bind, o_bind, e_8]
def eL_2 (N : Nat) (c : List aE) : List aE := (1, N, 0, N + 1) :: (0, 7, 1, 7) :: (0, (dtC 2).2.2, 0, 2) :: c
theorem e_2 {N : Nat} {c : List aE} : eL_2 N c = (1, N, 0, N + 1) :: (0, 7, 1, 7) :: (0, (dtC 2).2.2, 0, 2) :: c := rfl
theorem k_2 {L : Nat} {xs : Nat → Int32} {c : List aE} {N : Nat} {α : Type} {K : Nat → dtM → Option α} (hN : evN c = N) (h : N < 800) : (opCall (opNew 2 (evM L xs c)) fun q μ => (opLt q).bind fun _ => (f_X2_init q μ).bind (K q)) = K N (evM L xs (eL_2 N c)) := by
  rw [b_New hN (by omega), o_call, o_Lt (by omega), o_bind, f_X2_init, o_Lt (by omega), o_bind, show (7 : Int32) = Int32.ofNat 7 from rfl, b_NA (N := N + 1) (by simp [evN, hN, Nat.add_assoc]) (by omega) (by decide), o_call, b_PR (by omega) (by simp [evS, evN, hN, Nat.add_assoc]) (by omega), o_bind, o_bind, e_2]
def eL_5 (N : Nat) (c : List aE) : List aE := (1, N, 3, N + 3) :: (0, 25, 1, 25) :: (1, N, 2, N + 2) :: (0, 25, 1, 25) :: (1, N, 0, N + 1) :: (0, 24, 1, 24) :: (0, (dtC 5).2.2, 0, 5) :: c
theorem e_5 {N : Nat} {c : List aE} : eL_5 N c = (1, N, 3, N + 3) :: (0, 25, 1, 25) :: (1, N, 2, N + 2) :: (0, 25, 1, 25) :: (1, N, 0, N + 1) :: (0, 24, 1, 24) :: (0, (dtC 5).2.2, 0, 5) :: c := rfl
theorem k_5 {L : Nat} {xs : Nat → Int32} {c : List aE} {N : Nat} {α : Type} {K : Nat → dtM → Option α} (hN : evN c = N) (h : N < 800) : (opCall (opNew 5 (evM L xs c)) fun q μ => (opLt q).bind fun _ => (f_X5_init q μ).bind (K q)) = K N (evM L xs (eL_5 N c)) := by
  rw [b_New hN (by omega), o_call, o_Lt (by omega), o_bind, f_X5_init, o_Lt (by omega), o_bind, show (24 : Int32) = Int32.ofNat 24 from rfl, b_NA (N := N + 1) (by simp [evN, hN, Nat.add_assoc]) (by omega) (by decide), o_call, b_PR (by omega) (by simp [evS, evN, hN, Nat.add_assoc]) (by omega), o_bind, show (25 : Int32) = Int32.ofNat 25 from rfl, b_NA (N := N + 2) (by simp [evN, hN, Nat.add_assoc]) (by omega) (by decide), o_call, b_PR (by omega) (by simp [evS, evN, hN, Nat.add_assoc]) (by omega), o_bind, b_NA (N := N + 3) (by simp [evN, hN, Nat.add_assoc]) (by omega) (by decide), o_call, b_PR (by omega) (by simp [evS, evN, hN, Nat.add_assoc]) (by omega), o_bind, o_bind, e_5]
def eL_10 (N : Nat) (c : List aE) : List aE := (1, N, 0, N + 1) :: (0, 1024, 1, 1024) :: (0, (dtC 10).2.2, 0, 10) :: c
theorem e_10 {N : Nat} {c : List aE} : eL_10 N c = (1, N, 0, N + 1) :: (0, 1024, 1, 1024) :: (0, (dtC 10).2.2, 0, 10) :: c := rfl
theorem k_10 {L : Nat} {xs : Nat → Int32} {c : List aE} {N : Nat} {α : Type} {K : Nat → dtM → Option α} (hN : evN c = N) (h : N < 800) : (opCall (opNew 10 (evM L xs c)) fun q μ => (opLt q).bind fun _ => (f_X10_init q μ).bind (K q)) = K N (evM L xs (eL_10 N c)) := by
  rw [b_New hN (by omega), o_call, o_Lt (by omega), o_bind, f_X10_init, o_Lt (by omega), o_bind, show (1024 : Int32) = Int32.ofNat 1024 from rfl, b_NA (N := N + 1) (by simp [evN, hN, Nat.add_assoc]) (by omega) (by decide), o_call, b_PR (by omega) (by simp [evS, evN, hN, Nat.add_assoc]) (by omega), o_bind, o_bind, e_10]
def eL_6 (N : Nat) (c : List aE) : List aE := (1, N, 0, N + 1) :: (0, 60, 1, 60) :: (0, (dtC 6).2.2, 0, 6) :: c
theorem e_6 {N : Nat} {c : List aE} : eL_6 N c = (1, N, 0, N + 1) :: (0, 60, 1, 60) :: (0, (dtC 6).2.2, 0, 6) :: c := rfl
theorem k_6 {L : Nat} {xs : Nat → Int32} {c : List aE} {N : Nat} {α : Type} {K : Nat → dtM → Option α} (hN : evN c = N) (h : N < 800) : (opCall (opNew 6 (evM L xs c)) fun q μ => (opLt q).bind fun _ => (f_X6_init q μ).bind (K q)) = K N (evM L xs (eL_6 N c)) := by
  rw [b_New hN (by omega), o_call, o_Lt (by omega), o_bind, f_X6_init, o_Lt (by omega), o_bind, show (60 : Int32) = Int32.ofNat 60 from rfl, b_NA (N := N + 1) (by simp [evN, hN, Nat.add_assoc]) (by omega) (by decide), o_call, b_PR (by omega) (by simp [evS, evN, hN, Nat.add_assoc]) (by omega), o_bind, o_bind, e_6]
def eL_4 (N : Nat) (c : List aE) : List aE := (1, N, 1, N + 3) :: (0, 7, 3, 7) :: (1, N, 0, N + 1) :: (1, N + 1, 0, N + 2) :: (0, 0, 2, 0) :: (0, (dtC 8).2.2, 0, 8) :: (0, (dtC 4).2.2, 0, 4) :: c
theorem e_4 {N : Nat} {c : List aE} : eL_4 N c = (1, N, 1, N + 3) :: (0, 7, 3, 7) :: (1, N, 0, N + 1) :: (1, N + 1, 0, N + 2) :: (0, 0, 2, 0) :: (0, (dtC 8).2.2, 0, 8) :: (0, (dtC 4).2.2, 0, 4) :: c := rfl
theorem k_4 {L : Nat} {xs : Nat → Int32} {c : List aE} {N : Nat} {α : Type} {K : Nat → dtM → Option α} (hN : evN c = N) (h : N < 800) : (opCall (opNew 4 (evM L xs c)) fun q μ => (opLt q).bind fun _ => (f_X4_init q μ).bind (K q)) = K N (evM L xs (eL_4 N c)) := by
  rw [b_New hN (by omega), o_call, o_Lt (by omega), o_bind, f_X4_init, o_Lt (by omega), o_bind, k_8 (N := N + 1) (by simp [evN, hN, Nat.add_assoc]) (by omega), e_8, b_PR (by omega) (by simp [evS, evN, hN, Nat.add_assoc]) (by omega), o_bind, show (7 : Int32) = Int32.ofNat 7 from rfl, b_NA (N := N + 3) (by simp [evN, hN, Nat.add_assoc]) (by omega) (by decide), o_call, b_PR (by omega) (by simp [evS, evN, hN, Nat.add_assoc]) (by omega), o_bind, o_bind, e_4]
def eL_1 (N : Nat) (c : List aE) : List aE := (1, N, 1, N + 3) :: (0, 3, 1, 3) :: (1, N, 0, N + 1) :: (1, N + 1, 0, N + 2) :: (0, 0, 2, 0) :: (0, (dtC 8).2.2, 0, 8) :: (0, (dtC 1).2.2, 0, 1) :: c
theorem e_1 {N : Nat} {c : List aE} : eL_1 N c = (1, N, 1, N + 3) :: (0, 3, 1, 3) :: (1, N, 0, N + 1) :: (1, N + 1, 0, N + 2) :: (0, 0, 2, 0) :: (0, (dtC 8).2.2, 0, 8) :: (0, (dtC 1).2.2, 0, 1) :: c := rfl
theorem k_1 {L : Nat} {xs : Nat → Int32} {c : List aE} {N : Nat} {α : Type} {K : Nat → dtM → Option α} (hN : evN c = N) (h : N < 800) : (opCall (opNew 1 (evM L xs c)) fun q μ => (opLt q).bind fun _ => (f_X1_init q μ).bind (K q)) = K N (evM L xs (eL_1 N c)) := by
  rw [b_New hN (by omega), o_call, o_Lt (by omega), o_bind, f_X1_init, o_Lt (by omega), o_bind, k_8 (N := N + 1) (by simp [evN, hN, Nat.add_assoc]) (by omega), e_8, b_PR (by omega) (by simp [evS, evN, hN, Nat.add_assoc]) (by omega), o_bind, show (3 : Int32) = Int32.ofNat 3 from rfl, b_NA (N := N + 3) (by simp [evN, hN, Nat.add_assoc]) (by omega) (by decide), o_call, b_PR (by omega) (by simp [evS, evN, hN, Nat.add_assoc]) (by omega), o_bind, o_bind, e_1]
