abbrev wX8_forget : List Cond := Cond.code yX8_forget cX8_forget 1 none :: WALL
def m_X8_forget (n : Nat) (v0 : St) : Option (St) :=
nm (su v0 0 0 0) (fun u1 =>
some u1)
set_option maxHeartbeats 4000000 in
set_option maxRecDepth 100000 in
theorem c_X8_forget (l : Launch) (D : va_G) (y : Nat → ClassId) (ek : EK) (n : Nat) (a0 : Nat → Nat) (z0_hills : Nat → Nat → Nat) (z0_diaries : Nat → Nat → Nat) (v0 : St) (res : St) (hf : m_X8_forget n v0 = some res) : CV l yX8_forget wX8_forget { frames := 0, cells := 0, slots := 0, locals := 0 } D y ek [.ref (a0 0)] [bX8 y a0 z0_hills z0_diaries v0] [bX8 y a0 z0_hills z0_diaries res] 0 0 := by
  unfold m_X8_forget at hf
  refine cv_of (cc := cX8_forget) (maxL := 1) (by decide) rfl rfl (Nat.le_of_ble_eq_true rfl) ?_
  intro p e s m below meth c Q A F hret
  refine a_lv (lv' := [(0, .ref (a0 0))]) rfl ?_
  refine a_aloadn (pc := 0) (j := 0) F dX8_forget_0 rfl rfl ?_
  refine a_iconst (pc := 1) F dX8_forget_1 kc_0 ?_
  obtain ⟨u1, eu1, hf⟩ := nm_some hf
  refine a_put (pc := 2) (kb := 0) (j := 0) (f := 0) (ty := .int) (bs' := [bX8 y a0 z0_hills z0_diaries u1]) F iW_X8 rfl rfl rfl (by decide) (tl q2_42) (fun _ h => h) tyX8 tyX8_ok nmX8 rfl rfl rfl rfl (Nat.le_of_ble_eq_true rfl) (by rw [eu1]; rfl) dX8_forget_2 ?_
  obtain rfl := Option.some.inj hf
  exact hret _ _ _ _ (Nat.zero_le _) (Nat.zero_le _) dX8_forget_5

section PASTL
theorem pm_split {bs : List va_W} {k : Nat} {b b1 b2 : va_W} (hb : bs[k]? = some b) (h : b.Perm (b1 ++ b2)) : bs.flatten.Perm (bs.set k b2 ++ [b1]).flatten := by
  have h1 := fl_pick hb b
  have h2 := fl_pick hb b2
  have he : bs.set k b = bs := by
    obtain ⟨hl, e⟩ := List.getElem?_eq_some_iff.mp hb
    subst e
    simp
  rw [he] at h1
  refine h1.trans ?_
  rw [List.flatten_append]
  have h3 : [b1].flatten = b1 := by simp
  rw [h3]
  refine List.Perm.trans ?_ (List.Perm.append_right b1 h2.symm)
  refine (List.Perm.append_right _ h).trans ?_
  rw [List.append_assoc, List.append_assoc]
  exact (List.perm_append_comm (l₁ := b1) (l₂ := b2 ++ (bs.set k []).flatten)).trans (by rw [List.append_assoc])
def bX3r (y : Nat → ClassId) (a : Nat → Nat) (v : St) : va_W := (bX3 y a v).take 10 ++ (bX3 y a v).drop 11
theorem ld_split {y : Nat → ClassId} {a : Nat → Nat} {v : St} : (bX3 y a v).Perm (bAI10 y (fun _ => a 19) (fun _ => v 18) ++ bX3r y a v) := by
  have h := List.perm_middle (l₁ := (bX3 y a v).take 10) (a := ((a 19, Sum.inl (y 0, 10, Sum.inl (v 18))) : Nat × va_E)) (l₂ := (bX3 y a v).drop 11)
  exact h
def phR (y : Nat → ClassId) (a : Nat → Nat → Nat) (v : Nat → St) (i : Nat) : va_W := ((bPHL y a v).set i []).flatten
def pdR (y : Nat → ClassId) (a : Nat → Nat → Nat) (v : Nat → St) (i : Nat) : va_W := ((bPDL y a v).set i []).flatten
theorem up_self {v : Nat → St} {i : Nat} {w : St} : va_up v i w i = w := by simp [va_up]
theorem up_ne {v : Nat → St} {i j : Nat} {w : St} (h : j ≠ i) : va_up v i w j = v j := by simp [va_up, h]
theorem PH_at {y : Nat → ClassId} {a : Nat → Nat → Nat} {v : Nat → St} {i : Nat} (h : i < 12) : (bPHL y a v)[i]? = some (bX3 y (a i) (v i)) := by
  simp [bPHL, h]
theorem PH_split {y : Nat → ClassId} {a : Nat → Nat → Nat} {v : Nat → St} {i : Nat} (h : i < 12) : (bPH y a v).Perm (bX3 y (a i) (v i) ++ phR y a v i) := by
  have h1 := fl_pick (PH_at (y := y) (a := a) (v := v) h) (bX3 y (a i) (v i))
  have he : (bPHL y a v).set i (bX3 y (a i) (v i)) = bPHL y a v := by
    obtain ⟨hl, e⟩ := List.getElem?_eq_some_iff.mp (PH_at (y := y) (a := a) (v := v) h)
    rw [← e]
    simp
  rw [he] at h1
  exact h1
theorem PH_up {y : Nat → ClassId} {a : Nat → Nat → Nat} {v : Nat → St} {i : Nat} {w : St} : phR y a (va_up v i w) i = phR y a v i := by
  unfold phR
  congr 1
  apply List.ext_getElem?
  intro j
  by_cases hj : i = j
  · subst hj
    simp [List.getElem?_set]
    simp [bPHL]
  · rw [List.getElem?_set_ne hj, List.getElem?_set_ne hj]
    by_cases hl : j < 12
    · rw [PH_at hl, PH_at hl, up_ne (Ne.symm hj)]
    · simp [bPHL, hl]
theorem PH_merge {y : Nat → ClassId} {a : Nat → Nat → Nat} {v : Nat → St} {i : Nat} {w : St} (h : i < 12) : (bPH y a (va_up v i w)).Perm (bX3 y (a i) w ++ phR y a v i) := by
  have h1 := PH_split (y := y) (a := a) (v := va_up v i w) h
  rw [PH_up, up_self] at h1
  exact h1
theorem PD_at {y : Nat → ClassId} {a : Nat → Nat → Nat} {v : Nat → St} {i : Nat} (h : i < 12) : (bPDL y a v)[i]? = some (bX1 y (a i) (v i)) := by
  simp [bPDL, h]
theorem PD_split {y : Nat → ClassId} {a : Nat → Nat → Nat} {v : Nat → St} {i : Nat} (h : i < 12) : (bPD y a v).Perm (bX1 y (a i) (v i) ++ pdR y a v i) := by
  have h1 := fl_pick (PD_at (y := y) (a := a) (v := v) h) (bX1 y (a i) (v i))
  have he : (bPDL y a v).set i (bX1 y (a i) (v i)) = bPDL y a v := by
    obtain ⟨hl, e⟩ := List.getElem?_eq_some_iff.mp (PD_at (y := y) (a := a) (v := v) h)
    rw [← e]
    simp
  rw [he] at h1
  exact h1
theorem PD_up {y : Nat → ClassId} {a : Nat → Nat → Nat} {v : Nat → St} {i : Nat} {w : St} : pdR y a (va_up v i w) i = pdR y a v i := by
  unfold pdR
  congr 1
  apply List.ext_getElem?
  intro j
  by_cases hj : i = j
  · subst hj
    simp [List.getElem?_set]
    simp [bPDL]
  · rw [List.getElem?_set_ne hj, List.getElem?_set_ne hj]
    by_cases hl : j < 12
    · rw [PD_at hl, PD_at hl, up_ne (Ne.symm hj)]
    · simp [bPDL, hl]
theorem PD_merge {y : Nat → ClassId} {a : Nat → Nat → Nat} {v : Nat → St} {i : Nat} {w : St} (h : i < 12) : (bPD y a (va_up v i w)).Perm (bX1 y (a i) w ++ pdR y a v i) := by
  have h1 := PD_split (y := y) (a := a) (v := va_up v i w) h
  rw [PD_up, up_self] at h1
  exact h1
variable {p : Program} {l : Launch} {e : Env} {R : Room} {s : State} {m : MethodId} {args : Array Value} {below : List Frame} {meth : Method} {c : Code} {Q : State → Prop} {D : va_G} {y : Nat → ClassId} {ek : EK} {A : Nat → Prop} {nL cells slots pc : Nat} {cc : ByteArray} {own : String} {Ts : List Cond} {lv : List (Nat × Value)} {st : List Value} {bs : List va_W}
theorem a_perm {bs' : List va_W} (h : bs.flatten.Perm bs'.flatten) (k : At p l e R s m args below meth c Q D A nL cells slots pc lv st bs') : At p l e R s m args below meth c Q D A nL cells slots pc lv st bs :=
  fun H locs ls hP hD hS hl => k H locs ls (hP.perm h) (hD.perm h) hS hl
theorem a_aald (F : Fx p s m args c cc own Ts nL D y ek A) {kb j t0 n a : Nat} {b : va_W} {C : String} {cA : ClassId} {f : Nat → Option Nat} {i : Int32} (hb : bs[kb]? = some b) (hj : b[j]? = some (a, .inl (cA, n, .inr (.inr (.inr (.inr f)))))) (ht : (tyG y)[t0]? = some (cA, .object C)) (hi : ix i n) (hd : decode cc pc = .ok (.aaload, 1)) (k : At p l e R s m args below meth c Q D A nL cells slots (pc + 1) lv (va_rf (f i.toNatClampNeg) :: st) bs) : At p l e R s m args below meth c Q D A nL cells slots pc lv (.int i :: .ref a :: st) bs :=
  fun H locs ls hP hD hS hl => by
    obtain ⟨i0, h0⟩ := fl_at hb hj
    exact va_aldq F.1.1 F.1.2.1 F.2.1 hP i0 t0 h0 ht (ix_in hi) hd (k H locs ls hP hD hS hl)
end PASTL
abbrev wX8_remember : List Cond := Cond.code yX8_remember cX8_remember 4 none :: WALL
abbrev wX8_restore : List Cond := Cond.code yX8_restore cX8_restore 4 (some .boolean) :: WALL
def m_X8_remember (n : Nat) (v0 : St) (v1 : Nat → St) (v2 : Nat → St) (v3 : St) (v4 : St) : Option (St × (Nat → St) × (Nat → St)) :=
  bd (if (v0 0 0) = 12 then nm (su v0 1 0 (x_rem ((v0 1 0) + 1) 12)) (fun u1 => nm (su u1 0 0 ((u1 0 0) - 1)) (fun u2 => some u2)) else some v0) (fun (t : St) =>
  nm (x_rem ((t 1 0) + (t 0 0)) 12) (fun x3 =>
  (if ix x3 12 then bd (m_X3_copyFrom n (v1 x3.toNatClampNeg) v3) (fun th =>
  bd (m_X1_copyFrom n (v2 x3.toNatClampNeg) v4) (fun td =>
  nm (su t 0 0 ((t 0 0) + 1)) (fun u3 => some (u3, va_up v1 x3.toNatClampNeg th, va_up v2 x3.toNatClampNeg td)))) else none)))
def m_X8_restore (n : Nat) (v0 : St) (v1 : Nat → St) (v2 : Nat → St) (v3 : St) (v4 : St) : Option (Int32 × St × St × St) :=
  (if (v0 0 0) = 0 then some (0, v0, v3, v4) else
  nm (su v0 0 0 ((v0 0 0) - 1)) (fun t =>
  nm (x_rem ((t 1 0) + (t 0 0)) 12) (fun x3 =>
  (if ix x3 12 then bd (m_X3_copyFrom n v3 (v1 x3.toNatClampNeg)) (fun th =>
  bd (m_X1_copyFrom n v4 (v2 x3.toNatClampNeg)) (fun td => some (1, t, th, td))) else none))))
set_option maxHeartbeats 4000000 in
set_option maxRecDepth 100000 in
theorem c_X8_remember (l : Launch) (D : va_G) (y : Nat → ClassId) (ek : EK) (n : Nat) (a0 : Nat → Nat) (a1 : Nat → Nat → Nat) (a2 : Nat → Nat → Nat) (a3 : Nat → Nat) (a4 : Nat → Nat) (v0 : St) (v1 : Nat → St) (v2 : Nat → St) (v3 : St) (v4 : St) (res : St × (Nat → St) × (Nat → St)) (hf : m_X8_remember n v0 v1 v2 v3 v4 = some res) : CV l yX8_remember wX8_remember { frames := 2, cells := 0, slots := 0, locals := 90 } D y ek [.ref (a0 0), .ref (a3 0), .ref (a4 0)] [bX8 y a0 a1 a2 v0, bPH y a1 v1, bPD y a2 v2, bX3 y a3 v3, bX1 y a4 v4] [bX8 y a0 a1 a2 res.1, bPH y a1 res.2.1, bPD y a2 res.2.2, bX3 y a3 v3, bX1 y a4 v4] 0 0 := by
  unfold m_X8_remember at hf
  refine cv_of (cc := cX8_remember) (maxL := 4) (by decide) rfl rfl (Nat.le_of_ble_eq_true rfl) ?_
  intro p e s m below meth c Q A F hret
  refine a_lv (lv' := [(0, .ref (a0 0)), (1, .ref (a3 0)), (2, .ref (a4 0))]) rfl ?_
  refine a_aloadn (pc := 0) (j := 0) F dX8_remember_0 rfl rfl ?_
  refine a_get (pc := 1) (kb := 0) (j := 0) (f := 0) F iW_X8 rfl rfl rfl (by decide) (tl q2_42) (fun _ h => h) rfl dX8_remember_1 ?_
  refine a_bipush (pc := 4) (v := 12) F dX8_remember_4 (by decide) ?_
  refine a_join 32 (fun (t : St) => [(0, .ref (a0 0)), (1, .ref (a3 0)), (2, .ref (a4 0))]) (fun (t : St) => []) (fun (t : St) => [bX8 y a0 a1 a2 t, bPH y a1 v1, bPD y a2 v2, bX3 y a3 v3, bX1 y a4 v4]) hf (fun t hf => ?_) (fun t hf J => ?_)
  · try dsimp only at hf ⊢
    refine a_aloadn (pc := 32) (j := 0) F dX8_remember_32 rfl rfl ?_
    refine a_get (pc := 33) (kb := 0) (j := 0) (f := 1) F iW_X8 rfl rfl rfl (by decide) (tl q2_44) (fun _ h => h) rfl dX8_remember_33 ?_
    refine a_aloadn (pc := 36) (j := 0) F dX8_remember_36 rfl rfl ?_
    refine a_get (pc := 37) (kb := 0) (j := 0) (f := 0) F iW_X8 rfl rfl rfl (by decide) (tl q2_42) (fun _ h => h) rfl dX8_remember_37 ?_
    refine a_iadd (pc := 40) F dX8_remember_40 ?_
    refine a_bipush (pc := 41) (v := 12) F dX8_remember_41 (by decide) ?_
    refine a_irem (pc := 43) F dX8_remember_43 (by decide) ?_
    obtain ⟨x3, ex3, hf⟩ := nm_some hf
    refine a_nmi ex3 ?_
    refine a_istoren (pc := 44) (lv' := [(0, .ref (a0 0)), (1, .ref (a3 0)), (2, .ref (a4 0)), (3, .int x3)]) F [1, 2, 3, 0] dX8_remember_44 rfl (by decide) rfl ?_
    obtain ⟨hi, hf⟩ := gd_some hf
    refine a_aloadn (pc := 45) (j := 0) F dX8_remember_45 rfl rfl ?_
    refine a_get (pc := 46) (kb := 0) (j := 0) (f := 2) F iW_X8 rfl rfl rfl (by decide) (tl q2_45) (fun _ h => h) rfl dX8_remember_46 ?_
    refine a_iloadn (pc := 49) (j := 3) F dX8_remember_49 rfl rfl ?_
    refine a_aald (pc := 50) (kb := 0) (j := 1) (t0 := 4) F rfl rfl rfl hi dX8_remember_50 ?_
    refine a_aloadn (pc := 51) (j := 1) F dX8_remember_51 rfl rfl ?_
    obtain ⟨th, hth, hf⟩ := bd_some hf
    refine a_perm (bs' := [bX8 y a0 a1 a2 t, phR y a1 v1 x3.toNatClampNeg, bPD y a2 v2, bX3 y a3 v3, bX1 y a4 v4, bX3 y (a1 x3.toNatClampNeg) (v1 x3.toNatClampNeg)]) (pm_split (k := 1) rfl (PH_split hi.2)) ?_
    refine a_callVv (pc := 52) (bs' := [bX8 y a0 a1 a2 t, phR y a1 v1 x3.toNatClampNeg, bPD y a2 v2, bX3 y a3 v3, bX1 y a4 v4, bX3 y (a1 x3.toNatClampNeg) th]) (kb := 5) (j := 0) F [5, 3] (c_X3_copyFrom l D y ek n (a1 x3.toNatClampNeg) a3 _ _ _ hth) (cwV 1 F.1.2.2.2.2 (gV q2_141 q2_142 q2_143 q1_3 q2_144) rfl rfl rfl (by decide +kernel) ⟨Nat.le_of_ble_eq_true rfl, Nat.le_of_ble_eq_true rfl⟩) rfl rfl rfl rfl (by decide) rfl rfl rfl rfl rfl rfl (Nat.le_of_ble_eq_true rfl) ⟨Nat.zero_le _, Nat.zero_le _⟩ dX8_remember_52 ?_
    refine a_perm (bs' := [bX8 y a0 a1 a2 t, bPH y a1 (va_up v1 x3.toNatClampNeg th), bPD y a2 v2, bX3 y a3 v3, bX1 y a4 v4]) (pm_split (bs := [bX8 y a0 a1 a2 t, bPH y a1 (va_up v1 x3.toNatClampNeg th), bPD y a2 v2, bX3 y a3 v3, bX1 y a4 v4]) (k := 1) rfl (PH_merge hi.2)).symm ?_
    refine a_aloadn (pc := 55) (j := 0) F dX8_remember_55 rfl rfl ?_
    refine a_get (pc := 56) (kb := 0) (j := 0) (f := 3) F iW_X8 rfl rfl rfl (by decide) (tl q2_46) (fun _ h => h) rfl dX8_remember_56 ?_
    refine a_iloadn (pc := 59) (j := 3) F dX8_remember_59 rfl rfl ?_
    refine a_aald (pc := 60) (kb := 0) (j := 2) (t0 := 5) F rfl rfl rfl hi dX8_remember_60 ?_
    refine a_aloadn (pc := 61) (j := 2) F dX8_remember_61 rfl rfl ?_
    obtain ⟨td, htd, hf⟩ := bd_some hf
    refine a_perm (bs' := [bX8 y a0 a1 a2 t, bPH y a1 (va_up v1 x3.toNatClampNeg th), pdR y a2 v2 x3.toNatClampNeg, bX3 y a3 v3, bX1 y a4 v4, bX1 y (a2 x3.toNatClampNeg) (v2 x3.toNatClampNeg)]) (pm_split (k := 2) rfl (PD_split hi.2)) ?_
    refine a_callVv (pc := 62) (bs' := [bX8 y a0 a1 a2 t, bPH y a1 (va_up v1 x3.toNatClampNeg th), pdR y a2 v2 x3.toNatClampNeg, bX3 y a3 v3, bX1 y a4 v4, bX1 y (a2 x3.toNatClampNeg) td]) (kb := 5) (j := 0) F [5, 4] (c_X1_copyFrom l D y ek n (a2 x3.toNatClampNeg) a4 _ _ _ htd) (cwV 1 F.1.2.2.2.2 (gV q2_148 q2_149 q2_150 q1_5 q2_151) rfl rfl rfl (by decide +kernel) ⟨Nat.le_of_ble_eq_true rfl, Nat.le_of_ble_eq_true rfl⟩) rfl rfl rfl rfl (by decide) rfl rfl rfl rfl rfl rfl (Nat.le_of_ble_eq_true rfl) ⟨Nat.zero_le _, Nat.zero_le _⟩ dX8_remember_62 ?_
    refine a_perm (bs' := [bX8 y a0 a1 a2 t, bPH y a1 (va_up v1 x3.toNatClampNeg th), bPD y a2 (va_up v2 x3.toNatClampNeg td), bX3 y a3 v3, bX1 y a4 v4]) (pm_split (bs := [bX8 y a0 a1 a2 t, bPH y a1 (va_up v1 x3.toNatClampNeg th), bPD y a2 (va_up v2 x3.toNatClampNeg td), bX3 y a3 v3, bX1 y a4 v4]) (k := 2) rfl (PD_merge hi.2)).symm ?_
    refine a_aloadn (pc := 65) (j := 0) F dX8_remember_65 rfl rfl ?_
    refine a_dup (pc := 66) F dX8_remember_66 rfl ?_
    refine a_get (pc := 67) (kb := 0) (j := 0) (f := 0) F iW_X8 rfl rfl rfl (by decide) (tl q2_42) (fun _ h => h) rfl dX8_remember_67 ?_
    refine a_iconst (pc := 70) (v := 1) F dX8_remember_70 (by decide) ?_
    refine a_iadd (pc := 71) F dX8_remember_71 ?_
    obtain ⟨u3, eu3, hf⟩ := nm_some hf
    refine a_put (pc := 72) (kb := 0) (j := 0) (f := 0) (ty := .int) (bs' := [bX8 y a0 a1 a2 u3, bPH y a1 (va_up v1 x3.toNatClampNeg th), bPD y a2 (va_up v2 x3.toNatClampNeg td), bX3 y a3 v3, bX1 y a4 v4]) F iW_X8 rfl rfl rfl (by decide) (tl q2_42) (fun _ h => h) tyX8 tyX8_ok nmX8 rfl rfl rfl rfl (Nat.le_of_ble_eq_true rfl) (by rw [eu3]; rfl) dX8_remember_72 ?_
    obtain rfl := Option.some.inj hf
    exact hret _ _ _ _ (Nat.zero_le _) (Nat.zero_le _) dX8_remember_75
  · refine a_icmp_ne (pc := 6) (tgt := 32) F dX8_remember_6 (by decide) (fun h => ?_) (fun h => ?_)
    · replace hf := it_neg h hf
      obtain rfl := Option.some.inj hf
      exact J
    · replace hf := it_pos h hf
      refine a_aloadn (pc := 9) (j := 0) F dX8_remember_9 rfl rfl ?_
      refine a_aloadn (pc := 10) (j := 0) F dX8_remember_10 rfl rfl ?_
      refine a_get (pc := 11) (kb := 0) (j := 0) (f := 1) F iW_X8 rfl rfl rfl (by decide) (tl q2_44) (fun _ h => h) rfl dX8_remember_11 ?_
      refine a_iconst (pc := 14) (v := 1) F dX8_remember_14 (by decide) ?_
      refine a_iadd (pc := 15) F dX8_remember_15 ?_
      refine a_bipush (pc := 16) (v := 12) F dX8_remember_16 (by decide) ?_
      refine a_irem (pc := 18) F dX8_remember_18 (by decide) ?_
      obtain ⟨u1, eu1, hf⟩ := nm_some hf
      refine a_put (pc := 19) (kb := 0) (j := 0) (f := 1) (ty := .int) (bs' := [bX8 y a0 a1 a2 u1, bPH y a1 v1, bPD y a2 v2, bX3 y a3 v3, bX1 y a4 v4]) F iW_X8 rfl rfl rfl (by decide) (tl q2_44) (fun _ h => h) tyX8 tyX8_ok nmX8 rfl rfl rfl rfl (Nat.le_of_ble_eq_true rfl) (by rw [eu1]; rfl) dX8_remember_19 ?_
      refine a_aloadn (pc := 22) (j := 0) F dX8_remember_22 rfl rfl ?_
      refine a_dup (pc := 23) F dX8_remember_23 rfl ?_
      refine a_get (pc := 24) (kb := 0) (j := 0) (f := 0) F iW_X8 rfl rfl rfl (by decide) (tl q2_42) (fun _ h => h) rfl dX8_remember_24 ?_
      refine a_iconst (pc := 27) (v := 1) F dX8_remember_27 (by decide) ?_
      refine a_isub (pc := 28) F dX8_remember_28 ?_
      obtain ⟨u2, eu2, hf⟩ := nm_some hf
      refine a_put (pc := 29) (kb := 0) (j := 0) (f := 0) (ty := .int) (bs' := [bX8 y a0 a1 a2 u2, bPH y a1 v1, bPD y a2 v2, bX3 y a3 v3, bX1 y a4 v4]) F iW_X8 rfl rfl rfl (by decide) (tl q2_42) (fun _ h => h) tyX8 tyX8_ok nmX8 rfl rfl rfl rfl (Nat.le_of_ble_eq_true rfl) (by rw [eu2]; rfl) dX8_remember_29 ?_
      obtain rfl := Option.some.inj hf
      exact J
set_option maxHeartbeats 4000000 in
set_option maxRecDepth 100000 in
theorem c_X8_restore (l : Launch) (D : va_G) (y : Nat → ClassId) (ek : EK) (n : Nat) (a0 : Nat → Nat) (a1 : Nat → Nat → Nat) (a2 : Nat → Nat → Nat) (a3 : Nat → Nat) (a4 : Nat → Nat) (v0 : St) (v1 : Nat → St) (v2 : Nat → St) (v3 : St) (v4 : St) (res : Int32 × St × St × St) (hf : m_X8_restore n v0 v1 v2 v3 v4 = some res) : CI l yX8_restore wX8_restore { frames := 2, cells := 0, slots := 0, locals := 90 } D y ek [.ref (a0 0), .ref (a3 0), .ref (a4 0)] [bX8 y a0 a1 a2 v0, bPH y a1 v1, bPD y a2 v2, bX3 y a3 v3, bX1 y a4 v4] (res.1) [bX8 y a0 a1 a2 res.2.1, bPH y a1 v1, bPD y a2 v2, bX3 y a3 res.2.2.1, bX1 y a4 res.2.2.2] 0 0 := by
  unfold m_X8_restore at hf
  refine ci_of (cc := cX8_restore) (maxL := 4) (by decide) rfl rfl (Nat.le_of_ble_eq_true rfl) ?_
  intro p e s m below meth c Q A F hret
  refine a_lv (lv' := [(0, .ref (a0 0)), (1, .ref (a3 0)), (2, .ref (a4 0))]) rfl ?_
  refine a_aloadn (pc := 0) (j := 0) F dX8_restore_0 rfl rfl ?_
  refine a_get (pc := 1) (kb := 0) (j := 0) (f := 0) F iW_X8 rfl rfl rfl (by decide) (tl q2_42) (fun _ h => h) rfl dX8_restore_1 ?_
  refine a_if_ne (pc := 4) (tgt := 9) F dX8_restore_4 (by decide) (fun h => ?_) (fun h => ?_)
  · replace hf := it_neg h hf
    refine a_aloadn (pc := 9) (j := 0) F dX8_restore_9 rfl rfl ?_
    refine a_dup (pc := 10) F dX8_restore_10 rfl ?_
    refine a_get (pc := 11) (kb := 0) (j := 0) (f := 0) F iW_X8 rfl rfl rfl (by decide) (tl q2_42) (fun _ h => h) rfl dX8_restore_11 ?_
    refine a_iconst (pc := 14) (v := 1) F dX8_restore_14 (by decide) ?_
    refine a_isub (pc := 15) F dX8_restore_15 ?_
    obtain ⟨t, et, hf⟩ := nm_some hf
    refine a_put (pc := 16) (kb := 0) (j := 0) (f := 0) (ty := .int) (bs' := [bX8 y a0 a1 a2 t, bPH y a1 v1, bPD y a2 v2, bX3 y a3 v3, bX1 y a4 v4]) F iW_X8 rfl rfl rfl (by decide) (tl q2_42) (fun _ h => h) tyX8 tyX8_ok nmX8 rfl rfl rfl rfl (Nat.le_of_ble_eq_true rfl) (by rw [et]; rfl) dX8_restore_16 ?_
    refine a_aloadn (pc := 19) (j := 0) F dX8_restore_19 rfl rfl ?_
    refine a_get (pc := 20) (kb := 0) (j := 0) (f := 1) F iW_X8 rfl rfl rfl (by decide) (tl q2_44) (fun _ h => h) rfl dX8_restore_20 ?_
    refine a_aloadn (pc := 23) (j := 0) F dX8_restore_23 rfl rfl ?_
    refine a_get (pc := 24) (kb := 0) (j := 0) (f := 0) F iW_X8 rfl rfl rfl (by decide) (tl q2_42) (fun _ h => h) rfl dX8_restore_24 ?_
    refine a_iadd (pc := 27) F dX8_restore_27 ?_
    refine a_bipush (pc := 28) (v := 12) F dX8_restore_28 (by decide) ?_
    refine a_irem (pc := 30) F dX8_restore_30 (by decide) ?_
    obtain ⟨x3, ex3, hf⟩ := nm_some hf
    refine a_nmi ex3 ?_
    refine a_istoren (pc := 31) (lv' := [(0, .ref (a0 0)), (1, .ref (a3 0)), (2, .ref (a4 0)), (3, .int x3)]) F [1, 2, 3, 0] dX8_restore_31 rfl (by decide) rfl ?_
    obtain ⟨hi, hf⟩ := gd_some hf
    refine a_aloadn (pc := 32) (j := 1) F dX8_restore_32 rfl rfl ?_
    refine a_aloadn (pc := 33) (j := 0) F dX8_restore_33 rfl rfl ?_
    refine a_get (pc := 34) (kb := 0) (j := 0) (f := 2) F iW_X8 rfl rfl rfl (by decide) (tl q2_45) (fun _ h => h) rfl dX8_restore_34 ?_
    refine a_iloadn (pc := 37) (j := 3) F dX8_restore_37 rfl rfl ?_
    refine a_aald (pc := 38) (kb := 0) (j := 1) (t0 := 4) F rfl rfl rfl hi dX8_restore_38 ?_
    obtain ⟨th, hth, hf⟩ := bd_some hf
    refine a_perm (bs' := [bX8 y a0 a1 a2 t, phR y a1 v1 x3.toNatClampNeg, bPD y a2 v2, bX3 y a3 v3, bX1 y a4 v4, bX3 y (a1 x3.toNatClampNeg) (v1 x3.toNatClampNeg)]) (pm_split (k := 1) rfl (PH_split hi.2)) ?_
    refine a_callVv (pc := 39) (bs' := [bX8 y a0 a1 a2 t, phR y a1 v1 x3.toNatClampNeg, bPD y a2 v2, bX3 y a3 th, bX1 y a4 v4, bX3 y (a1 x3.toNatClampNeg) (v1 x3.toNatClampNeg)]) (kb := 3) (j := 0) F [3, 5] (c_X3_copyFrom l D y ek n a3 (a1 x3.toNatClampNeg) _ _ _ hth) (cwV 1 F.1.2.2.2.2 (gV q2_141 q2_142 q2_143 q1_3 q2_144) rfl rfl rfl (by decide +kernel) ⟨Nat.le_of_ble_eq_true rfl, Nat.le_of_ble_eq_true rfl⟩) rfl rfl rfl rfl (by decide) rfl rfl rfl rfl rfl rfl (Nat.le_of_ble_eq_true rfl) ⟨Nat.zero_le _, Nat.zero_le _⟩ dX8_restore_39 ?_
    refine a_perm (bs' := [bX8 y a0 a1 a2 t, bPH y a1 v1, bPD y a2 v2, bX3 y a3 th, bX1 y a4 v4]) (pm_split (bs := [bX8 y a0 a1 a2 t, bPH y a1 v1, bPD y a2 v2, bX3 y a3 th, bX1 y a4 v4]) (k := 1) rfl (PH_split hi.2)).symm ?_
    refine a_aloadn (pc := 42) (j := 2) F dX8_restore_42 rfl rfl ?_
    refine a_aloadn (pc := 43) (j := 0) F dX8_restore_43 rfl rfl ?_
    refine a_get (pc := 44) (kb := 0) (j := 0) (f := 3) F iW_X8 rfl rfl rfl (by decide) (tl q2_46) (fun _ h => h) rfl dX8_restore_44 ?_
    refine a_iloadn (pc := 47) (j := 3) F dX8_restore_47 rfl rfl ?_
    refine a_aald (pc := 48) (kb := 0) (j := 2) (t0 := 5) F rfl rfl rfl hi dX8_restore_48 ?_
    obtain ⟨td, htd, hf⟩ := bd_some hf
    refine a_perm (bs' := [bX8 y a0 a1 a2 t, bPH y a1 v1, pdR y a2 v2 x3.toNatClampNeg, bX3 y a3 th, bX1 y a4 v4, bX1 y (a2 x3.toNatClampNeg) (v2 x3.toNatClampNeg)]) (pm_split (k := 2) rfl (PD_split hi.2)) ?_
    refine a_callVv (pc := 49) (bs' := [bX8 y a0 a1 a2 t, bPH y a1 v1, pdR y a2 v2 x3.toNatClampNeg, bX3 y a3 th, bX1 y a4 td, bX1 y (a2 x3.toNatClampNeg) (v2 x3.toNatClampNeg)]) (kb := 4) (j := 0) F [4, 5] (c_X1_copyFrom l D y ek n a4 (a2 x3.toNatClampNeg) _ _ _ htd) (cwV 1 F.1.2.2.2.2 (gV q2_148 q2_149 q2_150 q1_5 q2_151) rfl rfl rfl (by decide +kernel) ⟨Nat.le_of_ble_eq_true rfl, Nat.le_of_ble_eq_true rfl⟩) rfl rfl rfl rfl (by decide) rfl rfl rfl rfl rfl rfl (Nat.le_of_ble_eq_true rfl) ⟨Nat.zero_le _, Nat.zero_le _⟩ dX8_restore_49 ?_
    refine a_perm (bs' := [bX8 y a0 a1 a2 t, bPH y a1 v1, bPD y a2 v2, bX3 y a3 th, bX1 y a4 td]) (pm_split (bs := [bX8 y a0 a1 a2 t, bPH y a1 v1, bPD y a2 v2, bX3 y a3 th, bX1 y a4 td]) (k := 2) rfl (PD_split hi.2)).symm ?_
    refine a_iconst (pc := 52) (v := 1) F dX8_restore_52 (by decide) ?_
    obtain rfl := Option.some.inj hf
    exact hret _ _ _ _ (Nat.zero_le _) (Nat.zero_le _) (z_nar (Or.inr rfl)) dX8_restore_53
  · replace hf := it_pos h hf
    refine a_iconst (pc := 7) (v := 0) F dX8_restore_7 (by decide) ?_
    obtain rfl := Option.some.inj hf
    exact hret _ _ _ _ (Nat.zero_le _) (Nat.zero_le _) (z_nar (Or.inl rfl)) dX8_restore_8

