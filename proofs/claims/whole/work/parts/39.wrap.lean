abbrev bAL1 (y : Nat → ClassId) (a : Nat → Nat) (v : Nat → Int64) : va_W := [(a 0, .inl (y 3, 1, .inr (.inl v)))]
section LROWS
variable {p : Program} {l : Launch} {e : Env} {R : Room} {s : State} {m : MethodId} {args : Array Value} {below : List Frame} {meth : Method} {c : Code} {Q : State → Prop} {D : va_G} {y : Nat → ClassId} {ek : EK} {A : Nat → Prop} {nL cells slots pc : Nat} {cc : ByteArray} {own : String} {Ts : List Cond} {lv : List (Nat × Value)} {st : List Value} {bs : List va_W}
theorem a_astoren (F : Fx p s m args c cc own Ts nL D y ek A) {k0 : Fin 4} {i x : Nat} {lv' : List (Nat × Value)} (ks : List Nat) (hd : decode cc pc = .ok (.astore_n k0, 1)) (hi : (k0 : Nat) = i) (hn : i < nL) (hl' : lv_pick ((i, Value.ref x) :: lv.filter (fun q => !(q.1 == i) && !(q.1 + 1 == i && q.2.category == 2))) ks = lv') (k : At p l e R s m args below meth c Q D A nL cells slots (pc + 1) lv' st bs) : At p l e R s m args below meth c Q D A nL cells slots pc lv (.ref x :: st) bs :=
  fun H locs ls hP hD hS hl => lv_astore_n F.1.1 F.1.2.1 hd hi hl hn rfl (fun ls' h => k H locs ls' hP hD hS (lv_sub h ks hl'))
theorem a_astore (F : Fx p s m args c cc own Ts nL D y ek A) {i x : Nat} {lv' : List (Nat × Value)} (ks : List Nat) (hd : decode cc pc = .ok (.astore i, 2)) (hn : i < nL) (hl' : lv_pick ((i, Value.ref x) :: lv.filter (fun q => !(q.1 == i) && !(q.1 + 1 == i && q.2.category == 2))) ks = lv') (k : At p l e R s m args below meth c Q D A nL cells slots (pc + 2) lv' st bs) : At p l e R s m args below meth c Q D A nL cells slots pc lv (.ref x :: st) bs :=
  fun H locs ls hP hD hS hl => lv_astore F.1.1 F.1.2.1 hd hl hn rfl (fun ls' h => k H locs ls' hP hD hS (lv_sub h ks hl'))
theorem a_i2l (F : Fx p s m args c cc own Ts nL D y ek A) {x : Int32} (hd : decode cc pc = .ok (.i2l, 1)) (k : At p l e R s m args below meth c Q D A nL cells slots (pc + 1) lv (.long x.toInt64 :: st) bs) : At p l e R s m args below meth c Q D A nL cells slots pc lv (.int x :: st) bs :=
  fun H locs ls hP hD hS hl => lv_i2l F.1.1 F.1.2.1 hd rfl (k H locs ls hP hD hS hl)
theorem a_lconst (F : Fx p s m args c cc own Ts nL D y ek A) {n : Fin 2} {v : Int64} (hd : decode cc pc = .ok (.lconst n, 1)) (hv : Int64.ofNat (n : Nat) = v) (k : At p l e R s m args below meth c Q D A nL cells slots (pc + 1) lv (.long v :: st) bs) : At p l e R s m args below meth c Q D A nL cells slots pc lv st bs :=
  fun H locs ls hP hD hS hl => lv_lconst F.1.1 F.1.2.1 hd hv (k H locs ls hP hD hS hl)
theorem a_lcmp (F : Fx p s m args c cc own Ts nL D y ek A) {x z : Int64} (hd : decode cc pc = .ok (.lcmp, 1)) (k : At p l e R s m args below meth c Q D A nL cells slots (pc + 1) lv (.int (lg_cmp x z) :: st) bs) : At p l e R s m args below meth c Q D A nL cells slots pc lv (.long z :: .long x :: st) bs :=
  fun H locs ls hP hD hS hl => W.lcmp F.1.1 F.1.2.1 hd (k H locs ls hP hD hS hl)
theorem a_nml {x z : Int64} (h : z = x) (k : At p l e R s m args below meth c Q D A nL cells slots pc lv (.long z :: st) bs) : At p l e R s m args below meth c Q D A nL cells slots pc lv (.long x :: st) bs := by subst h; exact k
theorem a_laldc (F : Fx p s m args c cc own Ts nL D y ek A) {kb j n k : Nat} {b : va_W} {a : Nat} {f : Nat → Int64} {i : Int32} (hb : bs[kb]? = some b) (hj : b[j]? = some (a, .inl (y 3, n, .inr (.inl f)))) (hi : ix i n) (hk : i.toNatClampNeg = k) (hd : decode cc pc = .ok (.laload, 1)) (kk : At p l e R s m args below meth c Q D A nL cells slots (pc + 1) lv (.long (f k) :: st) bs) : At p l e R s m args below meth c Q D A nL cells slots pc lv (.int i :: .ref a :: st) bs := by
  subst hk
  intro H locs ls hP hD hS hl
  obtain ⟨i0, h0⟩ := fl_at hb hj
  exact va_lald F.1.1 F.1.2.1 F.2.1 hP i0 3 h0 rfl (ix_in hi) hd (kk H locs ls hP hD hS hl)
theorem a_lastc (F : Fx p s m args c cc own Ts nL D y ek A) {bs' : List va_W} {x : Int64} {kb j n k : Nat} {b : va_W} {a : Nat} {f : Nat → Int64} {i : Int32} (hb : bs[kb]? = some b) (hj : b[j]? = some (a, .inl (y 3, n, .inr (.inl f)))) (hi : ix i n) (hk : i.toNatClampNeg = k) (hbs : bs.set kb (b.set j (a, .inl (y 3, n, .inr (.inl (vp_updL f k x))))) = bs') (hd : decode cc pc = .ok (.lastore, 1)) (kk : At p l e R s m args below meth c Q D A nL cells slots (pc + 1) lv st bs') : At p l e R s m args below meth c Q D A nL cells slots pc lv (.long x :: .int i :: .ref a :: st) bs := by
  subst hk
  intro H locs ls hP hD hS hl
  obtain ⟨i0, h0, hset⟩ := fl_set hb hj
  exact va_last F.1.1 F.1.2.1 F.2.1 hP hD hS i0 3 h0 rfl (ix_in hi) hd (fun H1 locs1 hP1 hD1 hS1 => kk H1 locs1 ls (by rw [← hbs, ← hset]; exact hP1) (by rw [← hbs, ← hset]; exact hD1) hS1 hl)
variable {y0 : MethodName} {ws : List Cond} {rm : Room} {bs0 bs1 bs' : List va_W} {bytes : ByteArray} {maxL n index mc ms : Nat} {ret : Option FieldType} {C : String} {b : Nat} {As : List Value} {E : String} {r : Int32}
/-- a call that throws, caught here -/
theorem a_callVc (F : Fx p s m args c cc own Ts nL D y ek A) (ks : List Nat) (hM : CX l y0 ws rm D y ek (.ref b :: As) bs0 E bs1 mc ms) (cw : CallW R s args own C index y0 bytes maxL ret ws rm mc ms n)
    {kb j ci : Nat} {b0 : va_W} {q : vw_C} {fs : List Value} (hb : bs[kb]? = some b0) (hj : b0[j]? = some (b, .inr (ci, fs))) (hc : vwCl[ci]? = some q) (hC : q.1 = C)
    (hn : va_nd ks = true) (hk0 : ks.all (fun k => Nat.blt k bs.length) = true) (hl1 : bs1.length = ks.length) (hs : sB bs ks = bs0) (hbs : pB bs ks bs1 = bs')
    (hAs : As.length = n) {st0 : List Value} (hst : st0 = As.reverse ++ .ref b :: st) (hW : (st.map fun v => v.category).sum ≤ 8) (hf : cells + mc ≤ R.cells ∧ slots + ms ≤ R.slots) (hd : decode cc pc = .ok (.invokevirtual index, 3))
    (pre : List ExceptionTableEntry) (x : ExceptionTableEntry) (suf : List ExceptionTableEntry) (hsplit : c.exceptionTable.toList = pre ++ x :: suf) (hpass : ∀ z ∈ pre, covers z pc = false ∨ (z.catchType ≠ 0 ∧ ∃ nm : String, (Cond.classLink own z.catchType nm).before args s = true ∧ va_Nc E nm s)) (hx : covers x pc = true) (h0 : x.catchType ≠ 0)
    {nm : String} (hlink : Cond.classLink own x.catchType nm ∈ Ts) (hcast : (Cond.castable E nm).before args s = true)
    (kk : ∀ q9 : Nat, At p l e R s m args below meth c Q D A nL (cells + mc) (slots + ms) x.handlerPc lv [.ref q9] bs') : At p l e R s m args below meth c Q D A nL cells slots pc lv st0 bs :=
  a_callVx F ks hM cw hb hj hc hC hn hk0 hl1 hs hbs hAs hst hW hf hd (fun H1 locs1 ls q9 ce h1 h2 h3 h4 h5 h6 h7 => vx_catch F.1.2.2.2.1 pre x suf hsplit hpass hx h0 (F.1.2.2.2.2 _ hlink) hcast h5 h6 h7 (kk q9 H1 locs1 ls h1 h2 h3 h4))
theorem a_callSW (F : Fx p s m args c cc own Ts nL D y ek A) (ks : List Nat) {hh : List (Nat × Nat × Nat × Nat)} (hM : CI l y0 ws rm D y ek As bs0 r bs1 mc ms) (cw : vx_CSW R s args own index y0 bytes maxL ret hh ws rm mc ms n)
    (hn : va_nd ks = true) (hk0 : ks.all (fun k => Nat.blt k bs.length) = true) (hl1 : bs1.length = ks.length) (hs : sB bs ks = bs0) (hbs : pB bs ks bs1 = bs')
    (hAs : As.length = n) {st0 : List Value} (hst : st0 = As.reverse ++ st) (hW : (st.map fun v => v.category).sum ≤ 8) (hf : cells + mc ≤ R.cells ∧ slots + ms ≤ R.slots) (hd : decode cc pc = .ok (.invokestatic index, 3))
    (k : At p l e R s m args below meth c Q D A nL (cells + mc) (slots + ms) (pc + 3) lv (.int r :: st) bs') : At p l e R s m args below meth c Q D A nL cells slots pc lv st0 bs := by
  intro H locs ls hP hD hS hl
  have hk := b_all hk0
  obtain ⟨hPc, hDc, hF⟩ := b_cut hP hD hS F.2.2.1 hn hk hs
  refine va_calli (vx_runSW (As := As) (rest := st) F.1 (hM H.size) cw ⟨pc_blind, fun U hU hW => ⟨rfl, by rw [hU], by rw [hU]; exact b_left hPc, va_K.moved hW.alike F.2.1, b_leftD hDc, F.2.2.2.call hS hW hU hF⟩⟩ rfl hAs hl.1 hst (lv_room hW) hd hf) hS (fun q _ h => hF q h) hF (fun r1 u t H1 locs1 ht hvm hw hB hz1 hk1 hS1 => ?_)
  obtain ⟨hP1, hK1, hD1⟩ := hB
  rw [ht] at hP1
  subst hw
  obtain ⟨g1, g2⟩ := b_back hPc hDc hF hn hk hl1 hk1 hP1 hD1
  rw [hbs] at g1 g2
  exact k H1 locs1 ls g1 g2 hS1 hl
theorem a_widen {cells' slots' : Nat} (h1 : cells ≤ cells') (h2 : slots ≤ slots') (k : At p l e R s m args below meth c Q D A nL cells' slots' pc lv st bs) : At p l e R s m args below meth c Q D A nL cells slots pc lv st bs :=
  fun H locs ls hP hD hS hl => W.widen h1 h2 (k H locs ls hP hD hS hl)
end LROWS
theorem gSW {c : Cond} {own : String} {idx ml : Nat} {y : MethodName} {cc : ByteArray} {ret : Option FieldType} {hh : List (Nat × Nat × Nat × Nat)} (h1 : Cond.methodLink own idx y ∈ WALL) (h2 : Cond.static y ∈ WALL) (h4 : Cond.initialized y.cls ∈ WALL) (h5 : Cond.codeWith y cc ml ret hh ∈ WALL) : GoodIn (c :: WALL) (va_wsS own idx y (Cond.codeWith y cc ml ret hh :: WALL)) := by
  refine g_all fun w hw => ?_
  simp only [va_wsS, List.cons_append, List.nil_append, List.mem_cons] at hw
  rcases hw with rfl | rfl | rfl | rfl | hw <;> assumption
section WENDS
variable {l : Launch} {y0 : MethodName} {ws ws' : List Cond} {rm : Room} {D : va_G} {y : Nat → ClassId} {ek : EK} {as : List Value} {bs0 bs1 : List va_W} {cc : ByteArray} {maxL mc ms : Nat} {hh : List (Nat × Nat × Nat × Nat)} {own : String}
theorem ci_ofW {r : Int32} (hy : plainName y0.cls = true) (hw : ws = Cond.codeWith y0 cc maxL (some .int) hh :: ws') (hown : y0.cls = own) (hml : (lg_sl as).length ≤ maxL)
    (body : ∀ (p : Program) (e : Env) (s : State) (m : MethodId) (below : List Frame) (meth : Method) (c : Code) (Q : State → Prop) (A : Nat → Prop), Fx p s m as.toArray c cc own ws maxL D y ek A → c.exceptionTable.toList = tableOf hh →
      (∀ (pc cells slots : Nat) (lv : List (Nat × Value)), cells ≤ mc → slots ≤ ms → decode cc pc = .ok (.ireturn, 1) → At p l e (headSpec ws rm).room s m as.toArray below meth c Q D A maxL cells slots pc lv [.int r] bs1) →
      At p l e (headSpec ws rm).room s m as.toArray below meth c Q D A maxL 0 0 0 (lv_args 0 as) [] bs0) : CI l y0 ws rm D y ek as bs0 r bs1 mc ms := by
  intro sz
  refine va_MetW (cc := cc) (maxL := maxL) (ret := some .int) (hh := hh) hy hw ?_
  intro p e s m args below meth c s₁ B hmx hv
  obtain ⟨rfl, hsz, hP, hK, hD0, hE⟩ := hv
  have hts := atoms_spec (ws := ws) B.pre
  have hxt : c.exceptionTable.toList = tableOf hh := vx_table (x := y0) B (hts _ (by rw [hw]; exact List.mem_cons_self))
  have hown0 : s.vm.findClass own = some m.cls := by rw [← hown]; exact findClass_of_methodNamed B.named
  have hlocks := B.notSynchronized
  subst hsz
  have hD := hD0.self (sz := s.heap.size)
  have hl := lv_entry as (n := maxL) hml
  rw [lg_entry_eq]
  refine body p e s m below meth c _ (va_A bs0.flatten s.heap.size) ⟨⟨B.exec, B.bytes, hmx, hown0, hts⟩, hK, fun q h => Or.inr h, hE⟩ hxt ?_ s.heap [] _ hP hD va_S.rf hl
  intro pc cells slots lv hc hs hd H locs ls hP1 hD1 hS1 hl1
  refine W.widen (k := mc) (n := ms) hc hs ?_
  exact W.zret (ty := .int) B.exec B.bytes B.returns rfl (fun t ht hW => ⟨⟨r, (), rfl, rfl, by rw [ht]; exact hP1, va_K.moved hW.alike hK, hD1⟩, hS1.F ht⟩) hS1.2.2 hd hlocks
end WENDS
abbrev wL_hill : List Cond := Cond.codeWith yL_hill cL_hill 3 (some .int) [(0, 8, 11, 13), (0, 8, 14, 15)] :: WALL
def m_L_hill (n : Nat) (v0 : St) (v1 : St) (v2 : St) (v3 : St) (v4 : St) (v5 : St) (v6 : St) (v7 : Nat → Int64) : Option (Int32 × St × St × St × St × St × St × (Nat → Int64)) :=
  bd (m_X11_hill n v0 v1 v2 v3 v4 v5 v6) (fun t => sm t (fun a => some (0, a.2.1, a.2.2.1, a.2.2.2.1, a.2.2.2.2.1, a.2.2.2.2.2.1, a.2.2.2.2.2.2, vp_updL v7 0 (a.1).toInt64)) (fun x => (if x.1 = 0 then some (1, x.2.1, x.2.2.1, x.2.2.2.1, x.2.2.2.2.1, x.2.2.2.2.2.1, x.2.2.2.2.2.2, v7) else (if x.1 = 1 then some (2, x.2.1, x.2.2.1, x.2.2.2.1, x.2.2.2.2.1, x.2.2.2.2.2.1, x.2.2.2.2.2.2, v7) else none))))
set_option maxHeartbeats 4000000 in
set_option maxRecDepth 100000 in
theorem c_L_hill (l : Launch) (hlt : l.stackTraces = false) (D : va_G) (y : Nat → ClassId) (ek : EK) (n : Nat) (a0 : Nat → Nat) (a1 : Nat → Nat) (a2 : Nat → Nat) (a3 : Nat → Nat) (a4 : Nat → Nat) (a5 : Nat → Nat) (a6 : Nat → Nat) (a7 : Nat → Nat) (z0_lawReader : Nat) (z0_rules : Nat) (z0_diary : Nat) (z0_draft : Nat) (z0_spareDiary : Nat) (z0_guess : Nat) (z0_imageHill : Nat) (z0_imageRules : Nat) (z0_imageDiary : Nat) (z6_hills : Nat → Nat → Nat) (z6_diaries : Nat → Nat → Nat) (v0 : St) (v1 : St) (v2 : St) (v3 : St) (v4 : St) (v5 : St) (v6 : St) (v7 : Nat → Int64) (res : Int32 × St × St × St × St × St × St × (Nat → Int64)) (hf : m_L_hill n v0 v1 v2 v3 v4 v5 v6 v7 = some res) : CI l yL_hill wL_hill { frames := 8, cells := 1, slots := 6, locals := 182 } D y ek [.ref (a0 0), .ref (a7 0)] [bX11 y a0 (a1 0) (a2 0) (a3 0) z0_lawReader (a4 0) z0_rules z0_diary (a5 0) z0_draft z0_spareDiary z0_guess (a6 0) z0_imageHill z0_imageRules z0_imageDiary v0, bAB400 y a1 v1, bX10 y a2 v2, bX4 y a3 (a2 0) (a5 0) v3, bX3 y a4 v4, bX3 y a5 v5, bX8 y a6 z6_hills z6_diaries v6, bAL1 y a7 v7] (res.1) [bX11 y a0 (a1 0) (a2 0) (a3 0) z0_lawReader (a4 0) z0_rules z0_diary (a5 0) z0_draft z0_spareDiary z0_guess (a6 0) z0_imageHill z0_imageRules z0_imageDiary res.2.1, bAB400 y a1 v1, bX10 y a2 res.2.2.1, bX4 y a3 (a2 0) (a5 0) res.2.2.2.1, bX3 y a4 res.2.2.2.2.1, bX3 y a5 res.2.2.2.2.2.1, bX8 y a6 z6_hills z6_diaries res.2.2.2.2.2.2.1, bAL1 y a7 res.2.2.2.2.2.2.2] 1 6 := by
  unfold m_L_hill at hf
  refine ci_ofW (cc := cL_hill) (maxL := 3) (by decide) rfl rfl (Nat.le_of_ble_eq_true rfl) ?_
  intro p e s m below meth c Q A F hxt hret
  refine a_lv (lv' := [(0, .ref (a0 0)), (1, .ref (a7 0))]) rfl ?_
  obtain ⟨t, ht, hf⟩ := bd_some hf
  refine a_aloadn (pc := 0) (j := 1) F dL_hill_0 rfl rfl ?_
  refine a_iconst (pc := 1) (v := 0) F dL_hill_1 (by decide) ?_
  refine a_aloadn (pc := 2) (j := 0) F dL_hill_2 rfl rfl ?_
  rcases t with a | x
  · replace hf := sm_inl hf
    obtain rfl := Option.some.inj hf
    refine a_callV (pc := 3) (bs' := [bX11 y a0 (a1 0) (a2 0) (a3 0) z0_lawReader (a4 0) z0_rules z0_diary (a5 0) z0_draft z0_spareDiary z0_guess (a6 0) z0_imageHill z0_imageRules z0_imageDiary a.2.1, bAB400 y a1 v1, bX10 y a2 a.2.2.1, bX4 y a3 (a2 0) (a5 0) a.2.2.2.1, bX3 y a4 a.2.2.2.2.1, bX3 y a5 a.2.2.2.2.2.1, bX8 y a6 z6_hills z6_diaries a.2.2.2.2.2.2, bAL1 y a7 v7]) (kb := 0) (j := 0) F [0, 1, 2, 3, 4, 5, 6] (c_X11_hill l D y ek n a0 a1 a2 a3 a4 a5 a6 z0_lawReader z0_rules z0_diary z0_draft z0_spareDiary z0_guess z0_imageHill z0_imageRules z0_imageDiary z6_hills z6_diaries _ _ _ _ _ _ _ _ ht) (cwV 0 F.1.2.2.2.2 (gV q3_98 q3_99 q3_100 q1_1 q3_101) rfl rfl rfl (by decide +kernel) ⟨Nat.le_of_ble_eq_true rfl, Nat.le_of_ble_eq_true rfl⟩) rfl rfl rfl rfl (by decide) rfl rfl rfl rfl rfl rfl (Nat.le_of_ble_eq_true rfl) ⟨Nat.le_of_ble_eq_true rfl, Nat.le_of_ble_eq_true rfl⟩ dL_hill_3 ?_
    refine a_i2l (pc := 6) F dL_hill_6 ?_
    refine a_lastc (pc := 7) (kb := 7) (j := 0) (k := 0) (bs' := [bX11 y a0 (a1 0) (a2 0) (a3 0) z0_lawReader (a4 0) z0_rules z0_diary (a5 0) z0_draft z0_spareDiary z0_guess (a6 0) z0_imageHill z0_imageRules z0_imageDiary a.2.1, bAB400 y a1 v1, bX10 y a2 a.2.2.1, bX4 y a3 (a2 0) (a5 0) a.2.2.2.1, bX3 y a4 a.2.2.2.2.1, bX3 y a5 a.2.2.2.2.2.1, bX8 y a6 z6_hills z6_diaries a.2.2.2.2.2.2, bAL1 y a7 (vp_updL v7 0 (a.1).toInt64)]) F rfl rfl (by decide) (by decide) rfl dL_hill_7 ?_
    refine a_goto (pc := 8) (tgt := 17) F dL_hill_8 (by decide) ?_
    refine a_iconst (pc := 17) (v := 0) F dL_hill_17 (by decide) ?_
    exact hret _ _ _ _ (Nat.le_of_ble_eq_true rfl) (Nat.le_of_ble_eq_true rfl) dL_hill_18
  · replace hf := sm_inr hf
    by_cases h0 : x.1 = 0
    · replace hf := it_pos h0 hf
      obtain rfl := Option.some.inj hf
      have hM := x_X11_hill l hlt D y ek n a0 a1 a2 a3 a4 a5 a6 z0_lawReader z0_rules z0_diary z0_draft z0_spareDiary z0_guess z0_imageHill z0_imageRules z0_imageDiary z6_hills z6_diaries _ _ _ _ _ _ _ _ ht
      rw [h0] at hM
      refine a_callVc (pc := 3) (bs' := [bX11 y a0 (a1 0) (a2 0) (a3 0) z0_lawReader (a4 0) z0_rules z0_diary (a5 0) z0_draft z0_spareDiary z0_guess (a6 0) z0_imageHill z0_imageRules z0_imageDiary x.2.1, bAB400 y a1 v1, bX10 y a2 x.2.2.1, bX4 y a3 (a2 0) (a5 0) x.2.2.2.1, bX3 y a4 x.2.2.2.2.1, bX3 y a5 x.2.2.2.2.2.1, bX8 y a6 z6_hills z6_diaries x.2.2.2.2.2.2, bAL1 y a7 v7]) (kb := 0) (j := 0) F [0, 1, 2, 3, 4, 5, 6] hM (cwV 0 F.1.2.2.2.2 (gV q3_98 q3_99 q3_100 q1_1 q3_101) rfl rfl rfl (by decide +kernel) ⟨Nat.le_of_ble_eq_true rfl, Nat.le_of_ble_eq_true rfl⟩) rfl rfl rfl rfl (by decide) rfl rfl rfl rfl rfl rfl (Nat.le_of_ble_eq_true rfl) ⟨Nat.le_of_ble_eq_true rfl, Nat.le_of_ble_eq_true rfl⟩ dL_hill_3 [] ⟨0, 8, 11, 13⟩ [⟨0, 8, 14, 15⟩] (hxt.trans rfl) (fun z hz => absurd hz List.not_mem_nil) (by decide) (by decide) (nm := "java/lang/IllegalArgumentException") (tl q3_96) ((F.2.2.2.2.2.2.2.2.2.2.2.2.1 "java/lang/IllegalArgumentException" (by decide)).use rfl) (fun q9 => ?_)
      refine a_astoren (pc := 11) (lv' := [(0, .ref (a0 0)), (1, .ref (a7 0))]) F [1, 2] dL_hill_11 rfl (by decide) rfl ?_
      refine a_iconst (pc := 12) (v := 1) F dL_hill_12 (by decide) ?_
      exact hret _ _ _ _ (Nat.le_of_ble_eq_true rfl) (Nat.le_of_ble_eq_true rfl) dL_hill_13
    replace hf := it_neg h0 hf
    by_cases h1 : x.1 = 1
    · replace hf := it_pos h1 hf
      obtain rfl := Option.some.inj hf
      have hM := x_X11_hill l hlt D y ek n a0 a1 a2 a3 a4 a5 a6 z0_lawReader z0_rules z0_diary z0_draft z0_spareDiary z0_guess z0_imageHill z0_imageRules z0_imageDiary z6_hills z6_diaries _ _ _ _ _ _ _ _ ht
      rw [h1] at hM
      refine a_callVc (pc := 3) (bs' := [bX11 y a0 (a1 0) (a2 0) (a3 0) z0_lawReader (a4 0) z0_rules z0_diary (a5 0) z0_draft z0_spareDiary z0_guess (a6 0) z0_imageHill z0_imageRules z0_imageDiary x.2.1, bAB400 y a1 v1, bX10 y a2 x.2.2.1, bX4 y a3 (a2 0) (a5 0) x.2.2.2.1, bX3 y a4 x.2.2.2.2.1, bX3 y a5 x.2.2.2.2.2.1, bX8 y a6 z6_hills z6_diaries x.2.2.2.2.2.2, bAL1 y a7 v7]) (kb := 0) (j := 0) F [0, 1, 2, 3, 4, 5, 6] hM (cwV 0 F.1.2.2.2.2 (gV q3_98 q3_99 q3_100 q1_1 q3_101) rfl rfl rfl (by decide +kernel) ⟨Nat.le_of_ble_eq_true rfl, Nat.le_of_ble_eq_true rfl⟩) rfl rfl rfl rfl (by decide) rfl rfl rfl rfl rfl rfl (Nat.le_of_ble_eq_true rfl) ⟨Nat.le_of_ble_eq_true rfl, Nat.le_of_ble_eq_true rfl⟩ dL_hill_3 [⟨0, 8, 11, 13⟩] ⟨0, 8, 14, 15⟩ [] (hxt.trans rfl) (fun z hz => by rcases List.mem_singleton.mp hz with rfl; exact Or.inr ⟨by decide, "java/lang/IllegalArgumentException", F.1.2.2.2.2 _ (tl q3_96), F.2.2.2.2.2.2.2.2.2.2.2.2.2.2.1 ("java/lang/UnsupportedOperationException", "java/lang/IllegalArgumentException") (by decide)⟩) (by decide) (by decide) (nm := "java/lang/UnsupportedOperationException") (tl q3_97) ((F.2.2.2.2.2.2.2.2.2.2.2.2.1 "java/lang/UnsupportedOperationException" (by decide)).use rfl) (fun q9 => ?_)
      refine a_astoren (pc := 14) (lv' := [(0, .ref (a0 0)), (1, .ref (a7 0))]) F [1, 2] dL_hill_14 rfl (by decide) rfl ?_
      refine a_iconst (pc := 15) (v := 2) F dL_hill_15 (by decide) ?_
      exact hret _ _ _ _ (Nat.le_of_ble_eq_true rfl) (Nat.le_of_ble_eq_true rfl) dL_hill_16
    replace hf := it_neg h1 hf
    cases hf

abbrev wL_law : List Cond := Cond.codeWith yL_law cL_law 3 (some .int) [(0, 8, 11, 13)] :: WALL
def m_L_law (n : Nat) (v0 : St) (v1 : St) (v2 : St) (v3 : St) (v4 : St) (v5 : St) (v6 : St) (v7 : Nat → Int64) : Option (Int32 × St × St × St × St × St × St × (Nat → Int64)) :=
  bd (m_X11_law n v0 v1 v2 v3 v4 v5 v6) (fun t => sm t (fun a => some (0, a.2.1, a.2.2.1, a.2.2.2.1, a.2.2.2.2.1, a.2.2.2.2.2.1, a.2.2.2.2.2.2, vp_updL v7 0 (a.1).toInt64)) (fun x => (if x.1 = 0 then some (1, x.2.1, x.2.2.1, x.2.2.2.1, x.2.2.2.2.1, x.2.2.2.2.2.1, x.2.2.2.2.2.2, v7) else none)))
set_option maxHeartbeats 4000000 in
set_option maxRecDepth 100000 in
theorem c_L_law (l : Launch) (hlt : l.stackTraces = false) (D : va_G) (y : Nat → ClassId) (ek : EK) (n : Nat) (a0 : Nat → Nat) (a1 : Nat → Nat) (a2 : Nat → Nat) (a3 : Nat → Nat) (a4 : Nat → Nat) (a5 : Nat → Nat) (a6 : Nat → Nat) (a7 : Nat → Nat) (z0_hillReader : Nat) (z0_now : Nat) (z0_diary : Nat) (z0_spare : Nat) (z0_spareDiary : Nat) (z0_guess : Nat) (z0_imageHill : Nat) (z0_imageRules : Nat) (z0_imageDiary : Nat) (z6_hills : Nat → Nat → Nat) (z6_diaries : Nat → Nat → Nat) (v0 : St) (v1 : St) (v2 : St) (v3 : St) (v4 : St) (v5 : St) (v6 : St) (v7 : Nat → Int64) (res : Int32 × St × St × St × St × St × St × (Nat → Int64)) (hf : m_L_law n v0 v1 v2 v3 v4 v5 v6 v7 = some res) : CI l yL_law wL_law { frames := 70, cells := 1, slots := 6, locals := 1601 } D y ek [.ref (a0 0), .ref (a7 0)] [bX11 y a0 (a1 0) (a2 0) z0_hillReader (a3 0) z0_now (a4 0) z0_diary z0_spare (a5 0) z0_spareDiary z0_guess (a6 0) z0_imageHill z0_imageRules z0_imageDiary v0, bAB400 y a1 v1, bX10 y a2 v2, bX6 y a3 (a2 0) (a5 0) v3, bX5 y a4 v4, bX5 y a5 v5, bX8 y a6 z6_hills z6_diaries v6, bAL1 y a7 v7] (res.1) [bX11 y a0 (a1 0) (a2 0) z0_hillReader (a3 0) z0_now (a4 0) z0_diary z0_spare (a5 0) z0_spareDiary z0_guess (a6 0) z0_imageHill z0_imageRules z0_imageDiary res.2.1, bAB400 y a1 v1, bX10 y a2 res.2.2.1, bX6 y a3 (a2 0) (a5 0) res.2.2.2.1, bX5 y a4 res.2.2.2.2.1, bX5 y a5 res.2.2.2.2.2.1, bX8 y a6 z6_hills z6_diaries res.2.2.2.2.2.2.1, bAL1 y a7 res.2.2.2.2.2.2.2] 1 6 := by
  unfold m_L_law at hf
  refine ci_ofW (cc := cL_law) (maxL := 3) (by decide) rfl rfl (Nat.le_of_ble_eq_true rfl) ?_
  intro p e s m below meth c Q A F hxt hret
  refine a_lv (lv' := [(0, .ref (a0 0)), (1, .ref (a7 0))]) rfl ?_
  obtain ⟨t, ht, hf⟩ := bd_some hf
  refine a_aloadn (pc := 0) (j := 1) F dL_law_0 rfl rfl ?_
  refine a_iconst (pc := 1) (v := 0) F dL_law_1 (by decide) ?_
  refine a_aloadn (pc := 2) (j := 0) F dL_law_2 rfl rfl ?_
  rcases t with a | x
  · replace hf := sm_inl hf
    obtain rfl := Option.some.inj hf
    refine a_callV (pc := 3) (bs' := [bX11 y a0 (a1 0) (a2 0) z0_hillReader (a3 0) z0_now (a4 0) z0_diary z0_spare (a5 0) z0_spareDiary z0_guess (a6 0) z0_imageHill z0_imageRules z0_imageDiary a.2.1, bAB400 y a1 v1, bX10 y a2 a.2.2.1, bX6 y a3 (a2 0) (a5 0) a.2.2.2.1, bX5 y a4 a.2.2.2.2.1, bX5 y a5 a.2.2.2.2.2.1, bX8 y a6 z6_hills z6_diaries a.2.2.2.2.2.2, bAL1 y a7 v7]) (kb := 0) (j := 0) F [0, 1, 2, 3, 4, 5, 6] (c_X11_law l D y ek n a0 a1 a2 a3 a4 a5 a6 z0_hillReader z0_now z0_diary z0_spare z0_spareDiary z0_guess z0_imageHill z0_imageRules z0_imageDiary z6_hills z6_diaries _ _ _ _ _ _ _ _ ht) (cwV 0 F.1.2.2.2.2 (gV q4_133 q4_134 q4_135 q1_1 q4_136) rfl rfl rfl (by decide +kernel) ⟨Nat.le_of_ble_eq_true rfl, Nat.le_of_ble_eq_true rfl⟩) rfl rfl rfl rfl (by decide) rfl rfl rfl rfl rfl rfl (Nat.le_of_ble_eq_true rfl) ⟨Nat.le_of_ble_eq_true rfl, Nat.le_of_ble_eq_true rfl⟩ dL_law_3 ?_
    refine a_i2l (pc := 6) F dL_law_6 ?_
    refine a_lastc (pc := 7) (kb := 7) (j := 0) (k := 0) (bs' := [bX11 y a0 (a1 0) (a2 0) z0_hillReader (a3 0) z0_now (a4 0) z0_diary z0_spare (a5 0) z0_spareDiary z0_guess (a6 0) z0_imageHill z0_imageRules z0_imageDiary a.2.1, bAB400 y a1 v1, bX10 y a2 a.2.2.1, bX6 y a3 (a2 0) (a5 0) a.2.2.2.1, bX5 y a4 a.2.2.2.2.1, bX5 y a5 a.2.2.2.2.2.1, bX8 y a6 z6_hills z6_diaries a.2.2.2.2.2.2, bAL1 y a7 (vp_updL v7 0 (a.1).toInt64)]) F rfl rfl (by decide) (by decide) rfl dL_law_7 ?_
    refine a_goto (pc := 8) (tgt := 14) F dL_law_8 (by decide) ?_
    refine a_iconst (pc := 14) (v := 0) F dL_law_14 (by decide) ?_
    exact hret _ _ _ _ (Nat.le_of_ble_eq_true rfl) (Nat.le_of_ble_eq_true rfl) dL_law_15
  · replace hf := sm_inr hf
    by_cases h0 : x.1 = 0
    · replace hf := it_pos h0 hf
      obtain rfl := Option.some.inj hf
      have hM := x_X11_law l hlt D y ek n a0 a1 a2 a3 a4 a5 a6 z0_hillReader z0_now z0_diary z0_spare z0_spareDiary z0_guess z0_imageHill z0_imageRules z0_imageDiary z6_hills z6_diaries _ _ _ _ _ _ _ _ ht
      rw [h0] at hM
      refine a_callVc (pc := 3) (bs' := [bX11 y a0 (a1 0) (a2 0) z0_hillReader (a3 0) z0_now (a4 0) z0_diary z0_spare (a5 0) z0_spareDiary z0_guess (a6 0) z0_imageHill z0_imageRules z0_imageDiary x.2.1, bAB400 y a1 v1, bX10 y a2 x.2.2.1, bX6 y a3 (a2 0) (a5 0) x.2.2.2.1, bX5 y a4 x.2.2.2.2.1, bX5 y a5 x.2.2.2.2.2.1, bX8 y a6 z6_hills z6_diaries x.2.2.2.2.2.2, bAL1 y a7 v7]) (kb := 0) (j := 0) F [0, 1, 2, 3, 4, 5, 6] hM (cwV 0 F.1.2.2.2.2 (gV q4_133 q4_134 q4_135 q1_1 q4_136) rfl rfl rfl (by decide +kernel) ⟨Nat.le_of_ble_eq_true rfl, Nat.le_of_ble_eq_true rfl⟩) rfl rfl rfl rfl (by decide) rfl rfl rfl rfl rfl rfl (Nat.le_of_ble_eq_true rfl) ⟨Nat.le_of_ble_eq_true rfl, Nat.le_of_ble_eq_true rfl⟩ dL_law_3 [] ⟨0, 8, 11, 13⟩ [] (hxt.trans rfl) (fun z hz => absurd hz List.not_mem_nil) (by decide) (by decide) (nm := "java/lang/IllegalArgumentException") (tl q3_96) ((F.2.2.2.2.2.2.2.2.2.2.2.2.1 "java/lang/IllegalArgumentException" (by decide)).use rfl) (fun q9 => ?_)
      refine a_astoren (pc := 11) (lv' := [(0, .ref (a0 0)), (1, .ref (a7 0))]) F [1, 2] dL_law_11 rfl (by decide) rfl ?_
      refine a_iconst (pc := 12) (v := 1) F dL_law_12 (by decide) ?_
      exact hret _ _ _ _ (Nat.le_of_ble_eq_true rfl) (Nat.le_of_ble_eq_true rfl) dL_law_13
    replace hf := it_neg h0 hf
    cases hf

abbrev wL_plank : List Cond := Cond.codeWith yL_plank cL_plank 5 (some .int) [(0, 10, 13, 24), (0, 10, 17, 26)] :: WALL
def m_L_plank (n : Nat) (v0 : St) (v1 : St) (v2 : St) (v3 : Nat → Int64) (x1 : Int32) (x2 : Int32) : Option (Int32 × St × (Nat → Int64)) :=
  bd (m_X11_plank n v0 v1 v2 x1 x2) (fun t => sm t (fun a => some (0, a.2, vp_updL v3 0 (a.1).toInt64)) (fun x => (if x.1 = 2 then some (1, x.2, v3) else (if x.1 = 3 then some (2, x.2, v3) else none))))
set_option maxHeartbeats 4000000 in
set_option maxRecDepth 100000 in
theorem c_L_plank (l : Launch) (hlt : l.stackTraces = false) (D : va_G) (y : Nat → ClassId) (ek : EK) (n : Nat) (a0 : Nat → Nat) (a1 : Nat → Nat) (a2 : Nat → Nat) (a3 : Nat → Nat) (z0_tape : Nat) (z0_tokens : Nat) (z0_hillReader : Nat) (z0_lawReader : Nat) (z0_diary : Nat) (z0_spare : Nat) (z0_draft : Nat) (z0_spareDiary : Nat) (z0_guess : Nat) (z0_past : Nat) (z0_imageHill : Nat) (z0_imageRules : Nat) (z0_imageDiary : Nat) (v0 : St) (v1 : St) (v2 : St) (v3 : Nat → Int64) (x1 : Int32) (x2 : Int32) (res : Int32 × St × (Nat → Int64)) (hf : m_L_plank n v0 v1 v2 v3 x1 x2 = some res) : CI l yL_plank wL_plank { frames := 8, cells := 1, slots := 6, locals := 125 } D y ek [.ref (a0 0), .int x1, .int x2, .ref (a3 0)] [bX11 y a0 z0_tape z0_tokens z0_hillReader z0_lawReader (a1 0) (a2 0) z0_diary z0_spare z0_draft z0_spareDiary z0_guess z0_past z0_imageHill z0_imageRules z0_imageDiary v0, bX3 y a1 v1, bX5 y a2 v2, bAL1 y a3 v3] (res.1) [bX11 y a0 z0_tape z0_tokens z0_hillReader z0_lawReader (a1 0) (a2 0) z0_diary z0_spare z0_draft z0_spareDiary z0_guess z0_past z0_imageHill z0_imageRules z0_imageDiary v0, bX3 y a1 v1, bX5 y a2 res.2.1, bAL1 y a3 res.2.2] 1 6 := by
  unfold m_L_plank at hf
  refine ci_ofW (cc := cL_plank) (maxL := 5) (by decide) rfl rfl (Nat.le_of_ble_eq_true rfl) ?_
  intro p e s m below meth c Q A F hxt hret
  refine a_lv (lv' := [(0, .ref (a0 0)), (1, .int x1), (2, .int x2), (3, .ref (a3 0))]) rfl ?_
  obtain ⟨t, ht, hf⟩ := bd_some hf
  refine a_aloadn (pc := 0) (j := 3) F dL_plank_0 rfl rfl ?_
  refine a_iconst (pc := 1) (v := 0) F dL_plank_1 (by decide) ?_
  refine a_aloadn (pc := 2) (j := 0) F dL_plank_2 rfl rfl ?_
  refine a_iloadn (pc := 3) (j := 1) F dL_plank_3 rfl rfl ?_
  refine a_iloadn (pc := 4) (j := 2) F dL_plank_4 rfl rfl ?_
  rcases t with a | x
  · replace hf := sm_inl hf
    obtain rfl := Option.some.inj hf
    refine a_callV (pc := 5) (bs' := [bX11 y a0 z0_tape z0_tokens z0_hillReader z0_lawReader (a1 0) (a2 0) z0_diary z0_spare z0_draft z0_spareDiary z0_guess z0_past z0_imageHill z0_imageRules z0_imageDiary v0, bX3 y a1 v1, bX5 y a2 a.2, bAL1 y a3 v3]) (kb := 0) (j := 0) F [0, 1, 2] (c_X11_plank l D y ek n a0 a1 a2 z0_tape z0_tokens z0_hillReader z0_lawReader z0_diary z0_spare z0_draft z0_spareDiary z0_guess z0_past z0_imageHill z0_imageRules z0_imageDiary _ _ _ _ _ _ ht) (cwV 2 F.1.2.2.2.2 (gV q4_149 q4_150 q4_151 q1_1 q4_152) rfl rfl rfl (by decide +kernel) ⟨Nat.le_of_ble_eq_true rfl, Nat.le_of_ble_eq_true rfl⟩) rfl rfl rfl rfl (by decide) rfl rfl rfl rfl rfl rfl (Nat.le_of_ble_eq_true rfl) ⟨Nat.le_of_ble_eq_true rfl, Nat.le_of_ble_eq_true rfl⟩ dL_plank_5 ?_
    refine a_i2l (pc := 8) F dL_plank_8 ?_
    refine a_lastc (pc := 9) (kb := 3) (j := 0) (k := 0) (bs' := [bX11 y a0 z0_tape z0_tokens z0_hillReader z0_lawReader (a1 0) (a2 0) z0_diary z0_spare z0_draft z0_spareDiary z0_guess z0_past z0_imageHill z0_imageRules z0_imageDiary v0, bX3 y a1 v1, bX5 y a2 a.2, bAL1 y a3 (vp_updL v3 0 (a.1).toInt64)]) F rfl rfl (by decide) (by decide) rfl dL_plank_9 ?_
    refine a_goto (pc := 10) (tgt := 21) F dL_plank_10 (by decide) ?_
    refine a_iconst (pc := 21) (v := 0) F dL_plank_21 (by decide) ?_
    exact hret _ _ _ _ (Nat.le_of_ble_eq_true rfl) (Nat.le_of_ble_eq_true rfl) dL_plank_22
  · replace hf := sm_inr hf
    by_cases h0 : x.1 = 2
    · replace hf := it_pos h0 hf
      obtain rfl := Option.some.inj hf
      have hM := x_X11_plank l hlt D y ek n a0 a1 a2 z0_tape z0_tokens z0_hillReader z0_lawReader z0_diary z0_spare z0_draft z0_spareDiary z0_guess z0_past z0_imageHill z0_imageRules z0_imageDiary _ _ _ _ _ _ ht
      rw [h0] at hM
      refine a_callVc (pc := 5) (bs' := [bX11 y a0 z0_tape z0_tokens z0_hillReader z0_lawReader (a1 0) (a2 0) z0_diary z0_spare z0_draft z0_spareDiary z0_guess z0_past z0_imageHill z0_imageRules z0_imageDiary v0, bX3 y a1 v1, bX5 y a2 x.2, bAL1 y a3 v3]) (kb := 0) (j := 0) F [0, 1, 2] hM (cwV 2 F.1.2.2.2.2 (gV q4_149 q4_150 q4_151 q1_1 q4_152) rfl rfl rfl (by decide +kernel) ⟨Nat.le_of_ble_eq_true rfl, Nat.le_of_ble_eq_true rfl⟩) rfl rfl rfl rfl (by decide) rfl rfl rfl rfl rfl rfl (Nat.le_of_ble_eq_true rfl) ⟨Nat.le_of_ble_eq_true rfl, Nat.le_of_ble_eq_true rfl⟩ dL_plank_5 [] ⟨0, 10, 13, 24⟩ [⟨0, 10, 17, 26⟩] (hxt.trans rfl) (fun z hz => absurd hz List.not_mem_nil) (by decide) (by decide) (nm := "java/lang/IndexOutOfBoundsException") (tl q4_147) ((F.2.2.2.2.2.2.2.2.2.2.2.2.1 "java/lang/IndexOutOfBoundsException" (by decide)).use rfl) (fun q9 => ?_)
      refine a_astore (pc := 13) (lv' := [(0, .ref (a0 0)), (1, .int x1), (2, .int x2), (3, .ref (a3 0))]) F [1, 2, 3, 4] dL_plank_13 (by decide) rfl ?_
      refine a_iconst (pc := 15) (v := 1) F dL_plank_15 (by decide) ?_
      exact hret _ _ _ _ (Nat.le_of_ble_eq_true rfl) (Nat.le_of_ble_eq_true rfl) dL_plank_16
    replace hf := it_neg h0 hf
    by_cases h1 : x.1 = 3
    · replace hf := it_pos h1 hf
      obtain rfl := Option.some.inj hf
      have hM := x_X11_plank l hlt D y ek n a0 a1 a2 z0_tape z0_tokens z0_hillReader z0_lawReader z0_diary z0_spare z0_draft z0_spareDiary z0_guess z0_past z0_imageHill z0_imageRules z0_imageDiary _ _ _ _ _ _ ht
      rw [h1] at hM
      refine a_callVc (pc := 5) (bs' := [bX11 y a0 z0_tape z0_tokens z0_hillReader z0_lawReader (a1 0) (a2 0) z0_diary z0_spare z0_draft z0_spareDiary z0_guess z0_past z0_imageHill z0_imageRules z0_imageDiary v0, bX3 y a1 v1, bX5 y a2 x.2, bAL1 y a3 v3]) (kb := 0) (j := 0) F [0, 1, 2] hM (cwV 2 F.1.2.2.2.2 (gV q4_149 q4_150 q4_151 q1_1 q4_152) rfl rfl rfl (by decide +kernel) ⟨Nat.le_of_ble_eq_true rfl, Nat.le_of_ble_eq_true rfl⟩) rfl rfl rfl rfl (by decide) rfl rfl rfl rfl rfl rfl (Nat.le_of_ble_eq_true rfl) ⟨Nat.le_of_ble_eq_true rfl, Nat.le_of_ble_eq_true rfl⟩ dL_plank_5 [⟨0, 10, 13, 24⟩] ⟨0, 10, 17, 26⟩ [] (hxt.trans rfl) (fun z hz => by rcases List.mem_singleton.mp hz with rfl; exact Or.inr ⟨by decide, "java/lang/IndexOutOfBoundsException", F.1.2.2.2.2 _ (tl q4_147), F.2.2.2.2.2.2.2.2.2.2.2.2.2.2.1 ("java/util/NoSuchElementException", "java/lang/IndexOutOfBoundsException") (by decide)⟩) (by decide) (by decide) (nm := "java/util/NoSuchElementException") (tl q4_148) ((F.2.2.2.2.2.2.2.2.2.2.2.2.1 "java/util/NoSuchElementException" (by decide)).use rfl) (fun q9 => ?_)
      refine a_astore (pc := 17) (lv' := [(0, .ref (a0 0)), (1, .int x1), (2, .int x2), (3, .ref (a3 0))]) F [1, 2, 3, 4] dL_plank_17 (by decide) rfl ?_
      refine a_iconst (pc := 19) (v := 2) F dL_plank_19 (by decide) ?_
      exact hret _ _ _ _ (Nat.le_of_ble_eq_true rfl) (Nat.le_of_ble_eq_true rfl) dL_plank_20
    replace hf := it_neg h1 hf
    cases hf

abbrev wL_house : List Cond := Cond.codeWith yL_house cL_house 5 (some .int) [(0, 10, 13, 24), (0, 10, 17, 26)] :: WALL
def m_L_house (n : Nat) (v0 : St) (v1 : St) (v2 : St) (v3 : Nat → Int64) (x1 : Int32) (x2 : Int32) : Option (Int32 × St × (Nat → Int64)) :=
  bd (m_X11_house n v0 v1 v2 x1 x2) (fun t => sm t (fun a => some (0, a.2, vp_updL v3 0 (a.1).toInt64)) (fun x => (if x.1 = 2 then some (1, x.2, v3) else (if x.1 = 3 then some (2, x.2, v3) else none))))
set_option maxHeartbeats 4000000 in
set_option maxRecDepth 100000 in
theorem c_L_house (l : Launch) (hlt : l.stackTraces = false) (D : va_G) (y : Nat → ClassId) (ek : EK) (n : Nat) (a0 : Nat → Nat) (a1 : Nat → Nat) (a2 : Nat → Nat) (a3 : Nat → Nat) (z0_tape : Nat) (z0_tokens : Nat) (z0_hillReader : Nat) (z0_lawReader : Nat) (z0_diary : Nat) (z0_spare : Nat) (z0_draft : Nat) (z0_spareDiary : Nat) (z0_guess : Nat) (z0_past : Nat) (z0_imageHill : Nat) (z0_imageRules : Nat) (z0_imageDiary : Nat) (v0 : St) (v1 : St) (v2 : St) (v3 : Nat → Int64) (x1 : Int32) (x2 : Int32) (res : Int32 × St × (Nat → Int64)) (hf : m_L_house n v0 v1 v2 v3 x1 x2 = some res) : CI l yL_house wL_house { frames := 8, cells := 1, slots := 6, locals := 125 } D y ek [.ref (a0 0), .int x1, .int x2, .ref (a3 0)] [bX11 y a0 z0_tape z0_tokens z0_hillReader z0_lawReader (a1 0) (a2 0) z0_diary z0_spare z0_draft z0_spareDiary z0_guess z0_past z0_imageHill z0_imageRules z0_imageDiary v0, bX3 y a1 v1, bX5 y a2 v2, bAL1 y a3 v3] (res.1) [bX11 y a0 z0_tape z0_tokens z0_hillReader z0_lawReader (a1 0) (a2 0) z0_diary z0_spare z0_draft z0_spareDiary z0_guess z0_past z0_imageHill z0_imageRules z0_imageDiary v0, bX3 y a1 v1, bX5 y a2 res.2.1, bAL1 y a3 res.2.2] 1 6 := by
  unfold m_L_house at hf
  refine ci_ofW (cc := cL_house) (maxL := 5) (by decide) rfl rfl (Nat.le_of_ble_eq_true rfl) ?_
  intro p e s m below meth c Q A F hxt hret
  refine a_lv (lv' := [(0, .ref (a0 0)), (1, .int x1), (2, .int x2), (3, .ref (a3 0))]) rfl ?_
  obtain ⟨t, ht, hf⟩ := bd_some hf
  refine a_aloadn (pc := 0) (j := 3) F dL_house_0 rfl rfl ?_
  refine a_iconst (pc := 1) (v := 0) F dL_house_1 (by decide) ?_
  refine a_aloadn (pc := 2) (j := 0) F dL_house_2 rfl rfl ?_
  refine a_iloadn (pc := 3) (j := 1) F dL_house_3 rfl rfl ?_
  refine a_iloadn (pc := 4) (j := 2) F dL_house_4 rfl rfl ?_
  rcases t with a | x
  · replace hf := sm_inl hf
    obtain rfl := Option.some.inj hf
    refine a_callV (pc := 5) (bs' := [bX11 y a0 z0_tape z0_tokens z0_hillReader z0_lawReader (a1 0) (a2 0) z0_diary z0_spare z0_draft z0_spareDiary z0_guess z0_past z0_imageHill z0_imageRules z0_imageDiary v0, bX3 y a1 v1, bX5 y a2 a.2, bAL1 y a3 v3]) (kb := 0) (j := 0) F [0, 1, 2] (c_X11_house l D y ek n a0 a1 a2 z0_tape z0_tokens z0_hillReader z0_lawReader z0_diary z0_spare z0_draft z0_spareDiary z0_guess z0_past z0_imageHill z0_imageRules z0_imageDiary _ _ _ _ _ _ ht) (cwV 2 F.1.2.2.2.2 (gV q4_195 q4_196 q4_197 q1_1 q4_198) rfl rfl rfl (by decide +kernel) ⟨Nat.le_of_ble_eq_true rfl, Nat.le_of_ble_eq_true rfl⟩) rfl rfl rfl rfl (by decide) rfl rfl rfl rfl rfl rfl (Nat.le_of_ble_eq_true rfl) ⟨Nat.le_of_ble_eq_true rfl, Nat.le_of_ble_eq_true rfl⟩ dL_house_5 ?_
    refine a_i2l (pc := 8) F dL_house_8 ?_
    refine a_lastc (pc := 9) (kb := 3) (j := 0) (k := 0) (bs' := [bX11 y a0 z0_tape z0_tokens z0_hillReader z0_lawReader (a1 0) (a2 0) z0_diary z0_spare z0_draft z0_spareDiary z0_guess z0_past z0_imageHill z0_imageRules z0_imageDiary v0, bX3 y a1 v1, bX5 y a2 a.2, bAL1 y a3 (vp_updL v3 0 (a.1).toInt64)]) F rfl rfl (by decide) (by decide) rfl dL_house_9 ?_
    refine a_goto (pc := 10) (tgt := 21) F dL_house_10 (by decide) ?_
    refine a_iconst (pc := 21) (v := 0) F dL_house_21 (by decide) ?_
    exact hret _ _ _ _ (Nat.le_of_ble_eq_true rfl) (Nat.le_of_ble_eq_true rfl) dL_house_22
  · replace hf := sm_inr hf
    by_cases h0 : x.1 = 2
    · replace hf := it_pos h0 hf
      obtain rfl := Option.some.inj hf
      have hM := x_X11_house l hlt D y ek n a0 a1 a2 z0_tape z0_tokens z0_hillReader z0_lawReader z0_diary z0_spare z0_draft z0_spareDiary z0_guess z0_past z0_imageHill z0_imageRules z0_imageDiary _ _ _ _ _ _ ht
      rw [h0] at hM
      refine a_callVc (pc := 5) (bs' := [bX11 y a0 z0_tape z0_tokens z0_hillReader z0_lawReader (a1 0) (a2 0) z0_diary z0_spare z0_draft z0_spareDiary z0_guess z0_past z0_imageHill z0_imageRules z0_imageDiary v0, bX3 y a1 v1, bX5 y a2 x.2, bAL1 y a3 v3]) (kb := 0) (j := 0) F [0, 1, 2] hM (cwV 2 F.1.2.2.2.2 (gV q4_195 q4_196 q4_197 q1_1 q4_198) rfl rfl rfl (by decide +kernel) ⟨Nat.le_of_ble_eq_true rfl, Nat.le_of_ble_eq_true rfl⟩) rfl rfl rfl rfl (by decide) rfl rfl rfl rfl rfl rfl (Nat.le_of_ble_eq_true rfl) ⟨Nat.le_of_ble_eq_true rfl, Nat.le_of_ble_eq_true rfl⟩ dL_house_5 [] ⟨0, 10, 13, 24⟩ [⟨0, 10, 17, 26⟩] (hxt.trans rfl) (fun z hz => absurd hz List.not_mem_nil) (by decide) (by decide) (nm := "java/lang/IndexOutOfBoundsException") (tl q4_147) ((F.2.2.2.2.2.2.2.2.2.2.2.2.1 "java/lang/IndexOutOfBoundsException" (by decide)).use rfl) (fun q9 => ?_)
      refine a_astore (pc := 13) (lv' := [(0, .ref (a0 0)), (1, .int x1), (2, .int x2), (3, .ref (a3 0))]) F [1, 2, 3, 4] dL_house_13 (by decide) rfl ?_
      refine a_iconst (pc := 15) (v := 1) F dL_house_15 (by decide) ?_
      exact hret _ _ _ _ (Nat.le_of_ble_eq_true rfl) (Nat.le_of_ble_eq_true rfl) dL_house_16
    replace hf := it_neg h0 hf
    by_cases h1 : x.1 = 3
    · replace hf := it_pos h1 hf
      obtain rfl := Option.some.inj hf
      have hM := x_X11_house l hlt D y ek n a0 a1 a2 z0_tape z0_tokens z0_hillReader z0_lawReader z0_diary z0_spare z0_draft z0_spareDiary z0_guess z0_past z0_imageHill z0_imageRules z0_imageDiary _ _ _ _ _ _ ht
      rw [h1] at hM
      refine a_callVc (pc := 5) (bs' := [bX11 y a0 z0_tape z0_tokens z0_hillReader z0_lawReader (a1 0) (a2 0) z0_diary z0_spare z0_draft z0_spareDiary z0_guess z0_past z0_imageHill z0_imageRules z0_imageDiary v0, bX3 y a1 v1, bX5 y a2 x.2, bAL1 y a3 v3]) (kb := 0) (j := 0) F [0, 1, 2] hM (cwV 2 F.1.2.2.2.2 (gV q4_195 q4_196 q4_197 q1_1 q4_198) rfl rfl rfl (by decide +kernel) ⟨Nat.le_of_ble_eq_true rfl, Nat.le_of_ble_eq_true rfl⟩) rfl rfl rfl rfl (by decide) rfl rfl rfl rfl rfl rfl (Nat.le_of_ble_eq_true rfl) ⟨Nat.le_of_ble_eq_true rfl, Nat.le_of_ble_eq_true rfl⟩ dL_house_5 [⟨0, 10, 13, 24⟩] ⟨0, 10, 17, 26⟩ [] (hxt.trans rfl) (fun z hz => by rcases List.mem_singleton.mp hz with rfl; exact Or.inr ⟨by decide, "java/lang/IndexOutOfBoundsException", F.1.2.2.2.2 _ (tl q4_147), F.2.2.2.2.2.2.2.2.2.2.2.2.2.2.1 ("java/util/NoSuchElementException", "java/lang/IndexOutOfBoundsException") (by decide)⟩) (by decide) (by decide) (nm := "java/util/NoSuchElementException") (tl q4_148) ((F.2.2.2.2.2.2.2.2.2.2.2.2.1 "java/util/NoSuchElementException" (by decide)).use rfl) (fun q9 => ?_)
      refine a_astore (pc := 17) (lv' := [(0, .ref (a0 0)), (1, .int x1), (2, .int x2), (3, .ref (a3 0))]) F [1, 2, 3, 4] dL_house_17 (by decide) rfl ?_
      refine a_iconst (pc := 19) (v := 2) F dL_house_19 (by decide) ?_
      exact hret _ _ _ _ (Nat.le_of_ble_eq_true rfl) (Nat.le_of_ble_eq_true rfl) dL_house_20
    replace hf := it_neg h1 hf
    cases hf

abbrev wL_thing : List Cond := Cond.codeWith yL_thing cL_thing 5 (some .int) [(0, 10, 13, 24), (0, 10, 17, 26)] :: WALL
def m_L_thing (n : Nat) (v0 : St) (v1 : St) (v2 : Nat → Int64) (x1 : Int32) (x2 : Int32) : Option (Int32 × (Nat → Int64)) :=
  bd (m_X11_thing n v0 v1 x1 x2) (fun t => sm t (fun a => some (0, vp_updL v2 0 (a).toInt64)) (fun x => (if x = 2 then some (1, v2) else (if x = 3 then some (2, v2) else none))))
set_option maxHeartbeats 4000000 in
set_option maxRecDepth 100000 in
theorem c_L_thing (l : Launch) (hlt : l.stackTraces = false) (D : va_G) (y : Nat → ClassId) (ek : EK) (n : Nat) (a0 : Nat → Nat) (a1 : Nat → Nat) (a2 : Nat → Nat) (z0_tape : Nat) (z0_tokens : Nat) (z0_hillReader : Nat) (z0_lawReader : Nat) (z0_rules : Nat) (z0_diary : Nat) (z0_spare : Nat) (z0_draft : Nat) (z0_spareDiary : Nat) (z0_guess : Nat) (z0_past : Nat) (z0_imageHill : Nat) (z0_imageRules : Nat) (z0_imageDiary : Nat) (v0 : St) (v1 : St) (v2 : Nat → Int64) (x1 : Int32) (x2 : Int32) (res : Int32 × (Nat → Int64)) (hf : m_L_thing n v0 v1 v2 x1 x2 = some res) : CI l yL_thing wL_thing { frames := 8, cells := 1, slots := 6, locals := 125 } D y ek [.ref (a0 0), .int x1, .int x2, .ref (a2 0)] [bX11 y a0 z0_tape z0_tokens z0_hillReader z0_lawReader (a1 0) z0_rules z0_diary z0_spare z0_draft z0_spareDiary z0_guess z0_past z0_imageHill z0_imageRules z0_imageDiary v0, bX3 y a1 v1, bAL1 y a2 v2] (res.1) [bX11 y a0 z0_tape z0_tokens z0_hillReader z0_lawReader (a1 0) z0_rules z0_diary z0_spare z0_draft z0_spareDiary z0_guess z0_past z0_imageHill z0_imageRules z0_imageDiary v0, bX3 y a1 v1, bAL1 y a2 res.2] 1 6 := by
  unfold m_L_thing at hf
  refine ci_ofW (cc := cL_thing) (maxL := 5) (by decide) rfl rfl (Nat.le_of_ble_eq_true rfl) ?_
  intro p e s m below meth c Q A F hxt hret
  refine a_lv (lv' := [(0, .ref (a0 0)), (1, .int x1), (2, .int x2), (3, .ref (a2 0))]) rfl ?_
  obtain ⟨t, ht, hf⟩ := bd_some hf
  refine a_aloadn (pc := 0) (j := 3) F dL_thing_0 rfl rfl ?_
  refine a_iconst (pc := 1) (v := 0) F dL_thing_1 (by decide) ?_
  refine a_aloadn (pc := 2) (j := 0) F dL_thing_2 rfl rfl ?_
  refine a_iloadn (pc := 3) (j := 1) F dL_thing_3 rfl rfl ?_
  refine a_iloadn (pc := 4) (j := 2) F dL_thing_4 rfl rfl ?_
  rcases t with a | x
  · replace hf := sm_inl hf
    obtain rfl := Option.some.inj hf
    refine a_callV (pc := 5) (bs' := [bX11 y a0 z0_tape z0_tokens z0_hillReader z0_lawReader (a1 0) z0_rules z0_diary z0_spare z0_draft z0_spareDiary z0_guess z0_past z0_imageHill z0_imageRules z0_imageDiary v0, bX3 y a1 v1, bAL1 y a2 v2]) (kb := 0) (j := 0) F [0, 1] (c_X11_thing l D y ek n a0 a1 z0_tape z0_tokens z0_hillReader z0_lawReader z0_rules z0_diary z0_spare z0_draft z0_spareDiary z0_guess z0_past z0_imageHill z0_imageRules z0_imageDiary _ _ _ _ _ ht) (cwV 2 F.1.2.2.2.2 (gV q4_217 q4_218 q4_219 q1_1 q4_220) rfl rfl rfl (by decide +kernel) ⟨Nat.le_of_ble_eq_true rfl, Nat.le_of_ble_eq_true rfl⟩) rfl rfl rfl rfl (by decide) rfl rfl rfl rfl rfl rfl (Nat.le_of_ble_eq_true rfl) ⟨Nat.le_of_ble_eq_true rfl, Nat.le_of_ble_eq_true rfl⟩ dL_thing_5 ?_
    refine a_i2l (pc := 8) F dL_thing_8 ?_
    refine a_lastc (pc := 9) (kb := 2) (j := 0) (k := 0) (bs' := [bX11 y a0 z0_tape z0_tokens z0_hillReader z0_lawReader (a1 0) z0_rules z0_diary z0_spare z0_draft z0_spareDiary z0_guess z0_past z0_imageHill z0_imageRules z0_imageDiary v0, bX3 y a1 v1, bAL1 y a2 (vp_updL v2 0 (a).toInt64)]) F rfl rfl (by decide) (by decide) rfl dL_thing_9 ?_
    refine a_goto (pc := 10) (tgt := 21) F dL_thing_10 (by decide) ?_
    refine a_iconst (pc := 21) (v := 0) F dL_thing_21 (by decide) ?_
    exact hret _ _ _ _ (Nat.le_of_ble_eq_true rfl) (Nat.le_of_ble_eq_true rfl) dL_thing_22
  · replace hf := sm_inr hf
    by_cases h0 : x = 2
    · replace hf := it_pos h0 hf
      obtain rfl := Option.some.inj hf
      have hM := x_X11_thing l hlt D y ek n a0 a1 z0_tape z0_tokens z0_hillReader z0_lawReader z0_rules z0_diary z0_spare z0_draft z0_spareDiary z0_guess z0_past z0_imageHill z0_imageRules z0_imageDiary _ _ _ _ _ ht
      rw [h0] at hM
      refine a_callVc (pc := 5) (bs' := [bX11 y a0 z0_tape z0_tokens z0_hillReader z0_lawReader (a1 0) z0_rules z0_diary z0_spare z0_draft z0_spareDiary z0_guess z0_past z0_imageHill z0_imageRules z0_imageDiary v0, bX3 y a1 v1, bAL1 y a2 v2]) (kb := 0) (j := 0) F [0, 1] hM (cwV 2 F.1.2.2.2.2 (gV q4_217 q4_218 q4_219 q1_1 q4_220) rfl rfl rfl (by decide +kernel) ⟨Nat.le_of_ble_eq_true rfl, Nat.le_of_ble_eq_true rfl⟩) rfl rfl rfl rfl (by decide) rfl rfl rfl rfl rfl rfl (Nat.le_of_ble_eq_true rfl) ⟨Nat.le_of_ble_eq_true rfl, Nat.le_of_ble_eq_true rfl⟩ dL_thing_5 [] ⟨0, 10, 13, 24⟩ [⟨0, 10, 17, 26⟩] (hxt.trans rfl) (fun z hz => absurd hz List.not_mem_nil) (by decide) (by decide) (nm := "java/lang/IndexOutOfBoundsException") (tl q4_147) ((F.2.2.2.2.2.2.2.2.2.2.2.2.1 "java/lang/IndexOutOfBoundsException" (by decide)).use rfl) (fun q9 => ?_)
      refine a_astore (pc := 13) (lv' := [(0, .ref (a0 0)), (1, .int x1), (2, .int x2), (3, .ref (a2 0))]) F [1, 2, 3, 4] dL_thing_13 (by decide) rfl ?_
      refine a_iconst (pc := 15) (v := 1) F dL_thing_15 (by decide) ?_
      exact hret _ _ _ _ (Nat.le_of_ble_eq_true rfl) (Nat.le_of_ble_eq_true rfl) dL_thing_16
    replace hf := it_neg h0 hf
    by_cases h1 : x = 3
    · replace hf := it_pos h1 hf
      obtain rfl := Option.some.inj hf
      have hM := x_X11_thing l hlt D y ek n a0 a1 z0_tape z0_tokens z0_hillReader z0_lawReader z0_rules z0_diary z0_spare z0_draft z0_spareDiary z0_guess z0_past z0_imageHill z0_imageRules z0_imageDiary _ _ _ _ _ ht
      rw [h1] at hM
      refine a_callVc (pc := 5) (bs' := [bX11 y a0 z0_tape z0_tokens z0_hillReader z0_lawReader (a1 0) z0_rules z0_diary z0_spare z0_draft z0_spareDiary z0_guess z0_past z0_imageHill z0_imageRules z0_imageDiary v0, bX3 y a1 v1, bAL1 y a2 v2]) (kb := 0) (j := 0) F [0, 1] hM (cwV 2 F.1.2.2.2.2 (gV q4_217 q4_218 q4_219 q1_1 q4_220) rfl rfl rfl (by decide +kernel) ⟨Nat.le_of_ble_eq_true rfl, Nat.le_of_ble_eq_true rfl⟩) rfl rfl rfl rfl (by decide) rfl rfl rfl rfl rfl rfl (Nat.le_of_ble_eq_true rfl) ⟨Nat.le_of_ble_eq_true rfl, Nat.le_of_ble_eq_true rfl⟩ dL_thing_5 [⟨0, 10, 13, 24⟩] ⟨0, 10, 17, 26⟩ [] (hxt.trans rfl) (fun z hz => by rcases List.mem_singleton.mp hz with rfl; exact Or.inr ⟨by decide, "java/lang/IndexOutOfBoundsException", F.1.2.2.2.2 _ (tl q4_147), F.2.2.2.2.2.2.2.2.2.2.2.2.2.2.1 ("java/util/NoSuchElementException", "java/lang/IndexOutOfBoundsException") (by decide)⟩) (by decide) (by decide) (nm := "java/util/NoSuchElementException") (tl q4_148) ((F.2.2.2.2.2.2.2.2.2.2.2.2.1 "java/util/NoSuchElementException" (by decide)).use rfl) (fun q9 => ?_)
      refine a_astore (pc := 17) (lv' := [(0, .ref (a0 0)), (1, .int x1), (2, .int x2), (3, .ref (a2 0))]) F [1, 2, 3, 4] dL_thing_17 (by decide) rfl ?_
      refine a_iconst (pc := 19) (v := 2) F dL_thing_19 (by decide) ?_
      exact hret _ _ _ _ (Nat.le_of_ble_eq_true rfl) (Nat.le_of_ble_eq_true rfl) dL_thing_20
    replace hf := it_neg h1 hf
    cases hf

abbrev wL_carry : List Cond := Cond.codeWith yL_carry cL_carry 5 (some .int) [(0, 10, 13, 24), (0, 10, 17, 37)] :: WALL
def m_L_carry (n : Nat) (v0 : St) (v1 : St) (v2 : St) (v3 : St) (v4 : Nat → St) (v5 : Nat → St) (v6 : Nat → Int64) (x1 : Int32) (x2 : Int32) : Option (Int32 × St × St × St × (Nat → St) × (Nat → St) × (Nat → Int64)) :=
  bd (m_X11_carry n v0 v1 v2 v3 v4 v5 x1 x2) (fun t => sm t (fun a => some (0, a.2.1, a.2.2.1, a.2.2.2.1, a.2.2.2.2.1, a.2.2.2.2.2, vp_updL v6 0 (a.1).toInt64)) (fun x => (if x.1 = 2 then some (1, x.2.1, x.2.2.1, x.2.2.2.1, x.2.2.2.2.1, x.2.2.2.2.2, v6) else (if x.1 = 4 then some (2, x.2.1, x.2.2.1, x.2.2.2.1, x.2.2.2.2.1, x.2.2.2.2.2, v6) else none))))
set_option maxHeartbeats 4000000 in
set_option maxRecDepth 100000 in
theorem c_L_carry (l : Launch) (hlt : l.stackTraces = false) (D : va_G) (y : Nat → ClassId) (ek : EK) (n : Nat) (a0 : Nat → Nat) (a1 : Nat → Nat) (a2 : Nat → Nat) (a3 : Nat → Nat) (a4 : Nat → Nat → Nat) (a5 : Nat → Nat → Nat) (a6 : Nat → Nat) (z0_tape : Nat) (z0_tokens : Nat) (z0_hillReader : Nat) (z0_lawReader : Nat) (z0_rules : Nat) (z0_spare : Nat) (z0_draft : Nat) (z0_spareDiary : Nat) (z0_guess : Nat) (z0_imageHill : Nat) (z0_imageRules : Nat) (z0_imageDiary : Nat) (v0 : St) (v1 : St) (v2 : St) (v3 : St) (v4 : Nat → St) (v5 : Nat → St) (v6 : Nat → Int64) (x1 : Int32) (x2 : Int32) (res : Int32 × St × St × St × (Nat → St) × (Nat → St) × (Nat → Int64)) (hf : m_L_carry n v0 v1 v2 v3 v4 v5 v6 x1 x2 = some res) : CI l yL_carry wL_carry { frames := 8, cells := 1, slots := 6, locals := 136 } D y ek [.ref (a0 0), .int x1, .int x2, .ref (a6 0)] [bX11 y a0 z0_tape z0_tokens z0_hillReader z0_lawReader (a1 0) z0_rules (a2 0) z0_spare z0_draft z0_spareDiary z0_guess (a3 0) z0_imageHill z0_imageRules z0_imageDiary v0, bX3 y a1 v1, bX1 y a2 v2, bX8 y a3 a4 a5 v3, bPH y a4 v4, bPD y a5 v5, bAL1 y a6 v6] (res.1) [bX11 y a0 z0_tape z0_tokens z0_hillReader z0_lawReader (a1 0) z0_rules (a2 0) z0_spare z0_draft z0_spareDiary z0_guess (a3 0) z0_imageHill z0_imageRules z0_imageDiary v0, bX3 y a1 res.2.1, bX1 y a2 res.2.2.1, bX8 y a3 a4 a5 res.2.2.2.1, bPH y a4 res.2.2.2.2.1, bPD y a5 res.2.2.2.2.2.1, bAL1 y a6 res.2.2.2.2.2.2] 1 6 := by
  unfold m_L_carry at hf
  refine ci_ofW (cc := cL_carry) (maxL := 5) (by decide) rfl rfl (Nat.le_of_ble_eq_true rfl) ?_
  intro p e s m below meth c Q A F hxt hret
  refine a_lv (lv' := [(0, .ref (a0 0)), (1, .int x1), (2, .int x2), (3, .ref (a6 0))]) rfl ?_
  obtain ⟨t, ht, hf⟩ := bd_some hf
  refine a_aloadn (pc := 0) (j := 3) F dL_carry_0 rfl rfl ?_
  refine a_iconst (pc := 1) (v := 0) F dL_carry_1 (by decide) ?_
  refine a_aloadn (pc := 2) (j := 0) F dL_carry_2 rfl rfl ?_
  refine a_iloadn (pc := 3) (j := 1) F dL_carry_3 rfl rfl ?_
  refine a_iloadn (pc := 4) (j := 2) F dL_carry_4 rfl rfl ?_
  rcases t with a | x
  · replace hf := sm_inl hf
    obtain rfl := Option.some.inj hf
    refine a_callV (pc := 5) (bs' := [bX11 y a0 z0_tape z0_tokens z0_hillReader z0_lawReader (a1 0) z0_rules (a2 0) z0_spare z0_draft z0_spareDiary z0_guess (a3 0) z0_imageHill z0_imageRules z0_imageDiary v0, bX3 y a1 a.2.1, bX1 y a2 a.2.2.1, bX8 y a3 a4 a5 a.2.2.2.1, bPH y a4 a.2.2.2.2.1, bPD y a5 a.2.2.2.2.2, bAL1 y a6 v6]) (kb := 0) (j := 0) F [0, 1, 2, 3, 4, 5] (c_X11_carry l D y ek n a0 a1 a2 a3 a4 a5 z0_tape z0_tokens z0_hillReader z0_lawReader z0_rules z0_spare z0_draft z0_spareDiary z0_guess z0_imageHill z0_imageRules z0_imageDiary _ _ _ _ _ _ _ _ _ ht) (cwV 2 F.1.2.2.2.2 (gV q4_229 q4_230 q4_231 q1_1 q4_232) rfl rfl rfl (by decide +kernel) ⟨Nat.le_of_ble_eq_true rfl, Nat.le_of_ble_eq_true rfl⟩) rfl rfl rfl rfl (by decide) rfl rfl rfl rfl rfl rfl (Nat.le_of_ble_eq_true rfl) ⟨Nat.le_of_ble_eq_true rfl, Nat.le_of_ble_eq_true rfl⟩ dL_carry_5 ?_
    refine a_i2l (pc := 8) F dL_carry_8 ?_
    refine a_lastc (pc := 9) (kb := 6) (j := 0) (k := 0) (bs' := [bX11 y a0 z0_tape z0_tokens z0_hillReader z0_lawReader (a1 0) z0_rules (a2 0) z0_spare z0_draft z0_spareDiary z0_guess (a3 0) z0_imageHill z0_imageRules z0_imageDiary v0, bX3 y a1 a.2.1, bX1 y a2 a.2.2.1, bX8 y a3 a4 a5 a.2.2.2.1, bPH y a4 a.2.2.2.2.1, bPD y a5 a.2.2.2.2.2, bAL1 y a6 (vp_updL v6 0 (a.1).toInt64)]) F rfl rfl (by decide) (by decide) rfl dL_carry_9 ?_
    refine a_goto (pc := 10) (tgt := 21) F dL_carry_10 (by decide) ?_
    refine a_iconst (pc := 21) (v := 0) F dL_carry_21 (by decide) ?_
    exact hret _ _ _ _ (Nat.le_of_ble_eq_true rfl) (Nat.le_of_ble_eq_true rfl) dL_carry_22
  · replace hf := sm_inr hf
    by_cases h0 : x.1 = 2
    · replace hf := it_pos h0 hf
      obtain rfl := Option.some.inj hf
      have hM := x_X11_carry l hlt D y ek n a0 a1 a2 a3 a4 a5 z0_tape z0_tokens z0_hillReader z0_lawReader z0_rules z0_spare z0_draft z0_spareDiary z0_guess z0_imageHill z0_imageRules z0_imageDiary _ _ _ _ _ _ _ _ _ ht
      rw [h0] at hM
      refine a_callVc (pc := 5) (bs' := [bX11 y a0 z0_tape z0_tokens z0_hillReader z0_lawReader (a1 0) z0_rules (a2 0) z0_spare z0_draft z0_spareDiary z0_guess (a3 0) z0_imageHill z0_imageRules z0_imageDiary v0, bX3 y a1 x.2.1, bX1 y a2 x.2.2.1, bX8 y a3 a4 a5 x.2.2.2.1, bPH y a4 x.2.2.2.2.1, bPD y a5 x.2.2.2.2.2, bAL1 y a6 v6]) (kb := 0) (j := 0) F [0, 1, 2, 3, 4, 5] hM (cwV 2 F.1.2.2.2.2 (gV q4_229 q4_230 q4_231 q1_1 q4_232) rfl rfl rfl (by decide +kernel) ⟨Nat.le_of_ble_eq_true rfl, Nat.le_of_ble_eq_true rfl⟩) rfl rfl rfl rfl (by decide) rfl rfl rfl rfl rfl rfl (Nat.le_of_ble_eq_true rfl) ⟨Nat.le_of_ble_eq_true rfl, Nat.le_of_ble_eq_true rfl⟩ dL_carry_5 [] ⟨0, 10, 13, 24⟩ [⟨0, 10, 17, 37⟩] (hxt.trans rfl) (fun z hz => absurd hz List.not_mem_nil) (by decide) (by decide) (nm := "java/lang/IndexOutOfBoundsException") (tl q4_147) ((F.2.2.2.2.2.2.2.2.2.2.2.2.1 "java/lang/IndexOutOfBoundsException" (by decide)).use rfl) (fun q9 => ?_)
      refine a_astore (pc := 13) (lv' := [(0, .ref (a0 0)), (1, .int x1), (2, .int x2), (3, .ref (a6 0))]) F [1, 2, 3, 4] dL_carry_13 (by decide) rfl ?_
      refine a_iconst (pc := 15) (v := 1) F dL_carry_15 (by decide) ?_
      exact hret _ _ _ _ (Nat.le_of_ble_eq_true rfl) (Nat.le_of_ble_eq_true rfl) dL_carry_16
    replace hf := it_neg h0 hf
    by_cases h1 : x.1 = 4
    · replace hf := it_pos h1 hf
      obtain rfl := Option.some.inj hf
      have hM := x_X11_carry l hlt D y ek n a0 a1 a2 a3 a4 a5 z0_tape z0_tokens z0_hillReader z0_lawReader z0_rules z0_spare z0_draft z0_spareDiary z0_guess z0_imageHill z0_imageRules z0_imageDiary _ _ _ _ _ _ _ _ _ ht
      rw [h1] at hM
      refine a_callVc (pc := 5) (bs' := [bX11 y a0 z0_tape z0_tokens z0_hillReader z0_lawReader (a1 0) z0_rules (a2 0) z0_spare z0_draft z0_spareDiary z0_guess (a3 0) z0_imageHill z0_imageRules z0_imageDiary v0, bX3 y a1 x.2.1, bX1 y a2 x.2.2.1, bX8 y a3 a4 a5 x.2.2.2.1, bPH y a4 x.2.2.2.2.1, bPD y a5 x.2.2.2.2.2, bAL1 y a6 v6]) (kb := 0) (j := 0) F [0, 1, 2, 3, 4, 5] hM (cwV 2 F.1.2.2.2.2 (gV q4_229 q4_230 q4_231 q1_1 q4_232) rfl rfl rfl (by decide +kernel) ⟨Nat.le_of_ble_eq_true rfl, Nat.le_of_ble_eq_true rfl⟩) rfl rfl rfl rfl (by decide) rfl rfl rfl rfl rfl rfl (Nat.le_of_ble_eq_true rfl) ⟨Nat.le_of_ble_eq_true rfl, Nat.le_of_ble_eq_true rfl⟩ dL_carry_5 [⟨0, 10, 13, 24⟩] ⟨0, 10, 17, 37⟩ [] (hxt.trans rfl) (fun z hz => by rcases List.mem_singleton.mp hz with rfl; exact Or.inr ⟨by decide, "java/lang/IndexOutOfBoundsException", F.1.2.2.2.2 _ (tl q4_147), F.2.2.2.2.2.2.2.2.2.2.2.2.2.2.1 ("java/lang/IllegalStateException", "java/lang/IndexOutOfBoundsException") (by decide)⟩) (by decide) (by decide) (nm := "java/lang/IllegalStateException") (tl q4_228) ((F.2.2.2.2.2.2.2.2.2.2.2.2.1 "java/lang/IllegalStateException" (by decide)).use rfl) (fun q9 => ?_)
      refine a_astore (pc := 17) (lv' := [(0, .ref (a0 0)), (1, .int x1), (2, .int x2), (3, .ref (a6 0))]) F [1, 2, 3, 4] dL_carry_17 (by decide) rfl ?_
      refine a_iconst (pc := 19) (v := 2) F dL_carry_19 (by decide) ?_
      exact hret _ _ _ _ (Nat.le_of_ble_eq_true rfl) (Nat.le_of_ble_eq_true rfl) dL_carry_20
    replace hf := it_neg h1 hf
    cases hf

abbrev wL_guests : List Cond := Cond.codeWith yL_guests cL_guests 5 (some .int) [(0, 10, 13, 24), (0, 10, 17, 13)] :: WALL
def m_L_guests (n : Nat) (v0 : St) (v1 : St) (v2 : St) (v3 : St) (v4 : Nat → St) (v5 : Nat → St) (v6 : Nat → Int64) (x1 : Int32) (x2 : Int32) : Option (Int32 × St × St × (Nat → St) × (Nat → St) × (Nat → Int64)) :=
  bd (m_X11_guests n v0 v1 v2 v3 v4 v5 x1 x2) (fun t => sm t (fun a => some (0, a.2.1, a.2.2.1, a.2.2.2.1, a.2.2.2.2, vp_updL v6 0 (a.1).toInt64)) (fun x => (if x.1 = 2 then some (1, x.2.1, x.2.2.1, x.2.2.2.1, x.2.2.2.2, v6) else (if x.1 = 0 then some (2, x.2.1, x.2.2.1, x.2.2.2.1, x.2.2.2.2, v6) else none))))
set_option maxHeartbeats 4000000 in
set_option maxRecDepth 100000 in
theorem c_L_guests (l : Launch) (hlt : l.stackTraces = false) (D : va_G) (y : Nat → ClassId) (ek : EK) (n : Nat) (a0 : Nat → Nat) (a1 : Nat → Nat) (a2 : Nat → Nat) (a3 : Nat → Nat) (a4 : Nat → Nat → Nat) (a5 : Nat → Nat → Nat) (a6 : Nat → Nat) (z0_tape : Nat) (z0_tokens : Nat) (z0_hillReader : Nat) (z0_lawReader : Nat) (z0_rules : Nat) (z0_spare : Nat) (z0_draft : Nat) (z0_spareDiary : Nat) (z0_guess : Nat) (z0_imageHill : Nat) (z0_imageRules : Nat) (z0_imageDiary : Nat) (v0 : St) (v1 : St) (v2 : St) (v3 : St) (v4 : Nat → St) (v5 : Nat → St) (v6 : Nat → Int64) (x1 : Int32) (x2 : Int32) (res : Int32 × St × St × (Nat → St) × (Nat → St) × (Nat → Int64)) (hf : m_L_guests n v0 v1 v2 v3 v4 v5 v6 x1 x2 = some res) : CI l yL_guests wL_guests { frames := 8, cells := 1, slots := 6, locals := 136 } D y ek [.ref (a0 0), .int x1, .int x2, .ref (a6 0)] [bX11 y a0 z0_tape z0_tokens z0_hillReader z0_lawReader (a1 0) z0_rules (a2 0) z0_spare z0_draft z0_spareDiary z0_guess (a3 0) z0_imageHill z0_imageRules z0_imageDiary v0, bX3 y a1 v1, bX1 y a2 v2, bX8 y a3 a4 a5 v3, bPH y a4 v4, bPD y a5 v5, bAL1 y a6 v6] (res.1) [bX11 y a0 z0_tape z0_tokens z0_hillReader z0_lawReader (a1 0) z0_rules (a2 0) z0_spare z0_draft z0_spareDiary z0_guess (a3 0) z0_imageHill z0_imageRules z0_imageDiary v0, bX3 y a1 res.2.1, bX1 y a2 v2, bX8 y a3 a4 a5 res.2.2.1, bPH y a4 res.2.2.2.1, bPD y a5 res.2.2.2.2.1, bAL1 y a6 res.2.2.2.2.2] 1 6 := by
  unfold m_L_guests at hf
  refine ci_ofW (cc := cL_guests) (maxL := 5) (by decide) rfl rfl (Nat.le_of_ble_eq_true rfl) ?_
  intro p e s m below meth c Q A F hxt hret
  refine a_lv (lv' := [(0, .ref (a0 0)), (1, .int x1), (2, .int x2), (3, .ref (a6 0))]) rfl ?_
  obtain ⟨t, ht, hf⟩ := bd_some hf
  refine a_aloadn (pc := 0) (j := 3) F dL_guests_0 rfl rfl ?_
  refine a_iconst (pc := 1) (v := 0) F dL_guests_1 (by decide) ?_
  refine a_aloadn (pc := 2) (j := 0) F dL_guests_2 rfl rfl ?_
  refine a_iloadn (pc := 3) (j := 1) F dL_guests_3 rfl rfl ?_
  refine a_iloadn (pc := 4) (j := 2) F dL_guests_4 rfl rfl ?_
  rcases t with a | x
  · replace hf := sm_inl hf
    obtain rfl := Option.some.inj hf
    refine a_callV (pc := 5) (bs' := [bX11 y a0 z0_tape z0_tokens z0_hillReader z0_lawReader (a1 0) z0_rules (a2 0) z0_spare z0_draft z0_spareDiary z0_guess (a3 0) z0_imageHill z0_imageRules z0_imageDiary v0, bX3 y a1 a.2.1, bX1 y a2 v2, bX8 y a3 a4 a5 a.2.2.1, bPH y a4 a.2.2.2.1, bPD y a5 a.2.2.2.2, bAL1 y a6 v6]) (kb := 0) (j := 0) F [0, 1, 2, 3, 4, 5] (c_X11_guests l D y ek n a0 a1 a2 a3 a4 a5 z0_tape z0_tokens z0_hillReader z0_lawReader z0_rules z0_spare z0_draft z0_spareDiary z0_guess z0_imageHill z0_imageRules z0_imageDiary _ _ _ _ _ _ _ _ _ ht) (cwV 2 F.1.2.2.2.2 (gV q5_15 q5_16 q5_17 q1_1 q5_18) rfl rfl rfl (by decide +kernel) ⟨Nat.le_of_ble_eq_true rfl, Nat.le_of_ble_eq_true rfl⟩) rfl rfl rfl rfl (by decide) rfl rfl rfl rfl rfl rfl (Nat.le_of_ble_eq_true rfl) ⟨Nat.le_of_ble_eq_true rfl, Nat.le_of_ble_eq_true rfl⟩ dL_guests_5 ?_
    refine a_i2l (pc := 8) F dL_guests_8 ?_
    refine a_lastc (pc := 9) (kb := 6) (j := 0) (k := 0) (bs' := [bX11 y a0 z0_tape z0_tokens z0_hillReader z0_lawReader (a1 0) z0_rules (a2 0) z0_spare z0_draft z0_spareDiary z0_guess (a3 0) z0_imageHill z0_imageRules z0_imageDiary v0, bX3 y a1 a.2.1, bX1 y a2 v2, bX8 y a3 a4 a5 a.2.2.1, bPH y a4 a.2.2.2.1, bPD y a5 a.2.2.2.2, bAL1 y a6 (vp_updL v6 0 (a.1).toInt64)]) F rfl rfl (by decide) (by decide) rfl dL_guests_9 ?_
    refine a_goto (pc := 10) (tgt := 21) F dL_guests_10 (by decide) ?_
    refine a_iconst (pc := 21) (v := 0) F dL_guests_21 (by decide) ?_
    exact hret _ _ _ _ (Nat.le_of_ble_eq_true rfl) (Nat.le_of_ble_eq_true rfl) dL_guests_22
  · replace hf := sm_inr hf
    by_cases h0 : x.1 = 2
    · replace hf := it_pos h0 hf
      obtain rfl := Option.some.inj hf
      have hM := x_X11_guests l hlt D y ek n a0 a1 a2 a3 a4 a5 z0_tape z0_tokens z0_hillReader z0_lawReader z0_rules z0_spare z0_draft z0_spareDiary z0_guess z0_imageHill z0_imageRules z0_imageDiary _ _ _ _ _ _ _ _ _ ht
      rw [h0] at hM
      refine a_callVc (pc := 5) (bs' := [bX11 y a0 z0_tape z0_tokens z0_hillReader z0_lawReader (a1 0) z0_rules (a2 0) z0_spare z0_draft z0_spareDiary z0_guess (a3 0) z0_imageHill z0_imageRules z0_imageDiary v0, bX3 y a1 x.2.1, bX1 y a2 v2, bX8 y a3 a4 a5 x.2.2.1, bPH y a4 x.2.2.2.1, bPD y a5 x.2.2.2.2, bAL1 y a6 v6]) (kb := 0) (j := 0) F [0, 1, 2, 3, 4, 5] hM (cwV 2 F.1.2.2.2.2 (gV q5_15 q5_16 q5_17 q1_1 q5_18) rfl rfl rfl (by decide +kernel) ⟨Nat.le_of_ble_eq_true rfl, Nat.le_of_ble_eq_true rfl⟩) rfl rfl rfl rfl (by decide) rfl rfl rfl rfl rfl rfl (Nat.le_of_ble_eq_true rfl) ⟨Nat.le_of_ble_eq_true rfl, Nat.le_of_ble_eq_true rfl⟩ dL_guests_5 [] ⟨0, 10, 13, 24⟩ [⟨0, 10, 17, 13⟩] (hxt.trans rfl) (fun z hz => absurd hz List.not_mem_nil) (by decide) (by decide) (nm := "java/lang/IndexOutOfBoundsException") (tl q4_147) ((F.2.2.2.2.2.2.2.2.2.2.2.2.1 "java/lang/IndexOutOfBoundsException" (by decide)).use rfl) (fun q9 => ?_)
      refine a_astore (pc := 13) (lv' := [(0, .ref (a0 0)), (1, .int x1), (2, .int x2), (3, .ref (a6 0))]) F [1, 2, 3, 4] dL_guests_13 (by decide) rfl ?_
      refine a_iconst (pc := 15) (v := 1) F dL_guests_15 (by decide) ?_
      exact hret _ _ _ _ (Nat.le_of_ble_eq_true rfl) (Nat.le_of_ble_eq_true rfl) dL_guests_16
    replace hf := it_neg h0 hf
    by_cases h1 : x.1 = 0
    · replace hf := it_pos h1 hf
      obtain rfl := Option.some.inj hf
      have hM := x_X11_guests l hlt D y ek n a0 a1 a2 a3 a4 a5 z0_tape z0_tokens z0_hillReader z0_lawReader z0_rules z0_spare z0_draft z0_spareDiary z0_guess z0_imageHill z0_imageRules z0_imageDiary _ _ _ _ _ _ _ _ _ ht
      rw [h1] at hM
      refine a_callVc (pc := 5) (bs' := [bX11 y a0 z0_tape z0_tokens z0_hillReader z0_lawReader (a1 0) z0_rules (a2 0) z0_spare z0_draft z0_spareDiary z0_guess (a3 0) z0_imageHill z0_imageRules z0_imageDiary v0, bX3 y a1 x.2.1, bX1 y a2 v2, bX8 y a3 a4 a5 x.2.2.1, bPH y a4 x.2.2.2.1, bPD y a5 x.2.2.2.2, bAL1 y a6 v6]) (kb := 0) (j := 0) F [0, 1, 2, 3, 4, 5] hM (cwV 2 F.1.2.2.2.2 (gV q5_15 q5_16 q5_17 q1_1 q5_18) rfl rfl rfl (by decide +kernel) ⟨Nat.le_of_ble_eq_true rfl, Nat.le_of_ble_eq_true rfl⟩) rfl rfl rfl rfl (by decide) rfl rfl rfl rfl rfl rfl (Nat.le_of_ble_eq_true rfl) ⟨Nat.le_of_ble_eq_true rfl, Nat.le_of_ble_eq_true rfl⟩ dL_guests_5 [⟨0, 10, 13, 24⟩] ⟨0, 10, 17, 13⟩ [] (hxt.trans rfl) (fun z hz => by rcases List.mem_singleton.mp hz with rfl; exact Or.inr ⟨by decide, "java/lang/IndexOutOfBoundsException", F.1.2.2.2.2 _ (tl q4_147), F.2.2.2.2.2.2.2.2.2.2.2.2.2.2.1 ("java/lang/IllegalArgumentException", "java/lang/IndexOutOfBoundsException") (by decide)⟩) (by decide) (by decide) (nm := "java/lang/IllegalArgumentException") (tl q3_96) ((F.2.2.2.2.2.2.2.2.2.2.2.2.1 "java/lang/IllegalArgumentException" (by decide)).use rfl) (fun q9 => ?_)
      refine a_astore (pc := 17) (lv' := [(0, .ref (a0 0)), (1, .int x1), (2, .int x2), (3, .ref (a6 0))]) F [1, 2, 3, 4] dL_guests_17 (by decide) rfl ?_
      refine a_iconst (pc := 19) (v := 2) F dL_guests_19 (by decide) ?_
      exact hret _ _ _ _ (Nat.le_of_ble_eq_true rfl) (Nat.le_of_ble_eq_true rfl) dL_guests_20
    replace hf := it_neg h1 hf
    cases hf

abbrev wL_prop : List Cond := Cond.codeWith yL_prop cL_prop 5 (some .int) [(0, 17, 20, 24)] :: WALL
def m_L_prop (n : Nat) (v0 : St) (v1 : St) (v2 : St) (v3 : St) (v4 : Nat → St) (v5 : Nat → St) (v6 : Nat → Int64) (x1 : Int32) (x2 : Int32) : Option (Int32 × St × St × (Nat → St) × (Nat → St) × (Nat → Int64)) :=
  bd (m_X11_prop n v0 v1 v2 v3 v4 v5 x1 x2) (fun t => sm t (fun a => some (0, a.2.1, a.2.2.1, a.2.2.2.1, a.2.2.2.2, vp_updL v6 0 (if a.1 = 0 then 0 else 1))) (fun x => (if x.1 = 2 then some (1, x.2.1, x.2.2.1, x.2.2.2.1, x.2.2.2.2, v6) else none)))
set_option maxHeartbeats 4000000 in
set_option maxRecDepth 100000 in
theorem c_L_prop (l : Launch) (hlt : l.stackTraces = false) (D : va_G) (y : Nat → ClassId) (ek : EK) (n : Nat) (a0 : Nat → Nat) (a1 : Nat → Nat) (a2 : Nat → Nat) (a3 : Nat → Nat) (a4 : Nat → Nat → Nat) (a5 : Nat → Nat → Nat) (a6 : Nat → Nat) (z0_tape : Nat) (z0_tokens : Nat) (z0_hillReader : Nat) (z0_lawReader : Nat) (z0_rules : Nat) (z0_spare : Nat) (z0_draft : Nat) (z0_spareDiary : Nat) (z0_guess : Nat) (z0_imageHill : Nat) (z0_imageRules : Nat) (z0_imageDiary : Nat) (v0 : St) (v1 : St) (v2 : St) (v3 : St) (v4 : Nat → St) (v5 : Nat → St) (v6 : Nat → Int64) (x1 : Int32) (x2 : Int32) (res : Int32 × St × St × (Nat → St) × (Nat → St) × (Nat → Int64)) (hf : m_L_prop n v0 v1 v2 v3 v4 v5 v6 x1 x2 = some res) : CI l yL_prop wL_prop { frames := 8, cells := 1, slots := 6, locals := 136 } D y ek [.ref (a0 0), .int x1, .int x2, .ref (a6 0)] [bX11 y a0 z0_tape z0_tokens z0_hillReader z0_lawReader (a1 0) z0_rules (a2 0) z0_spare z0_draft z0_spareDiary z0_guess (a3 0) z0_imageHill z0_imageRules z0_imageDiary v0, bX3 y a1 v1, bX1 y a2 v2, bX8 y a3 a4 a5 v3, bPH y a4 v4, bPD y a5 v5, bAL1 y a6 v6] (res.1) [bX11 y a0 z0_tape z0_tokens z0_hillReader z0_lawReader (a1 0) z0_rules (a2 0) z0_spare z0_draft z0_spareDiary z0_guess (a3 0) z0_imageHill z0_imageRules z0_imageDiary v0, bX3 y a1 res.2.1, bX1 y a2 v2, bX8 y a3 a4 a5 res.2.2.1, bPH y a4 res.2.2.2.1, bPD y a5 res.2.2.2.2.1, bAL1 y a6 res.2.2.2.2.2] 1 6 := by
  unfold m_L_prop at hf
  refine ci_ofW (cc := cL_prop) (maxL := 5) (by decide) rfl rfl (Nat.le_of_ble_eq_true rfl) ?_
  intro p e s m below meth c Q A F hxt hret
  refine a_lv (lv' := [(0, .ref (a0 0)), (1, .int x1), (2, .int x2), (3, .ref (a6 0))]) rfl ?_
  obtain ⟨t, ht, hf⟩ := bd_some hf
  refine a_aloadn (pc := 0) (j := 3) F dL_prop_0 rfl rfl ?_
  refine a_iconst (pc := 1) (v := 0) F dL_prop_1 (by decide) ?_
  refine a_aloadn (pc := 2) (j := 0) F dL_prop_2 rfl rfl ?_
  refine a_iloadn (pc := 3) (j := 1) F dL_prop_3 rfl rfl ?_
  refine a_iloadn (pc := 4) (j := 2) F dL_prop_4 rfl rfl ?_
  rcases t with a | x
  · replace hf := sm_inl hf
    obtain rfl := Option.some.inj hf
    refine a_callV (pc := 5) (bs' := [bX11 y a0 z0_tape z0_tokens z0_hillReader z0_lawReader (a1 0) z0_rules (a2 0) z0_spare z0_draft z0_spareDiary z0_guess (a3 0) z0_imageHill z0_imageRules z0_imageDiary v0, bX3 y a1 a.2.1, bX1 y a2 v2, bX8 y a3 a4 a5 a.2.2.1, bPH y a4 a.2.2.2.1, bPD y a5 a.2.2.2.2, bAL1 y a6 v6]) (kb := 0) (j := 0) F [0, 1, 2, 3, 4, 5] (c_X11_prop l D y ek n a0 a1 a2 a3 a4 a5 z0_tape z0_tokens z0_hillReader z0_lawReader z0_rules z0_spare z0_draft z0_spareDiary z0_guess z0_imageHill z0_imageRules z0_imageDiary _ _ _ _ _ _ _ _ _ ht) (cwV 2 F.1.2.2.2.2 (gV q5_25 q5_26 q5_27 q1_1 q5_28) rfl rfl rfl (by decide +kernel) ⟨Nat.le_of_ble_eq_true rfl, Nat.le_of_ble_eq_true rfl⟩) rfl rfl rfl rfl (by decide) rfl rfl rfl rfl rfl rfl (Nat.le_of_ble_eq_true rfl) ⟨Nat.le_of_ble_eq_true rfl, Nat.le_of_ble_eq_true rfl⟩ dL_prop_5 ?_
    refine a_if_eq (pc := 8) (tgt := 15) F dL_prop_8 (by decide) (fun h => ?_) (fun h => ?_)
    · refine a_lconst (pc := 15) (v := 0) F dL_prop_15 (by decide) ?_
      refine a_nml (z := (if a.1 = 0 then 0 else 1)) (if_pos h) ?_
      refine a_lastc (pc := 16) (kb := 6) (j := 0) (k := 0) (bs' := [bX11 y a0 z0_tape z0_tokens z0_hillReader z0_lawReader (a1 0) z0_rules (a2 0) z0_spare z0_draft z0_spareDiary z0_guess (a3 0) z0_imageHill z0_imageRules z0_imageDiary v0, bX3 y a1 a.2.1, bX1 y a2 v2, bX8 y a3 a4 a5 a.2.2.1, bPH y a4 a.2.2.2.1, bPD y a5 a.2.2.2.2, bAL1 y a6 (vp_updL v6 0 (if a.1 = 0 then 0 else 1))]) F rfl rfl (by decide) (by decide) rfl dL_prop_16 ?_
      refine a_goto (pc := 17) (tgt := 24) F dL_prop_17 (by decide) ?_
      refine a_iconst (pc := 24) (v := 0) F dL_prop_24 (by decide) ?_
      exact hret _ _ _ _ (Nat.le_of_ble_eq_true rfl) (Nat.le_of_ble_eq_true rfl) dL_prop_25
    · refine a_lconst (pc := 11) (v := 1) F dL_prop_11 (by decide) ?_
      refine a_nml (z := (if a.1 = 0 then 0 else 1)) (if_neg h) ?_
      refine a_goto (pc := 12) (tgt := 16) F dL_prop_12 (by decide) ?_
      refine a_lastc (pc := 16) (kb := 6) (j := 0) (k := 0) (bs' := [bX11 y a0 z0_tape z0_tokens z0_hillReader z0_lawReader (a1 0) z0_rules (a2 0) z0_spare z0_draft z0_spareDiary z0_guess (a3 0) z0_imageHill z0_imageRules z0_imageDiary v0, bX3 y a1 a.2.1, bX1 y a2 v2, bX8 y a3 a4 a5 a.2.2.1, bPH y a4 a.2.2.2.1, bPD y a5 a.2.2.2.2, bAL1 y a6 (vp_updL v6 0 (if a.1 = 0 then 0 else 1))]) F rfl rfl (by decide) (by decide) rfl dL_prop_16 ?_
      refine a_goto (pc := 17) (tgt := 24) F dL_prop_17 (by decide) ?_
      refine a_iconst (pc := 24) (v := 0) F dL_prop_24 (by decide) ?_
      exact hret _ _ _ _ (Nat.le_of_ble_eq_true rfl) (Nat.le_of_ble_eq_true rfl) dL_prop_25
  · replace hf := sm_inr hf
    by_cases h0 : x.1 = 2
    · replace hf := it_pos h0 hf
      obtain rfl := Option.some.inj hf
      have hM := x_X11_prop l hlt D y ek n a0 a1 a2 a3 a4 a5 z0_tape z0_tokens z0_hillReader z0_lawReader z0_rules z0_spare z0_draft z0_spareDiary z0_guess z0_imageHill z0_imageRules z0_imageDiary _ _ _ _ _ _ _ _ _ ht
      rw [h0] at hM
      refine a_callVc (pc := 5) (bs' := [bX11 y a0 z0_tape z0_tokens z0_hillReader z0_lawReader (a1 0) z0_rules (a2 0) z0_spare z0_draft z0_spareDiary z0_guess (a3 0) z0_imageHill z0_imageRules z0_imageDiary v0, bX3 y a1 x.2.1, bX1 y a2 v2, bX8 y a3 a4 a5 x.2.2.1, bPH y a4 x.2.2.2.1, bPD y a5 x.2.2.2.2, bAL1 y a6 v6]) (kb := 0) (j := 0) F [0, 1, 2, 3, 4, 5] hM (cwV 2 F.1.2.2.2.2 (gV q5_25 q5_26 q5_27 q1_1 q5_28) rfl rfl rfl (by decide +kernel) ⟨Nat.le_of_ble_eq_true rfl, Nat.le_of_ble_eq_true rfl⟩) rfl rfl rfl rfl (by decide) rfl rfl rfl rfl rfl rfl (Nat.le_of_ble_eq_true rfl) ⟨Nat.le_of_ble_eq_true rfl, Nat.le_of_ble_eq_true rfl⟩ dL_prop_5 [] ⟨0, 17, 20, 24⟩ [] (hxt.trans rfl) (fun z hz => absurd hz List.not_mem_nil) (by decide) (by decide) (nm := "java/lang/IndexOutOfBoundsException") (tl q4_147) ((F.2.2.2.2.2.2.2.2.2.2.2.2.1 "java/lang/IndexOutOfBoundsException" (by decide)).use rfl) (fun q9 => ?_)
      refine a_astore (pc := 20) (lv' := [(0, .ref (a0 0)), (1, .int x1), (2, .int x2), (3, .ref (a6 0))]) F [1, 2, 3, 4] dL_prop_20 (by decide) rfl ?_
      refine a_iconst (pc := 22) (v := 1) F dL_prop_22 (by decide) ?_
      exact hret _ _ _ _ (Nat.le_of_ble_eq_true rfl) (Nat.le_of_ble_eq_true rfl) dL_prop_23
    replace hf := it_neg h0 hf
    cases hf

abbrev wL_mend : List Cond := Cond.codeWith yL_mend cL_mend 4 (some .int) [(0, 9, 12, 24), (0, 9, 15, 37)] :: WALL
def m_L_mend (n : Nat) (v0 : St) (v1 : St) (v2 : St) (v3 : St) (v4 : Nat → St) (v5 : Nat → St) (v6 : Nat → Int64) (x1 : Int32) : Option (Int32 × St × St × (Nat → St) × (Nat → St) × (Nat → Int64)) :=
  bd (m_X11_mend n v0 v1 v2 v3 v4 v5 x1) (fun t => sm t (fun a => some (0, a.2.1, a.2.2.1, a.2.2.2.1, a.2.2.2.2, vp_updL v6 0 (a.1).toInt64)) (fun x => (if x.1 = 2 then some (1, x.2.1, x.2.2.1, x.2.2.2.1, x.2.2.2.2, v6) else (if x.1 = 4 then some (2, x.2.1, x.2.2.1, x.2.2.2.1, x.2.2.2.2, v6) else none))))
set_option maxHeartbeats 4000000 in
set_option maxRecDepth 100000 in
theorem c_L_mend (l : Launch) (hlt : l.stackTraces = false) (D : va_G) (y : Nat → ClassId) (ek : EK) (n : Nat) (a0 : Nat → Nat) (a1 : Nat → Nat) (a2 : Nat → Nat) (a3 : Nat → Nat) (a4 : Nat → Nat → Nat) (a5 : Nat → Nat → Nat) (a6 : Nat → Nat) (z0_tape : Nat) (z0_tokens : Nat) (z0_hillReader : Nat) (z0_lawReader : Nat) (z0_rules : Nat) (z0_spare : Nat) (z0_draft : Nat) (z0_spareDiary : Nat) (z0_guess : Nat) (z0_imageHill : Nat) (z0_imageRules : Nat) (z0_imageDiary : Nat) (v0 : St) (v1 : St) (v2 : St) (v3 : St) (v4 : Nat → St) (v5 : Nat → St) (v6 : Nat → Int64) (x1 : Int32) (res : Int32 × St × St × (Nat → St) × (Nat → St) × (Nat → Int64)) (hf : m_L_mend n v0 v1 v2 v3 v4 v5 v6 x1 = some res) : CI l yL_mend wL_mend { frames := 8, cells := 1, slots := 6, locals := 135 } D y ek [.ref (a0 0), .int x1, .ref (a6 0)] [bX11 y a0 z0_tape z0_tokens z0_hillReader z0_lawReader (a1 0) z0_rules (a2 0) z0_spare z0_draft z0_spareDiary z0_guess (a3 0) z0_imageHill z0_imageRules z0_imageDiary v0, bX3 y a1 v1, bX1 y a2 v2, bX8 y a3 a4 a5 v3, bPH y a4 v4, bPD y a5 v5, bAL1 y a6 v6] (res.1) [bX11 y a0 z0_tape z0_tokens z0_hillReader z0_lawReader (a1 0) z0_rules (a2 0) z0_spare z0_draft z0_spareDiary z0_guess (a3 0) z0_imageHill z0_imageRules z0_imageDiary v0, bX3 y a1 res.2.1, bX1 y a2 v2, bX8 y a3 a4 a5 res.2.2.1, bPH y a4 res.2.2.2.1, bPD y a5 res.2.2.2.2.1, bAL1 y a6 res.2.2.2.2.2] 1 6 := by
  unfold m_L_mend at hf
  refine ci_ofW (cc := cL_mend) (maxL := 4) (by decide) rfl rfl (Nat.le_of_ble_eq_true rfl) ?_
  intro p e s m below meth c Q A F hxt hret
  refine a_lv (lv' := [(0, .ref (a0 0)), (1, .int x1), (2, .ref (a6 0))]) rfl ?_
  obtain ⟨t, ht, hf⟩ := bd_some hf
  refine a_aloadn (pc := 0) (j := 2) F dL_mend_0 rfl rfl ?_
  refine a_iconst (pc := 1) (v := 0) F dL_mend_1 (by decide) ?_
  refine a_aloadn (pc := 2) (j := 0) F dL_mend_2 rfl rfl ?_
  refine a_iloadn (pc := 3) (j := 1) F dL_mend_3 rfl rfl ?_
  rcases t with a | x
  · replace hf := sm_inl hf
    obtain rfl := Option.some.inj hf
    refine a_callV (pc := 4) (bs' := [bX11 y a0 z0_tape z0_tokens z0_hillReader z0_lawReader (a1 0) z0_rules (a2 0) z0_spare z0_draft z0_spareDiary z0_guess (a3 0) z0_imageHill z0_imageRules z0_imageDiary v0, bX3 y a1 a.2.1, bX1 y a2 v2, bX8 y a3 a4 a5 a.2.2.1, bPH y a4 a.2.2.2.1, bPD y a5 a.2.2.2.2, bAL1 y a6 v6]) (kb := 0) (j := 0) F [0, 1, 2, 3, 4, 5] (c_X11_mend l D y ek n a0 a1 a2 a3 a4 a5 z0_tape z0_tokens z0_hillReader z0_lawReader z0_rules z0_spare z0_draft z0_spareDiary z0_guess z0_imageHill z0_imageRules z0_imageDiary _ _ _ _ _ _ _ _ ht) (cwV 1 F.1.2.2.2.2 (gV q5_32 q5_33 q5_34 q1_1 q5_35) rfl rfl rfl (by decide +kernel) ⟨Nat.le_of_ble_eq_true rfl, Nat.le_of_ble_eq_true rfl⟩) rfl rfl rfl rfl (by decide) rfl rfl rfl rfl rfl rfl (Nat.le_of_ble_eq_true rfl) ⟨Nat.le_of_ble_eq_true rfl, Nat.le_of_ble_eq_true rfl⟩ dL_mend_4 ?_
    refine a_i2l (pc := 7) F dL_mend_7 ?_
    refine a_lastc (pc := 8) (kb := 6) (j := 0) (k := 0) (bs' := [bX11 y a0 z0_tape z0_tokens z0_hillReader z0_lawReader (a1 0) z0_rules (a2 0) z0_spare z0_draft z0_spareDiary z0_guess (a3 0) z0_imageHill z0_imageRules z0_imageDiary v0, bX3 y a1 a.2.1, bX1 y a2 v2, bX8 y a3 a4 a5 a.2.2.1, bPH y a4 a.2.2.2.1, bPD y a5 a.2.2.2.2, bAL1 y a6 (vp_updL v6 0 (a.1).toInt64)]) F rfl rfl (by decide) (by decide) rfl dL_mend_8 ?_
    refine a_goto (pc := 9) (tgt := 18) F dL_mend_9 (by decide) ?_
    refine a_iconst (pc := 18) (v := 0) F dL_mend_18 (by decide) ?_
    exact hret _ _ _ _ (Nat.le_of_ble_eq_true rfl) (Nat.le_of_ble_eq_true rfl) dL_mend_19
  · replace hf := sm_inr hf
    by_cases h0 : x.1 = 2
    · replace hf := it_pos h0 hf
      obtain rfl := Option.some.inj hf
      have hM := x_X11_mend l hlt D y ek n a0 a1 a2 a3 a4 a5 z0_tape z0_tokens z0_hillReader z0_lawReader z0_rules z0_spare z0_draft z0_spareDiary z0_guess z0_imageHill z0_imageRules z0_imageDiary _ _ _ _ _ _ _ _ ht
      rw [h0] at hM
      refine a_callVc (pc := 4) (bs' := [bX11 y a0 z0_tape z0_tokens z0_hillReader z0_lawReader (a1 0) z0_rules (a2 0) z0_spare z0_draft z0_spareDiary z0_guess (a3 0) z0_imageHill z0_imageRules z0_imageDiary v0, bX3 y a1 x.2.1, bX1 y a2 v2, bX8 y a3 a4 a5 x.2.2.1, bPH y a4 x.2.2.2.1, bPD y a5 x.2.2.2.2, bAL1 y a6 v6]) (kb := 0) (j := 0) F [0, 1, 2, 3, 4, 5] hM (cwV 1 F.1.2.2.2.2 (gV q5_32 q5_33 q5_34 q1_1 q5_35) rfl rfl rfl (by decide +kernel) ⟨Nat.le_of_ble_eq_true rfl, Nat.le_of_ble_eq_true rfl⟩) rfl rfl rfl rfl (by decide) rfl rfl rfl rfl rfl rfl (Nat.le_of_ble_eq_true rfl) ⟨Nat.le_of_ble_eq_true rfl, Nat.le_of_ble_eq_true rfl⟩ dL_mend_4 [] ⟨0, 9, 12, 24⟩ [⟨0, 9, 15, 37⟩] (hxt.trans rfl) (fun z hz => absurd hz List.not_mem_nil) (by decide) (by decide) (nm := "java/lang/IndexOutOfBoundsException") (tl q4_147) ((F.2.2.2.2.2.2.2.2.2.2.2.2.1 "java/lang/IndexOutOfBoundsException" (by decide)).use rfl) (fun q9 => ?_)
      refine a_astoren (pc := 12) (lv' := [(0, .ref (a0 0)), (1, .int x1), (2, .ref (a6 0))]) F [1, 2, 3] dL_mend_12 rfl (by decide) rfl ?_
      refine a_iconst (pc := 13) (v := 1) F dL_mend_13 (by decide) ?_
      exact hret _ _ _ _ (Nat.le_of_ble_eq_true rfl) (Nat.le_of_ble_eq_true rfl) dL_mend_14
    replace hf := it_neg h0 hf
    by_cases h1 : x.1 = 4
    · replace hf := it_pos h1 hf
      obtain rfl := Option.some.inj hf
      have hM := x_X11_mend l hlt D y ek n a0 a1 a2 a3 a4 a5 z0_tape z0_tokens z0_hillReader z0_lawReader z0_rules z0_spare z0_draft z0_spareDiary z0_guess z0_imageHill z0_imageRules z0_imageDiary _ _ _ _ _ _ _ _ ht
      rw [h1] at hM
      refine a_callVc (pc := 4) (bs' := [bX11 y a0 z0_tape z0_tokens z0_hillReader z0_lawReader (a1 0) z0_rules (a2 0) z0_spare z0_draft z0_spareDiary z0_guess (a3 0) z0_imageHill z0_imageRules z0_imageDiary v0, bX3 y a1 x.2.1, bX1 y a2 v2, bX8 y a3 a4 a5 x.2.2.1, bPH y a4 x.2.2.2.1, bPD y a5 x.2.2.2.2, bAL1 y a6 v6]) (kb := 0) (j := 0) F [0, 1, 2, 3, 4, 5] hM (cwV 1 F.1.2.2.2.2 (gV q5_32 q5_33 q5_34 q1_1 q5_35) rfl rfl rfl (by decide +kernel) ⟨Nat.le_of_ble_eq_true rfl, Nat.le_of_ble_eq_true rfl⟩) rfl rfl rfl rfl (by decide) rfl rfl rfl rfl rfl rfl (Nat.le_of_ble_eq_true rfl) ⟨Nat.le_of_ble_eq_true rfl, Nat.le_of_ble_eq_true rfl⟩ dL_mend_4 [⟨0, 9, 12, 24⟩] ⟨0, 9, 15, 37⟩ [] (hxt.trans rfl) (fun z hz => by rcases List.mem_singleton.mp hz with rfl; exact Or.inr ⟨by decide, "java/lang/IndexOutOfBoundsException", F.1.2.2.2.2 _ (tl q4_147), F.2.2.2.2.2.2.2.2.2.2.2.2.2.2.1 ("java/lang/IllegalStateException", "java/lang/IndexOutOfBoundsException") (by decide)⟩) (by decide) (by decide) (nm := "java/lang/IllegalStateException") (tl q4_228) ((F.2.2.2.2.2.2.2.2.2.2.2.2.1 "java/lang/IllegalStateException" (by decide)).use rfl) (fun q9 => ?_)
      refine a_astoren (pc := 15) (lv' := [(0, .ref (a0 0)), (1, .int x1), (2, .ref (a6 0))]) F [1, 2, 3] dL_mend_15 rfl (by decide) rfl ?_
      refine a_iconst (pc := 16) (v := 2) F dL_mend_16 (by decide) ?_
      exact hret _ _ _ _ (Nat.le_of_ble_eq_true rfl) (Nat.le_of_ble_eq_true rfl) dL_mend_17
    replace hf := it_neg h1 hf
    cases hf

abbrev wL_give : List Cond := Cond.codeWith yL_give cL_give 6 (some .int) [(0, 12, 15, 24), (0, 12, 19, 13)] :: WALL
def m_L_give (n : Nat) (v0 : St) (v1 : St) (v2 : St) (v3 : St) (v4 : Nat → St) (v5 : Nat → St) (v6 : Nat → Int64) (x1 : Int32) (x2 : Int32) (x3 : Int32) : Option (Int32 × St × St × (Nat → St) × (Nat → St) × (Nat → Int64)) :=
  bd (m_X11_give n v0 v1 v2 v3 v4 v5 x1 x2 x3) (fun t => sm t (fun a => some (0, a.2.1, a.2.2.1, a.2.2.2.1, a.2.2.2.2, vp_updL v6 0 (a.1).toInt64)) (fun x => (if x.1 = 2 then some (1, x.2.1, x.2.2.1, x.2.2.2.1, x.2.2.2.2, v6) else (if x.1 = 0 then some (2, x.2.1, x.2.2.1, x.2.2.2.1, x.2.2.2.2, v6) else none))))
set_option maxHeartbeats 4000000 in
set_option maxRecDepth 100000 in
theorem c_L_give (l : Launch) (hlt : l.stackTraces = false) (D : va_G) (y : Nat → ClassId) (ek : EK) (n : Nat) (a0 : Nat → Nat) (a1 : Nat → Nat) (a2 : Nat → Nat) (a3 : Nat → Nat) (a4 : Nat → Nat → Nat) (a5 : Nat → Nat → Nat) (a6 : Nat → Nat) (z0_tape : Nat) (z0_tokens : Nat) (z0_hillReader : Nat) (z0_lawReader : Nat) (z0_rules : Nat) (z0_spare : Nat) (z0_draft : Nat) (z0_spareDiary : Nat) (z0_guess : Nat) (z0_imageHill : Nat) (z0_imageRules : Nat) (z0_imageDiary : Nat) (v0 : St) (v1 : St) (v2 : St) (v3 : St) (v4 : Nat → St) (v5 : Nat → St) (v6 : Nat → Int64) (x1 : Int32) (x2 : Int32) (x3 : Int32) (res : Int32 × St × St × (Nat → St) × (Nat → St) × (Nat → Int64)) (hf : m_L_give n v0 v1 v2 v3 v4 v5 v6 x1 x2 x3 = some res) : CI l yL_give wL_give { frames := 8, cells := 1, slots := 6, locals := 136 } D y ek [.ref (a0 0), .int x1, .int x2, .int x3, .ref (a6 0)] [bX11 y a0 z0_tape z0_tokens z0_hillReader z0_lawReader (a1 0) z0_rules (a2 0) z0_spare z0_draft z0_spareDiary z0_guess (a3 0) z0_imageHill z0_imageRules z0_imageDiary v0, bX3 y a1 v1, bX1 y a2 v2, bX8 y a3 a4 a5 v3, bPH y a4 v4, bPD y a5 v5, bAL1 y a6 v6] (res.1) [bX11 y a0 z0_tape z0_tokens z0_hillReader z0_lawReader (a1 0) z0_rules (a2 0) z0_spare z0_draft z0_spareDiary z0_guess (a3 0) z0_imageHill z0_imageRules z0_imageDiary v0, bX3 y a1 res.2.1, bX1 y a2 v2, bX8 y a3 a4 a5 res.2.2.1, bPH y a4 res.2.2.2.1, bPD y a5 res.2.2.2.2.1, bAL1 y a6 res.2.2.2.2.2] 1 6 := by
  unfold m_L_give at hf
  refine ci_ofW (cc := cL_give) (maxL := 6) (by decide) rfl rfl (Nat.le_of_ble_eq_true rfl) ?_
  intro p e s m below meth c Q A F hxt hret
  refine a_lv (lv' := [(0, .ref (a0 0)), (1, .int x1), (2, .int x2), (3, .int x3), (4, .ref (a6 0))]) rfl ?_
  obtain ⟨t, ht, hf⟩ := bd_some hf
  refine a_aload (pc := 0) (j := 4) F dL_give_0 rfl ?_
  refine a_iconst (pc := 2) (v := 0) F dL_give_2 (by decide) ?_
  refine a_aloadn (pc := 3) (j := 0) F dL_give_3 rfl rfl ?_
  refine a_iloadn (pc := 4) (j := 1) F dL_give_4 rfl rfl ?_
  refine a_iloadn (pc := 5) (j := 2) F dL_give_5 rfl rfl ?_
  refine a_iloadn (pc := 6) (j := 3) F dL_give_6 rfl rfl ?_
  rcases t with a | x
  · replace hf := sm_inl hf
    obtain rfl := Option.some.inj hf
    refine a_callV (pc := 7) (bs' := [bX11 y a0 z0_tape z0_tokens z0_hillReader z0_lawReader (a1 0) z0_rules (a2 0) z0_spare z0_draft z0_spareDiary z0_guess (a3 0) z0_imageHill z0_imageRules z0_imageDiary v0, bX3 y a1 a.2.1, bX1 y a2 v2, bX8 y a3 a4 a5 a.2.2.1, bPH y a4 a.2.2.2.1, bPD y a5 a.2.2.2.2, bAL1 y a6 v6]) (kb := 0) (j := 0) F [0, 1, 2, 3, 4, 5] (c_X11_give l D y ek n a0 a1 a2 a3 a4 a5 z0_tape z0_tokens z0_hillReader z0_lawReader z0_rules z0_spare z0_draft z0_spareDiary z0_guess z0_imageHill z0_imageRules z0_imageDiary _ _ _ _ _ _ _ _ _ _ ht) (cwV 3 F.1.2.2.2.2 (gV q5_39 q5_40 q5_41 q1_1 q5_42) rfl rfl rfl (by decide +kernel) ⟨Nat.le_of_ble_eq_true rfl, Nat.le_of_ble_eq_true rfl⟩) rfl rfl rfl rfl (by decide) rfl rfl rfl rfl rfl rfl (Nat.le_of_ble_eq_true rfl) ⟨Nat.le_of_ble_eq_true rfl, Nat.le_of_ble_eq_true rfl⟩ dL_give_7 ?_
    refine a_i2l (pc := 10) F dL_give_10 ?_
    refine a_lastc (pc := 11) (kb := 6) (j := 0) (k := 0) (bs' := [bX11 y a0 z0_tape z0_tokens z0_hillReader z0_lawReader (a1 0) z0_rules (a2 0) z0_spare z0_draft z0_spareDiary z0_guess (a3 0) z0_imageHill z0_imageRules z0_imageDiary v0, bX3 y a1 a.2.1, bX1 y a2 v2, bX8 y a3 a4 a5 a.2.2.1, bPH y a4 a.2.2.2.1, bPD y a5 a.2.2.2.2, bAL1 y a6 (vp_updL v6 0 (a.1).toInt64)]) F rfl rfl (by decide) (by decide) rfl dL_give_11 ?_
    refine a_goto (pc := 12) (tgt := 23) F dL_give_12 (by decide) ?_
    refine a_iconst (pc := 23) (v := 0) F dL_give_23 (by decide) ?_
    exact hret _ _ _ _ (Nat.le_of_ble_eq_true rfl) (Nat.le_of_ble_eq_true rfl) dL_give_24
  · replace hf := sm_inr hf
    by_cases h0 : x.1 = 2
    · replace hf := it_pos h0 hf
      obtain rfl := Option.some.inj hf
      have hM := x_X11_give l hlt D y ek n a0 a1 a2 a3 a4 a5 z0_tape z0_tokens z0_hillReader z0_lawReader z0_rules z0_spare z0_draft z0_spareDiary z0_guess z0_imageHill z0_imageRules z0_imageDiary _ _ _ _ _ _ _ _ _ _ ht
      rw [h0] at hM
      refine a_callVc (pc := 7) (bs' := [bX11 y a0 z0_tape z0_tokens z0_hillReader z0_lawReader (a1 0) z0_rules (a2 0) z0_spare z0_draft z0_spareDiary z0_guess (a3 0) z0_imageHill z0_imageRules z0_imageDiary v0, bX3 y a1 x.2.1, bX1 y a2 v2, bX8 y a3 a4 a5 x.2.2.1, bPH y a4 x.2.2.2.1, bPD y a5 x.2.2.2.2, bAL1 y a6 v6]) (kb := 0) (j := 0) F [0, 1, 2, 3, 4, 5] hM (cwV 3 F.1.2.2.2.2 (gV q5_39 q5_40 q5_41 q1_1 q5_42) rfl rfl rfl (by decide +kernel) ⟨Nat.le_of_ble_eq_true rfl, Nat.le_of_ble_eq_true rfl⟩) rfl rfl rfl rfl (by decide) rfl rfl rfl rfl rfl rfl (Nat.le_of_ble_eq_true rfl) ⟨Nat.le_of_ble_eq_true rfl, Nat.le_of_ble_eq_true rfl⟩ dL_give_7 [] ⟨0, 12, 15, 24⟩ [⟨0, 12, 19, 13⟩] (hxt.trans rfl) (fun z hz => absurd hz List.not_mem_nil) (by decide) (by decide) (nm := "java/lang/IndexOutOfBoundsException") (tl q4_147) ((F.2.2.2.2.2.2.2.2.2.2.2.2.1 "java/lang/IndexOutOfBoundsException" (by decide)).use rfl) (fun q9 => ?_)
      refine a_astore (pc := 15) (lv' := [(0, .ref (a0 0)), (1, .int x1), (2, .int x2), (3, .int x3), (4, .ref (a6 0))]) F [1, 2, 3, 4, 5] dL_give_15 (by decide) rfl ?_
      refine a_iconst (pc := 17) (v := 1) F dL_give_17 (by decide) ?_
      exact hret _ _ _ _ (Nat.le_of_ble_eq_true rfl) (Nat.le_of_ble_eq_true rfl) dL_give_18
    replace hf := it_neg h0 hf
    by_cases h1 : x.1 = 0
    · replace hf := it_pos h1 hf
      obtain rfl := Option.some.inj hf
      have hM := x_X11_give l hlt D y ek n a0 a1 a2 a3 a4 a5 z0_tape z0_tokens z0_hillReader z0_lawReader z0_rules z0_spare z0_draft z0_spareDiary z0_guess z0_imageHill z0_imageRules z0_imageDiary _ _ _ _ _ _ _ _ _ _ ht
      rw [h1] at hM
      refine a_callVc (pc := 7) (bs' := [bX11 y a0 z0_tape z0_tokens z0_hillReader z0_lawReader (a1 0) z0_rules (a2 0) z0_spare z0_draft z0_spareDiary z0_guess (a3 0) z0_imageHill z0_imageRules z0_imageDiary v0, bX3 y a1 x.2.1, bX1 y a2 v2, bX8 y a3 a4 a5 x.2.2.1, bPH y a4 x.2.2.2.1, bPD y a5 x.2.2.2.2, bAL1 y a6 v6]) (kb := 0) (j := 0) F [0, 1, 2, 3, 4, 5] hM (cwV 3 F.1.2.2.2.2 (gV q5_39 q5_40 q5_41 q1_1 q5_42) rfl rfl rfl (by decide +kernel) ⟨Nat.le_of_ble_eq_true rfl, Nat.le_of_ble_eq_true rfl⟩) rfl rfl rfl rfl (by decide) rfl rfl rfl rfl rfl rfl (Nat.le_of_ble_eq_true rfl) ⟨Nat.le_of_ble_eq_true rfl, Nat.le_of_ble_eq_true rfl⟩ dL_give_7 [⟨0, 12, 15, 24⟩] ⟨0, 12, 19, 13⟩ [] (hxt.trans rfl) (fun z hz => by rcases List.mem_singleton.mp hz with rfl; exact Or.inr ⟨by decide, "java/lang/IndexOutOfBoundsException", F.1.2.2.2.2 _ (tl q4_147), F.2.2.2.2.2.2.2.2.2.2.2.2.2.2.1 ("java/lang/IllegalArgumentException", "java/lang/IndexOutOfBoundsException") (by decide)⟩) (by decide) (by decide) (nm := "java/lang/IllegalArgumentException") (tl q3_96) ((F.2.2.2.2.2.2.2.2.2.2.2.2.1 "java/lang/IllegalArgumentException" (by decide)).use rfl) (fun q9 => ?_)
      refine a_astore (pc := 19) (lv' := [(0, .ref (a0 0)), (1, .int x1), (2, .int x2), (3, .int x3), (4, .ref (a6 0))]) F [1, 2, 3, 4, 5] dL_give_19 (by decide) rfl ?_
      refine a_iconst (pc := 21) (v := 2) F dL_give_21 (by decide) ?_
      exact hret _ _ _ _ (Nat.le_of_ble_eq_true rfl) (Nat.le_of_ble_eq_true rfl) dL_give_22
    replace hf := it_neg h1 hf
    cases hf

abbrev wL_weeks : List Cond := Cond.codeWith yL_weeks cL_weeks 4 (some .int) [(0, 9, 12, 13)] :: WALL
def m_L_weeks (n : Nat) (v0 : St) (v1 : St) (v2 : St) (v3 : St) (v4 : St) (v5 : Nat → St) (v6 : Nat → St) (v7 : Nat → Int64) (x1 : Int32) : Option (Int32 × St × St × St × St × (Nat → St) × (Nat → St) × (Nat → Int64)) :=
  bd (m_X11_weeks n v0 v1 v2 v3 v4 v5 v6 x1) (fun t => sm t (fun a => some (0, a.2.1, a.2.2.1, a.2.2.2.1, a.2.2.2.2.1, a.2.2.2.2.2.1, a.2.2.2.2.2.2, vp_updL v7 0 (a.1).toInt64)) (fun x => (if x.1 = 0 then some (1, x.2.1, x.2.2.1, x.2.2.2.1, x.2.2.2.2.1, x.2.2.2.2.2.1, x.2.2.2.2.2.2, v7) else none)))
set_option maxHeartbeats 4000000 in
set_option maxRecDepth 100000 in
theorem c_L_weeks (l : Launch) (hlt : l.stackTraces = false) (D : va_G) (y : Nat → ClassId) (ek : EK) (n : Nat) (a0 : Nat → Nat) (a1 : Nat → Nat) (a2 : Nat → Nat) (a3 : Nat → Nat) (a4 : Nat → Nat) (a5 : Nat → Nat → Nat) (a6 : Nat → Nat → Nat) (a7 : Nat → Nat) (z0_tape : Nat) (z0_tokens : Nat) (z0_hillReader : Nat) (z0_lawReader : Nat) (z0_spare : Nat) (z0_draft : Nat) (z0_spareDiary : Nat) (z0_guess : Nat) (z0_imageHill : Nat) (z0_imageRules : Nat) (z0_imageDiary : Nat) (v0 : St) (v1 : St) (v2 : St) (v3 : St) (v4 : St) (v5 : Nat → St) (v6 : Nat → St) (v7 : Nat → Int64) (x1 : Int32) (res : Int32 × St × St × St × St × (Nat → St) × (Nat → St) × (Nat → Int64)) (hf : m_L_weeks n v0 v1 v2 v3 v4 v5 v6 v7 x1 = some res) : CI l yL_weeks wL_weeks { frames := 8, cells := 1, slots := 6, locals := 172 } D y ek [.ref (a0 0), .int x1, .ref (a7 0)] [bX11 y a0 z0_tape z0_tokens z0_hillReader z0_lawReader (a1 0) (a2 0) (a3 0) z0_spare z0_draft z0_spareDiary z0_guess (a4 0) z0_imageHill z0_imageRules z0_imageDiary v0, bX3 y a1 v1, bX5 y a2 v2, bX1 y a3 v3, bX8 y a4 a5 a6 v4, bPH y a5 v5, bPD y a6 v6, bAL1 y a7 v7] (res.1) [bX11 y a0 z0_tape z0_tokens z0_hillReader z0_lawReader (a1 0) (a2 0) (a3 0) z0_spare z0_draft z0_spareDiary z0_guess (a4 0) z0_imageHill z0_imageRules z0_imageDiary v0, bX3 y a1 res.2.1, bX5 y a2 res.2.2.1, bX1 y a3 res.2.2.2.1, bX8 y a4 a5 a6 res.2.2.2.2.1, bPH y a5 res.2.2.2.2.2.1, bPD y a6 res.2.2.2.2.2.2.1, bAL1 y a7 res.2.2.2.2.2.2.2] 1 6 := by
  unfold m_L_weeks at hf
  refine ci_ofW (cc := cL_weeks) (maxL := 4) (by decide) rfl rfl (Nat.le_of_ble_eq_true rfl) ?_
  intro p e s m below meth c Q A F hxt hret
  refine a_lv (lv' := [(0, .ref (a0 0)), (1, .int x1), (2, .ref (a7 0))]) rfl ?_
  obtain ⟨t, ht, hf⟩ := bd_some hf
  refine a_aloadn (pc := 0) (j := 2) F dL_weeks_0 rfl rfl ?_
  refine a_iconst (pc := 1) (v := 0) F dL_weeks_1 (by decide) ?_
  refine a_aloadn (pc := 2) (j := 0) F dL_weeks_2 rfl rfl ?_
  refine a_iloadn (pc := 3) (j := 1) F dL_weeks_3 rfl rfl ?_
  rcases t with a | x
  · replace hf := sm_inl hf
    obtain rfl := Option.some.inj hf
    refine a_callV (pc := 4) (bs' := [bX11 y a0 z0_tape z0_tokens z0_hillReader z0_lawReader (a1 0) (a2 0) (a3 0) z0_spare z0_draft z0_spareDiary z0_guess (a4 0) z0_imageHill z0_imageRules z0_imageDiary v0, bX3 y a1 a.2.1, bX5 y a2 a.2.2.1, bX1 y a3 a.2.2.2.1, bX8 y a4 a5 a6 a.2.2.2.2.1, bPH y a5 a.2.2.2.2.2.1, bPD y a6 a.2.2.2.2.2.2, bAL1 y a7 v7]) (kb := 0) (j := 0) F [0, 1, 2, 3, 4, 5, 6] (c_X11_weeks l D y ek n a0 a1 a2 a3 a4 a5 a6 z0_tape z0_tokens z0_hillReader z0_lawReader z0_spare z0_draft z0_spareDiary z0_guess z0_imageHill z0_imageRules z0_imageDiary _ _ _ _ _ _ _ _ _ ht) (cwV 1 F.1.2.2.2.2 (gV q5_47 q5_48 q5_49 q1_1 q5_50) rfl rfl rfl (by decide +kernel) ⟨Nat.le_of_ble_eq_true rfl, Nat.le_of_ble_eq_true rfl⟩) rfl rfl rfl rfl (by decide) rfl rfl rfl rfl rfl rfl (Nat.le_of_ble_eq_true rfl) ⟨Nat.le_of_ble_eq_true rfl, Nat.le_of_ble_eq_true rfl⟩ dL_weeks_4 ?_
    refine a_i2l (pc := 7) F dL_weeks_7 ?_
    refine a_lastc (pc := 8) (kb := 7) (j := 0) (k := 0) (bs' := [bX11 y a0 z0_tape z0_tokens z0_hillReader z0_lawReader (a1 0) (a2 0) (a3 0) z0_spare z0_draft z0_spareDiary z0_guess (a4 0) z0_imageHill z0_imageRules z0_imageDiary v0, bX3 y a1 a.2.1, bX5 y a2 a.2.2.1, bX1 y a3 a.2.2.2.1, bX8 y a4 a5 a6 a.2.2.2.2.1, bPH y a5 a.2.2.2.2.2.1, bPD y a6 a.2.2.2.2.2.2, bAL1 y a7 (vp_updL v7 0 (a.1).toInt64)]) F rfl rfl (by decide) (by decide) rfl dL_weeks_8 ?_
    refine a_goto (pc := 9) (tgt := 15) F dL_weeks_9 (by decide) ?_
    refine a_iconst (pc := 15) (v := 0) F dL_weeks_15 (by decide) ?_
    exact hret _ _ _ _ (Nat.le_of_ble_eq_true rfl) (Nat.le_of_ble_eq_true rfl) dL_weeks_16
  · replace hf := sm_inr hf
    by_cases h0 : x.1 = 0
    · replace hf := it_pos h0 hf
      obtain rfl := Option.some.inj hf
      have hM := x_X11_weeks l hlt D y ek n a0 a1 a2 a3 a4 a5 a6 z0_tape z0_tokens z0_hillReader z0_lawReader z0_spare z0_draft z0_spareDiary z0_guess z0_imageHill z0_imageRules z0_imageDiary _ _ _ _ _ _ _ _ _ ht
      rw [h0] at hM
      refine a_callVc (pc := 4) (bs' := [bX11 y a0 z0_tape z0_tokens z0_hillReader z0_lawReader (a1 0) (a2 0) (a3 0) z0_spare z0_draft z0_spareDiary z0_guess (a4 0) z0_imageHill z0_imageRules z0_imageDiary v0, bX3 y a1 x.2.1, bX5 y a2 x.2.2.1, bX1 y a3 x.2.2.2.1, bX8 y a4 a5 a6 x.2.2.2.2.1, bPH y a5 x.2.2.2.2.2.1, bPD y a6 x.2.2.2.2.2.2, bAL1 y a7 v7]) (kb := 0) (j := 0) F [0, 1, 2, 3, 4, 5, 6] hM (cwV 1 F.1.2.2.2.2 (gV q5_47 q5_48 q5_49 q1_1 q5_50) rfl rfl rfl (by decide +kernel) ⟨Nat.le_of_ble_eq_true rfl, Nat.le_of_ble_eq_true rfl⟩) rfl rfl rfl rfl (by decide) rfl rfl rfl rfl rfl rfl (Nat.le_of_ble_eq_true rfl) ⟨Nat.le_of_ble_eq_true rfl, Nat.le_of_ble_eq_true rfl⟩ dL_weeks_4 [] ⟨0, 9, 12, 13⟩ [] (hxt.trans rfl) (fun z hz => absurd hz List.not_mem_nil) (by decide) (by decide) (nm := "java/lang/IllegalArgumentException") (tl q3_96) ((F.2.2.2.2.2.2.2.2.2.2.2.2.1 "java/lang/IllegalArgumentException" (by decide)).use rfl) (fun q9 => ?_)
      refine a_astoren (pc := 12) (lv' := [(0, .ref (a0 0)), (1, .int x1), (2, .ref (a7 0))]) F [1, 2, 3] dL_weeks_12 rfl (by decide) rfl ?_
      refine a_iconst (pc := 13) (v := 1) F dL_weeks_13 (by decide) ?_
      exact hret _ _ _ _ (Nat.le_of_ble_eq_true rfl) (Nat.le_of_ble_eq_true rfl) dL_weeks_14
    replace hf := it_neg h0 hf
    cases hf

abbrev wL_best : List Cond := Cond.codeWith yL_best cL_best 4 (some .int) [(0, 9, 12, 24)] :: WALL
def m_L_best (n : Nat) (v0 : St) (v1 : St) (v2 : Nat → Int64) (x1 : Int32) : Option (Int32 × (Nat → Int64)) :=
  bd (m_X11_best n v0 v1 x1) (fun t => sm t (fun a => some (0, vp_updL v2 0 (a).toInt64)) (fun x => (if x = 2 then some (1, v2) else none)))
set_option maxHeartbeats 4000000 in
set_option maxRecDepth 100000 in
theorem c_L_best (l : Launch) (hlt : l.stackTraces = false) (D : va_G) (y : Nat → ClassId) (ek : EK) (n : Nat) (a0 : Nat → Nat) (a1 : Nat → Nat) (a2 : Nat → Nat) (z0_tape : Nat) (z0_tokens : Nat) (z0_hillReader : Nat) (z0_lawReader : Nat) (z0_rules : Nat) (z0_diary : Nat) (z0_spare : Nat) (z0_draft : Nat) (z0_spareDiary : Nat) (z0_guess : Nat) (z0_past : Nat) (z0_imageHill : Nat) (z0_imageRules : Nat) (z0_imageDiary : Nat) (v0 : St) (v1 : St) (v2 : Nat → Int64) (x1 : Int32) (res : Int32 × (Nat → Int64)) (hf : m_L_best n v0 v1 v2 x1 = some res) : CI l yL_best wL_best { frames := 8, cells := 1, slots := 6, locals := 124 } D y ek [.ref (a0 0), .int x1, .ref (a2 0)] [bX11 y a0 z0_tape z0_tokens z0_hillReader z0_lawReader (a1 0) z0_rules z0_diary z0_spare z0_draft z0_spareDiary z0_guess z0_past z0_imageHill z0_imageRules z0_imageDiary v0, bX3 y a1 v1, bAL1 y a2 v2] (res.1) [bX11 y a0 z0_tape z0_tokens z0_hillReader z0_lawReader (a1 0) z0_rules z0_diary z0_spare z0_draft z0_spareDiary z0_guess z0_past z0_imageHill z0_imageRules z0_imageDiary v0, bX3 y a1 v1, bAL1 y a2 res.2] 1 6 := by
  unfold m_L_best at hf
  refine ci_ofW (cc := cL_best) (maxL := 4) (by decide) rfl rfl (Nat.le_of_ble_eq_true rfl) ?_
  intro p e s m below meth c Q A F hxt hret
  refine a_lv (lv' := [(0, .ref (a0 0)), (1, .int x1), (2, .ref (a2 0))]) rfl ?_
  obtain ⟨t, ht, hf⟩ := bd_some hf
  refine a_aloadn (pc := 0) (j := 2) F dL_best_0 rfl rfl ?_
  refine a_iconst (pc := 1) (v := 0) F dL_best_1 (by decide) ?_
  refine a_aloadn (pc := 2) (j := 0) F dL_best_2 rfl rfl ?_
  refine a_iloadn (pc := 3) (j := 1) F dL_best_3 rfl rfl ?_
  rcases t with a | x
  · replace hf := sm_inl hf
    obtain rfl := Option.some.inj hf
    refine a_callV (pc := 4) (bs' := [bX11 y a0 z0_tape z0_tokens z0_hillReader z0_lawReader (a1 0) z0_rules z0_diary z0_spare z0_draft z0_spareDiary z0_guess z0_past z0_imageHill z0_imageRules z0_imageDiary v0, bX3 y a1 v1, bAL1 y a2 v2]) (kb := 0) (j := 0) F [0, 1] (c_X11_best l D y ek n a0 a1 z0_tape z0_tokens z0_hillReader z0_lawReader z0_rules z0_diary z0_spare z0_draft z0_spareDiary z0_guess z0_past z0_imageHill z0_imageRules z0_imageDiary _ _ _ _ ht) (cwV 1 F.1.2.2.2.2 (gV q5_70 q5_71 q5_72 q1_1 q5_73) rfl rfl rfl (by decide +kernel) ⟨Nat.le_of_ble_eq_true rfl, Nat.le_of_ble_eq_true rfl⟩) rfl rfl rfl rfl (by decide) rfl rfl rfl rfl rfl rfl (Nat.le_of_ble_eq_true rfl) ⟨Nat.le_of_ble_eq_true rfl, Nat.le_of_ble_eq_true rfl⟩ dL_best_4 ?_
    refine a_i2l (pc := 7) F dL_best_7 ?_
    refine a_lastc (pc := 8) (kb := 2) (j := 0) (k := 0) (bs' := [bX11 y a0 z0_tape z0_tokens z0_hillReader z0_lawReader (a1 0) z0_rules z0_diary z0_spare z0_draft z0_spareDiary z0_guess z0_past z0_imageHill z0_imageRules z0_imageDiary v0, bX3 y a1 v1, bAL1 y a2 (vp_updL v2 0 (a).toInt64)]) F rfl rfl (by decide) (by decide) rfl dL_best_8 ?_
    refine a_goto (pc := 9) (tgt := 15) F dL_best_9 (by decide) ?_
    refine a_iconst (pc := 15) (v := 0) F dL_best_15 (by decide) ?_
    exact hret _ _ _ _ (Nat.le_of_ble_eq_true rfl) (Nat.le_of_ble_eq_true rfl) dL_best_16
  · replace hf := sm_inr hf
    by_cases h0 : x = 2
    · replace hf := it_pos h0 hf
      obtain rfl := Option.some.inj hf
      have hM := x_X11_best l hlt D y ek n a0 a1 z0_tape z0_tokens z0_hillReader z0_lawReader z0_rules z0_diary z0_spare z0_draft z0_spareDiary z0_guess z0_past z0_imageHill z0_imageRules z0_imageDiary _ _ _ _ ht
      rw [h0] at hM
      refine a_callVc (pc := 4) (bs' := [bX11 y a0 z0_tape z0_tokens z0_hillReader z0_lawReader (a1 0) z0_rules z0_diary z0_spare z0_draft z0_spareDiary z0_guess z0_past z0_imageHill z0_imageRules z0_imageDiary v0, bX3 y a1 v1, bAL1 y a2 v2]) (kb := 0) (j := 0) F [0, 1] hM (cwV 1 F.1.2.2.2.2 (gV q5_70 q5_71 q5_72 q1_1 q5_73) rfl rfl rfl (by decide +kernel) ⟨Nat.le_of_ble_eq_true rfl, Nat.le_of_ble_eq_true rfl⟩) rfl rfl rfl rfl (by decide) rfl rfl rfl rfl rfl rfl (Nat.le_of_ble_eq_true rfl) ⟨Nat.le_of_ble_eq_true rfl, Nat.le_of_ble_eq_true rfl⟩ dL_best_4 [] ⟨0, 9, 12, 24⟩ [] (hxt.trans rfl) (fun z hz => absurd hz List.not_mem_nil) (by decide) (by decide) (nm := "java/lang/IndexOutOfBoundsException") (tl q4_147) ((F.2.2.2.2.2.2.2.2.2.2.2.2.1 "java/lang/IndexOutOfBoundsException" (by decide)).use rfl) (fun q9 => ?_)
      refine a_astoren (pc := 12) (lv' := [(0, .ref (a0 0)), (1, .int x1), (2, .ref (a2 0))]) F [1, 2, 3] dL_best_12 rfl (by decide) rfl ?_
      refine a_iconst (pc := 13) (v := 1) F dL_best_13 (by decide) ?_
      exact hret _ _ _ _ (Nat.le_of_ble_eq_true rfl) (Nat.le_of_ble_eq_true rfl) dL_best_14
    replace hf := it_neg h0 hf
    cases hf

abbrev wL_stand : List Cond := Cond.codeWith yL_stand cL_stand 5 (some .int) [(0, 10, 13, 24), (0, 10, 17, 13)] :: WALL
def m_L_stand (n : Nat) (v0 : St) (v1 : St) (v2 : Nat → Int64) (x1 : Int32) (x2 : Int32) : Option (Int32 × (Nat → Int64)) :=
  bd (m_X11_stand n v0 v1 x1 x2) (fun t => sm t (fun a => some (0, vp_updL v2 0 (a).toInt64)) (fun x => (if x = 2 then some (1, v2) else (if x = 0 then some (2, v2) else none))))
set_option maxHeartbeats 4000000 in
set_option maxRecDepth 100000 in
theorem c_L_stand (l : Launch) (hlt : l.stackTraces = false) (D : va_G) (y : Nat → ClassId) (ek : EK) (n : Nat) (a0 : Nat → Nat) (a1 : Nat → Nat) (a2 : Nat → Nat) (z0_tape : Nat) (z0_tokens : Nat) (z0_hillReader : Nat) (z0_lawReader : Nat) (z0_rules : Nat) (z0_diary : Nat) (z0_spare : Nat) (z0_draft : Nat) (z0_spareDiary : Nat) (z0_guess : Nat) (z0_past : Nat) (z0_imageHill : Nat) (z0_imageRules : Nat) (z0_imageDiary : Nat) (v0 : St) (v1 : St) (v2 : Nat → Int64) (x1 : Int32) (x2 : Int32) (res : Int32 × (Nat → Int64)) (hf : m_L_stand n v0 v1 v2 x1 x2 = some res) : CI l yL_stand wL_stand { frames := 8, cells := 1, slots := 6, locals := 126 } D y ek [.ref (a0 0), .int x1, .int x2, .ref (a2 0)] [bX11 y a0 z0_tape z0_tokens z0_hillReader z0_lawReader (a1 0) z0_rules z0_diary z0_spare z0_draft z0_spareDiary z0_guess z0_past z0_imageHill z0_imageRules z0_imageDiary v0, bX3 y a1 v1, bAL1 y a2 v2] (res.1) [bX11 y a0 z0_tape z0_tokens z0_hillReader z0_lawReader (a1 0) z0_rules z0_diary z0_spare z0_draft z0_spareDiary z0_guess z0_past z0_imageHill z0_imageRules z0_imageDiary v0, bX3 y a1 v1, bAL1 y a2 res.2] 1 6 := by
  unfold m_L_stand at hf
  refine ci_ofW (cc := cL_stand) (maxL := 5) (by decide) rfl rfl (Nat.le_of_ble_eq_true rfl) ?_
  intro p e s m below meth c Q A F hxt hret
  refine a_lv (lv' := [(0, .ref (a0 0)), (1, .int x1), (2, .int x2), (3, .ref (a2 0))]) rfl ?_
  obtain ⟨t, ht, hf⟩ := bd_some hf
  refine a_aloadn (pc := 0) (j := 3) F dL_stand_0 rfl rfl ?_
  refine a_iconst (pc := 1) (v := 0) F dL_stand_1 (by decide) ?_
  refine a_aloadn (pc := 2) (j := 0) F dL_stand_2 rfl rfl ?_
  refine a_iloadn (pc := 3) (j := 1) F dL_stand_3 rfl rfl ?_
  refine a_iloadn (pc := 4) (j := 2) F dL_stand_4 rfl rfl ?_
  rcases t with a | x
  · replace hf := sm_inl hf
    obtain rfl := Option.some.inj hf
    refine a_callV (pc := 5) (bs' := [bX11 y a0 z0_tape z0_tokens z0_hillReader z0_lawReader (a1 0) z0_rules z0_diary z0_spare z0_draft z0_spareDiary z0_guess z0_past z0_imageHill z0_imageRules z0_imageDiary v0, bX3 y a1 v1, bAL1 y a2 v2]) (kb := 0) (j := 0) F [0, 1] (c_X11_stand l D y ek n a0 a1 z0_tape z0_tokens z0_hillReader z0_lawReader z0_rules z0_diary z0_spare z0_draft z0_spareDiary z0_guess z0_past z0_imageHill z0_imageRules z0_imageDiary _ _ _ _ _ ht) (cwV 2 F.1.2.2.2.2 (gV q5_86 q5_87 q5_88 q1_1 q5_89) rfl rfl rfl (by decide +kernel) ⟨Nat.le_of_ble_eq_true rfl, Nat.le_of_ble_eq_true rfl⟩) rfl rfl rfl rfl (by decide) rfl rfl rfl rfl rfl rfl (Nat.le_of_ble_eq_true rfl) ⟨Nat.le_of_ble_eq_true rfl, Nat.le_of_ble_eq_true rfl⟩ dL_stand_5 ?_
    refine a_i2l (pc := 8) F dL_stand_8 ?_
    refine a_lastc (pc := 9) (kb := 2) (j := 0) (k := 0) (bs' := [bX11 y a0 z0_tape z0_tokens z0_hillReader z0_lawReader (a1 0) z0_rules z0_diary z0_spare z0_draft z0_spareDiary z0_guess z0_past z0_imageHill z0_imageRules z0_imageDiary v0, bX3 y a1 v1, bAL1 y a2 (vp_updL v2 0 (a).toInt64)]) F rfl rfl (by decide) (by decide) rfl dL_stand_9 ?_
    refine a_goto (pc := 10) (tgt := 21) F dL_stand_10 (by decide) ?_
    refine a_iconst (pc := 21) (v := 0) F dL_stand_21 (by decide) ?_
    exact hret _ _ _ _ (Nat.le_of_ble_eq_true rfl) (Nat.le_of_ble_eq_true rfl) dL_stand_22
  · replace hf := sm_inr hf
    by_cases h0 : x = 2
    · replace hf := it_pos h0 hf
      obtain rfl := Option.some.inj hf
      have hM := x_X11_stand l hlt D y ek n a0 a1 z0_tape z0_tokens z0_hillReader z0_lawReader z0_rules z0_diary z0_spare z0_draft z0_spareDiary z0_guess z0_past z0_imageHill z0_imageRules z0_imageDiary _ _ _ _ _ ht
      rw [h0] at hM
      refine a_callVc (pc := 5) (bs' := [bX11 y a0 z0_tape z0_tokens z0_hillReader z0_lawReader (a1 0) z0_rules z0_diary z0_spare z0_draft z0_spareDiary z0_guess z0_past z0_imageHill z0_imageRules z0_imageDiary v0, bX3 y a1 v1, bAL1 y a2 v2]) (kb := 0) (j := 0) F [0, 1] hM (cwV 2 F.1.2.2.2.2 (gV q5_86 q5_87 q5_88 q1_1 q5_89) rfl rfl rfl (by decide +kernel) ⟨Nat.le_of_ble_eq_true rfl, Nat.le_of_ble_eq_true rfl⟩) rfl rfl rfl rfl (by decide) rfl rfl rfl rfl rfl rfl (Nat.le_of_ble_eq_true rfl) ⟨Nat.le_of_ble_eq_true rfl, Nat.le_of_ble_eq_true rfl⟩ dL_stand_5 [] ⟨0, 10, 13, 24⟩ [⟨0, 10, 17, 13⟩] (hxt.trans rfl) (fun z hz => absurd hz List.not_mem_nil) (by decide) (by decide) (nm := "java/lang/IndexOutOfBoundsException") (tl q4_147) ((F.2.2.2.2.2.2.2.2.2.2.2.2.1 "java/lang/IndexOutOfBoundsException" (by decide)).use rfl) (fun q9 => ?_)
      refine a_astore (pc := 13) (lv' := [(0, .ref (a0 0)), (1, .int x1), (2, .int x2), (3, .ref (a2 0))]) F [1, 2, 3, 4] dL_stand_13 (by decide) rfl ?_
      refine a_iconst (pc := 15) (v := 1) F dL_stand_15 (by decide) ?_
      exact hret _ _ _ _ (Nat.le_of_ble_eq_true rfl) (Nat.le_of_ble_eq_true rfl) dL_stand_16
    replace hf := it_neg h0 hf
    by_cases h1 : x = 0
    · replace hf := it_pos h1 hf
      obtain rfl := Option.some.inj hf
      have hM := x_X11_stand l hlt D y ek n a0 a1 z0_tape z0_tokens z0_hillReader z0_lawReader z0_rules z0_diary z0_spare z0_draft z0_spareDiary z0_guess z0_past z0_imageHill z0_imageRules z0_imageDiary _ _ _ _ _ ht
      rw [h1] at hM
      refine a_callVc (pc := 5) (bs' := [bX11 y a0 z0_tape z0_tokens z0_hillReader z0_lawReader (a1 0) z0_rules z0_diary z0_spare z0_draft z0_spareDiary z0_guess z0_past z0_imageHill z0_imageRules z0_imageDiary v0, bX3 y a1 v1, bAL1 y a2 v2]) (kb := 0) (j := 0) F [0, 1] hM (cwV 2 F.1.2.2.2.2 (gV q5_86 q5_87 q5_88 q1_1 q5_89) rfl rfl rfl (by decide +kernel) ⟨Nat.le_of_ble_eq_true rfl, Nat.le_of_ble_eq_true rfl⟩) rfl rfl rfl rfl (by decide) rfl rfl rfl rfl rfl rfl (Nat.le_of_ble_eq_true rfl) ⟨Nat.le_of_ble_eq_true rfl, Nat.le_of_ble_eq_true rfl⟩ dL_stand_5 [⟨0, 10, 13, 24⟩] ⟨0, 10, 17, 13⟩ [] (hxt.trans rfl) (fun z hz => by rcases List.mem_singleton.mp hz with rfl; exact Or.inr ⟨by decide, "java/lang/IndexOutOfBoundsException", F.1.2.2.2.2 _ (tl q4_147), F.2.2.2.2.2.2.2.2.2.2.2.2.2.2.1 ("java/lang/IllegalArgumentException", "java/lang/IndexOutOfBoundsException") (by decide)⟩) (by decide) (by decide) (nm := "java/lang/IllegalArgumentException") (tl q3_96) ((F.2.2.2.2.2.2.2.2.2.2.2.2.1 "java/lang/IllegalArgumentException" (by decide)).use rfl) (fun q9 => ?_)
      refine a_astore (pc := 17) (lv' := [(0, .ref (a0 0)), (1, .int x1), (2, .int x2), (3, .ref (a2 0))]) F [1, 2, 3, 4] dL_stand_17 (by decide) rfl ?_
      refine a_iconst (pc := 19) (v := 2) F dL_stand_19 (by decide) ?_
      exact hret _ _ _ _ (Nat.le_of_ble_eq_true rfl) (Nat.le_of_ble_eq_true rfl) dL_stand_20
    replace hf := it_neg h1 hf
    cases hf

abbrev wL_heave : List Cond := Cond.codeWith yL_heave cL_heave 6 (some .int) [(0, 12, 15, 24), (0, 12, 19, 13)] :: WALL
def m_L_heave (n : Nat) (v0 : St) (v1 : St) (v2 : Nat → Int64) (x1 : Int32) (x2 : Int32) (x3 : Int32) : Option (Int32 × (Nat → Int64)) :=
  bd (m_X11_heave n v0 v1 x1 x2 x3) (fun t => sm t (fun a => some (0, vp_updL v2 0 (a).toInt64)) (fun x => (if x = 2 then some (1, v2) else (if x = 0 then some (2, v2) else none))))
set_option maxHeartbeats 4000000 in
set_option maxRecDepth 100000 in
theorem c_L_heave (l : Launch) (hlt : l.stackTraces = false) (D : va_G) (y : Nat → ClassId) (ek : EK) (n : Nat) (a0 : Nat → Nat) (a1 : Nat → Nat) (a2 : Nat → Nat) (z0_tape : Nat) (z0_tokens : Nat) (z0_hillReader : Nat) (z0_lawReader : Nat) (z0_rules : Nat) (z0_diary : Nat) (z0_spare : Nat) (z0_draft : Nat) (z0_spareDiary : Nat) (z0_guess : Nat) (z0_past : Nat) (z0_imageHill : Nat) (z0_imageRules : Nat) (z0_imageDiary : Nat) (v0 : St) (v1 : St) (v2 : Nat → Int64) (x1 : Int32) (x2 : Int32) (x3 : Int32) (res : Int32 × (Nat → Int64)) (hf : m_L_heave n v0 v1 v2 x1 x2 x3 = some res) : CI l yL_heave wL_heave { frames := 8, cells := 1, slots := 6, locals := 128 } D y ek [.ref (a0 0), .int x1, .int x2, .int x3, .ref (a2 0)] [bX11 y a0 z0_tape z0_tokens z0_hillReader z0_lawReader (a1 0) z0_rules z0_diary z0_spare z0_draft z0_spareDiary z0_guess z0_past z0_imageHill z0_imageRules z0_imageDiary v0, bX3 y a1 v1, bAL1 y a2 v2] (res.1) [bX11 y a0 z0_tape z0_tokens z0_hillReader z0_lawReader (a1 0) z0_rules z0_diary z0_spare z0_draft z0_spareDiary z0_guess z0_past z0_imageHill z0_imageRules z0_imageDiary v0, bX3 y a1 v1, bAL1 y a2 res.2] 1 6 := by
  unfold m_L_heave at hf
  refine ci_ofW (cc := cL_heave) (maxL := 6) (by decide) rfl rfl (Nat.le_of_ble_eq_true rfl) ?_
  intro p e s m below meth c Q A F hxt hret
  refine a_lv (lv' := [(0, .ref (a0 0)), (1, .int x1), (2, .int x2), (3, .int x3), (4, .ref (a2 0))]) rfl ?_
  obtain ⟨t, ht, hf⟩ := bd_some hf
  refine a_aload (pc := 0) (j := 4) F dL_heave_0 rfl ?_
  refine a_iconst (pc := 2) (v := 0) F dL_heave_2 (by decide) ?_
  refine a_aloadn (pc := 3) (j := 0) F dL_heave_3 rfl rfl ?_
  refine a_iloadn (pc := 4) (j := 1) F dL_heave_4 rfl rfl ?_
  refine a_iloadn (pc := 5) (j := 2) F dL_heave_5 rfl rfl ?_
  refine a_iloadn (pc := 6) (j := 3) F dL_heave_6 rfl rfl ?_
  rcases t with a | x
  · replace hf := sm_inl hf
    obtain rfl := Option.some.inj hf
    refine a_callV (pc := 7) (bs' := [bX11 y a0 z0_tape z0_tokens z0_hillReader z0_lawReader (a1 0) z0_rules z0_diary z0_spare z0_draft z0_spareDiary z0_guess z0_past z0_imageHill z0_imageRules z0_imageDiary v0, bX3 y a1 v1, bAL1 y a2 v2]) (kb := 0) (j := 0) F [0, 1] (c_X11_heave l D y ek n a0 a1 z0_tape z0_tokens z0_hillReader z0_lawReader z0_rules z0_diary z0_spare z0_draft z0_spareDiary z0_guess z0_past z0_imageHill z0_imageRules z0_imageDiary _ _ _ _ _ _ ht) (cwV 3 F.1.2.2.2.2 (gV q5_108 q5_109 q5_110 q1_1 q5_111) rfl rfl rfl (by decide +kernel) ⟨Nat.le_of_ble_eq_true rfl, Nat.le_of_ble_eq_true rfl⟩) rfl rfl rfl rfl (by decide) rfl rfl rfl rfl rfl rfl (Nat.le_of_ble_eq_true rfl) ⟨Nat.le_of_ble_eq_true rfl, Nat.le_of_ble_eq_true rfl⟩ dL_heave_7 ?_
    refine a_i2l (pc := 10) F dL_heave_10 ?_
    refine a_lastc (pc := 11) (kb := 2) (j := 0) (k := 0) (bs' := [bX11 y a0 z0_tape z0_tokens z0_hillReader z0_lawReader (a1 0) z0_rules z0_diary z0_spare z0_draft z0_spareDiary z0_guess z0_past z0_imageHill z0_imageRules z0_imageDiary v0, bX3 y a1 v1, bAL1 y a2 (vp_updL v2 0 (a).toInt64)]) F rfl rfl (by decide) (by decide) rfl dL_heave_11 ?_
    refine a_goto (pc := 12) (tgt := 23) F dL_heave_12 (by decide) ?_
    refine a_iconst (pc := 23) (v := 0) F dL_heave_23 (by decide) ?_
    exact hret _ _ _ _ (Nat.le_of_ble_eq_true rfl) (Nat.le_of_ble_eq_true rfl) dL_heave_24
  · replace hf := sm_inr hf
    by_cases h0 : x = 2
    · replace hf := it_pos h0 hf
      obtain rfl := Option.some.inj hf
      have hM := x_X11_heave l hlt D y ek n a0 a1 z0_tape z0_tokens z0_hillReader z0_lawReader z0_rules z0_diary z0_spare z0_draft z0_spareDiary z0_guess z0_past z0_imageHill z0_imageRules z0_imageDiary _ _ _ _ _ _ ht
      rw [h0] at hM
      refine a_callVc (pc := 7) (bs' := [bX11 y a0 z0_tape z0_tokens z0_hillReader z0_lawReader (a1 0) z0_rules z0_diary z0_spare z0_draft z0_spareDiary z0_guess z0_past z0_imageHill z0_imageRules z0_imageDiary v0, bX3 y a1 v1, bAL1 y a2 v2]) (kb := 0) (j := 0) F [0, 1] hM (cwV 3 F.1.2.2.2.2 (gV q5_108 q5_109 q5_110 q1_1 q5_111) rfl rfl rfl (by decide +kernel) ⟨Nat.le_of_ble_eq_true rfl, Nat.le_of_ble_eq_true rfl⟩) rfl rfl rfl rfl (by decide) rfl rfl rfl rfl rfl rfl (Nat.le_of_ble_eq_true rfl) ⟨Nat.le_of_ble_eq_true rfl, Nat.le_of_ble_eq_true rfl⟩ dL_heave_7 [] ⟨0, 12, 15, 24⟩ [⟨0, 12, 19, 13⟩] (hxt.trans rfl) (fun z hz => absurd hz List.not_mem_nil) (by decide) (by decide) (nm := "java/lang/IndexOutOfBoundsException") (tl q4_147) ((F.2.2.2.2.2.2.2.2.2.2.2.2.1 "java/lang/IndexOutOfBoundsException" (by decide)).use rfl) (fun q9 => ?_)
      refine a_astore (pc := 15) (lv' := [(0, .ref (a0 0)), (1, .int x1), (2, .int x2), (3, .int x3), (4, .ref (a2 0))]) F [1, 2, 3, 4, 5] dL_heave_15 (by decide) rfl ?_
      refine a_iconst (pc := 17) (v := 1) F dL_heave_17 (by decide) ?_
      exact hret _ _ _ _ (Nat.le_of_ble_eq_true rfl) (Nat.le_of_ble_eq_true rfl) dL_heave_18
    replace hf := it_neg h0 hf
    by_cases h1 : x = 0
    · replace hf := it_pos h1 hf
      obtain rfl := Option.some.inj hf
      have hM := x_X11_heave l hlt D y ek n a0 a1 z0_tape z0_tokens z0_hillReader z0_lawReader z0_rules z0_diary z0_spare z0_draft z0_spareDiary z0_guess z0_past z0_imageHill z0_imageRules z0_imageDiary _ _ _ _ _ _ ht
      rw [h1] at hM
      refine a_callVc (pc := 7) (bs' := [bX11 y a0 z0_tape z0_tokens z0_hillReader z0_lawReader (a1 0) z0_rules z0_diary z0_spare z0_draft z0_spareDiary z0_guess z0_past z0_imageHill z0_imageRules z0_imageDiary v0, bX3 y a1 v1, bAL1 y a2 v2]) (kb := 0) (j := 0) F [0, 1] hM (cwV 3 F.1.2.2.2.2 (gV q5_108 q5_109 q5_110 q1_1 q5_111) rfl rfl rfl (by decide +kernel) ⟨Nat.le_of_ble_eq_true rfl, Nat.le_of_ble_eq_true rfl⟩) rfl rfl rfl rfl (by decide) rfl rfl rfl rfl rfl rfl (Nat.le_of_ble_eq_true rfl) ⟨Nat.le_of_ble_eq_true rfl, Nat.le_of_ble_eq_true rfl⟩ dL_heave_7 [⟨0, 12, 15, 24⟩] ⟨0, 12, 19, 13⟩ [] (hxt.trans rfl) (fun z hz => by rcases List.mem_singleton.mp hz with rfl; exact Or.inr ⟨by decide, "java/lang/IndexOutOfBoundsException", F.1.2.2.2.2 _ (tl q4_147), F.2.2.2.2.2.2.2.2.2.2.2.2.2.2.1 ("java/lang/IllegalArgumentException", "java/lang/IndexOutOfBoundsException") (by decide)⟩) (by decide) (by decide) (nm := "java/lang/IllegalArgumentException") (tl q3_96) ((F.2.2.2.2.2.2.2.2.2.2.2.2.1 "java/lang/IllegalArgumentException" (by decide)).use rfl) (fun q9 => ?_)
      refine a_astore (pc := 19) (lv' := [(0, .ref (a0 0)), (1, .int x1), (2, .int x2), (3, .int x3), (4, .ref (a2 0))]) F [1, 2, 3, 4, 5] dL_heave_19 (by decide) rfl ?_
      refine a_iconst (pc := 21) (v := 2) F dL_heave_21 (by decide) ?_
      exact hret _ _ _ _ (Nat.le_of_ble_eq_true rfl) (Nat.le_of_ble_eq_true rfl) dL_heave_22
    replace hf := it_neg h1 hf
    cases hf

abbrev wL_breaks : List Cond := Cond.codeWith yL_breaks cL_breaks 4 (some .int) [(0, 9, 12, 24)] :: WALL
def m_L_breaks (n : Nat) (v0 : St) (v1 : St) (v2 : St) (v3 : St) (v4 : Nat → Int64) (x1 : Int32) : Option (Int32 × St × St × (Nat → Int64)) :=
  bd (m_X11_breaks n v0 v1 v2 v3 x1) (fun t => sm t (fun a => some (0, a.2.1, a.2.2, vp_updL v4 0 (a.1).toInt64)) (fun x => (if x.1 = 2 then some (1, x.2.1, x.2.2, v4) else none)))
set_option maxHeartbeats 4000000 in
set_option maxRecDepth 100000 in
theorem c_L_breaks (l : Launch) (hlt : l.stackTraces = false) (D : va_G) (y : Nat → ClassId) (ek : EK) (n : Nat) (a0 : Nat → Nat) (a1 : Nat → Nat) (a2 : Nat → Nat) (a3 : Nat → Nat) (a4 : Nat → Nat) (z0_tape : Nat) (z0_tokens : Nat) (z0_hillReader : Nat) (z0_lawReader : Nat) (z0_diary : Nat) (z0_draft : Nat) (z0_spareDiary : Nat) (z0_guess : Nat) (z0_past : Nat) (z0_imageHill : Nat) (z0_imageRules : Nat) (z0_imageDiary : Nat) (v0 : St) (v1 : St) (v2 : St) (v3 : St) (v4 : Nat → Int64) (x1 : Int32) (res : Int32 × St × St × (Nat → Int64)) (hf : m_L_breaks n v0 v1 v2 v3 v4 x1 = some res) : CI l yL_breaks wL_breaks { frames := 8, cells := 1, slots := 6, locals := 163 } D y ek [.ref (a0 0), .int x1, .ref (a4 0)] [bX11 y a0 z0_tape z0_tokens z0_hillReader z0_lawReader (a1 0) (a2 0) z0_diary (a3 0) z0_draft z0_spareDiary z0_guess z0_past z0_imageHill z0_imageRules z0_imageDiary v0, bX3 y a1 v1, bX5 y a2 v2, bX3 y a3 v3, bAL1 y a4 v4] (res.1) [bX11 y a0 z0_tape z0_tokens z0_hillReader z0_lawReader (a1 0) (a2 0) z0_diary (a3 0) z0_draft z0_spareDiary z0_guess z0_past z0_imageHill z0_imageRules z0_imageDiary v0, bX3 y a1 v1, bX5 y a2 res.2.1, bX3 y a3 res.2.2.1, bAL1 y a4 res.2.2.2] 1 6 := by
  unfold m_L_breaks at hf
  refine ci_ofW (cc := cL_breaks) (maxL := 4) (by decide) rfl rfl (Nat.le_of_ble_eq_true rfl) ?_
  intro p e s m below meth c Q A F hxt hret
  refine a_lv (lv' := [(0, .ref (a0 0)), (1, .int x1), (2, .ref (a4 0))]) rfl ?_
  obtain ⟨t, ht, hf⟩ := bd_some hf
  refine a_aloadn (pc := 0) (j := 2) F dL_breaks_0 rfl rfl ?_
  refine a_iconst (pc := 1) (v := 0) F dL_breaks_1 (by decide) ?_
  refine a_aloadn (pc := 2) (j := 0) F dL_breaks_2 rfl rfl ?_
  refine a_iloadn (pc := 3) (j := 1) F dL_breaks_3 rfl rfl ?_
  rcases t with a | x
  · replace hf := sm_inl hf
    obtain rfl := Option.some.inj hf
    refine a_callV (pc := 4) (bs' := [bX11 y a0 z0_tape z0_tokens z0_hillReader z0_lawReader (a1 0) (a2 0) z0_diary (a3 0) z0_draft z0_spareDiary z0_guess z0_past z0_imageHill z0_imageRules z0_imageDiary v0, bX3 y a1 v1, bX5 y a2 a.2.1, bX3 y a3 a.2.2, bAL1 y a4 v4]) (kb := 0) (j := 0) F [0, 1, 2, 3] (c_X11_breaks l D y ek n a0 a1 a2 a3 z0_tape z0_tokens z0_hillReader z0_lawReader z0_diary z0_draft z0_spareDiary z0_guess z0_past z0_imageHill z0_imageRules z0_imageDiary _ _ _ _ _ _ ht) (cwV 1 F.1.2.2.2.2 (gV q5_116 q5_117 q5_118 q1_1 q5_119) rfl rfl rfl (by decide +kernel) ⟨Nat.le_of_ble_eq_true rfl, Nat.le_of_ble_eq_true rfl⟩) rfl rfl rfl rfl (by decide) rfl rfl rfl rfl rfl rfl (Nat.le_of_ble_eq_true rfl) ⟨Nat.le_of_ble_eq_true rfl, Nat.le_of_ble_eq_true rfl⟩ dL_breaks_4 ?_
    refine a_i2l (pc := 7) F dL_breaks_7 ?_
    refine a_lastc (pc := 8) (kb := 4) (j := 0) (k := 0) (bs' := [bX11 y a0 z0_tape z0_tokens z0_hillReader z0_lawReader (a1 0) (a2 0) z0_diary (a3 0) z0_draft z0_spareDiary z0_guess z0_past z0_imageHill z0_imageRules z0_imageDiary v0, bX3 y a1 v1, bX5 y a2 a.2.1, bX3 y a3 a.2.2, bAL1 y a4 (vp_updL v4 0 (a.1).toInt64)]) F rfl rfl (by decide) (by decide) rfl dL_breaks_8 ?_
    refine a_goto (pc := 9) (tgt := 15) F dL_breaks_9 (by decide) ?_
    refine a_iconst (pc := 15) (v := 0) F dL_breaks_15 (by decide) ?_
    exact hret _ _ _ _ (Nat.le_of_ble_eq_true rfl) (Nat.le_of_ble_eq_true rfl) dL_breaks_16
  · replace hf := sm_inr hf
    by_cases h0 : x.1 = 2
    · replace hf := it_pos h0 hf
      obtain rfl := Option.some.inj hf
      have hM := x_X11_breaks l hlt D y ek n a0 a1 a2 a3 z0_tape z0_tokens z0_hillReader z0_lawReader z0_diary z0_draft z0_spareDiary z0_guess z0_past z0_imageHill z0_imageRules z0_imageDiary _ _ _ _ _ _ ht
      rw [h0] at hM
      refine a_callVc (pc := 4) (bs' := [bX11 y a0 z0_tape z0_tokens z0_hillReader z0_lawReader (a1 0) (a2 0) z0_diary (a3 0) z0_draft z0_spareDiary z0_guess z0_past z0_imageHill z0_imageRules z0_imageDiary v0, bX3 y a1 v1, bX5 y a2 x.2.1, bX3 y a3 x.2.2, bAL1 y a4 v4]) (kb := 0) (j := 0) F [0, 1, 2, 3] hM (cwV 1 F.1.2.2.2.2 (gV q5_116 q5_117 q5_118 q1_1 q5_119) rfl rfl rfl (by decide +kernel) ⟨Nat.le_of_ble_eq_true rfl, Nat.le_of_ble_eq_true rfl⟩) rfl rfl rfl rfl (by decide) rfl rfl rfl rfl rfl rfl (Nat.le_of_ble_eq_true rfl) ⟨Nat.le_of_ble_eq_true rfl, Nat.le_of_ble_eq_true rfl⟩ dL_breaks_4 [] ⟨0, 9, 12, 24⟩ [] (hxt.trans rfl) (fun z hz => absurd hz List.not_mem_nil) (by decide) (by decide) (nm := "java/lang/IndexOutOfBoundsException") (tl q4_147) ((F.2.2.2.2.2.2.2.2.2.2.2.2.1 "java/lang/IndexOutOfBoundsException" (by decide)).use rfl) (fun q9 => ?_)
      refine a_astoren (pc := 12) (lv' := [(0, .ref (a0 0)), (1, .int x1), (2, .ref (a4 0))]) F [1, 2, 3] dL_breaks_12 rfl (by decide) rfl ?_
      refine a_iconst (pc := 13) (v := 1) F dL_breaks_13 (by decide) ?_
      exact hret _ _ _ _ (Nat.le_of_ble_eq_true rfl) (Nat.le_of_ble_eq_true rfl) dL_breaks_14
    replace hf := it_neg h0 hf
    cases hf

abbrev wL_more : List Cond := Cond.codeWith yL_more cL_more 4 (some .int) [(0, 9, 12, 24)] :: WALL
def m_L_more (n : Nat) (v0 : St) (v1 : St) (v2 : Nat → Int64) (x1 : Int32) : Option (Int32 × (Nat → Int64)) :=
  bd (m_X11_more n v0 v1 x1) (fun t => sm t (fun a => some (0, vp_updL v2 0 (a).toInt64)) (fun x => (if x = 2 then some (1, v2) else none)))
set_option maxHeartbeats 4000000 in
set_option maxRecDepth 100000 in
theorem c_L_more (l : Launch) (hlt : l.stackTraces = false) (D : va_G) (y : Nat → ClassId) (ek : EK) (n : Nat) (a0 : Nat → Nat) (a1 : Nat → Nat) (a2 : Nat → Nat) (z0_tape : Nat) (z0_tokens : Nat) (z0_hillReader : Nat) (z0_lawReader : Nat) (z0_rules : Nat) (z0_diary : Nat) (z0_spare : Nat) (z0_draft : Nat) (z0_spareDiary : Nat) (z0_guess : Nat) (z0_past : Nat) (z0_imageHill : Nat) (z0_imageRules : Nat) (z0_imageDiary : Nat) (v0 : St) (v1 : St) (v2 : Nat → Int64) (x1 : Int32) (res : Int32 × (Nat → Int64)) (hf : m_L_more n v0 v1 v2 x1 = some res) : CI l yL_more wL_more { frames := 8, cells := 1, slots := 6, locals := 124 } D y ek [.ref (a0 0), .int x1, .ref (a2 0)] [bX11 y a0 z0_tape z0_tokens z0_hillReader z0_lawReader (a1 0) z0_rules z0_diary z0_spare z0_draft z0_spareDiary z0_guess z0_past z0_imageHill z0_imageRules z0_imageDiary v0, bX3 y a1 v1, bAL1 y a2 v2] (res.1) [bX11 y a0 z0_tape z0_tokens z0_hillReader z0_lawReader (a1 0) z0_rules z0_diary z0_spare z0_draft z0_spareDiary z0_guess z0_past z0_imageHill z0_imageRules z0_imageDiary v0, bX3 y a1 v1, bAL1 y a2 res.2] 1 6 := by
  unfold m_L_more at hf
  refine ci_ofW (cc := cL_more) (maxL := 4) (by decide) rfl rfl (Nat.le_of_ble_eq_true rfl) ?_
  intro p e s m below meth c Q A F hxt hret
  refine a_lv (lv' := [(0, .ref (a0 0)), (1, .int x1), (2, .ref (a2 0))]) rfl ?_
  obtain ⟨t, ht, hf⟩ := bd_some hf
  refine a_aloadn (pc := 0) (j := 2) F dL_more_0 rfl rfl ?_
  refine a_iconst (pc := 1) (v := 0) F dL_more_1 (by decide) ?_
  refine a_aloadn (pc := 2) (j := 0) F dL_more_2 rfl rfl ?_
  refine a_iloadn (pc := 3) (j := 1) F dL_more_3 rfl rfl ?_
  rcases t with a | x
  · replace hf := sm_inl hf
    obtain rfl := Option.some.inj hf
    refine a_callV (pc := 4) (bs' := [bX11 y a0 z0_tape z0_tokens z0_hillReader z0_lawReader (a1 0) z0_rules z0_diary z0_spare z0_draft z0_spareDiary z0_guess z0_past z0_imageHill z0_imageRules z0_imageDiary v0, bX3 y a1 v1, bAL1 y a2 v2]) (kb := 0) (j := 0) F [0, 1] (c_X11_more l D y ek n a0 a1 z0_tape z0_tokens z0_hillReader z0_lawReader z0_rules z0_diary z0_spare z0_draft z0_spareDiary z0_guess z0_past z0_imageHill z0_imageRules z0_imageDiary _ _ _ _ ht) (cwV 1 F.1.2.2.2.2 (gV q5_123 q5_124 q5_125 q1_1 q5_126) rfl rfl rfl (by decide +kernel) ⟨Nat.le_of_ble_eq_true rfl, Nat.le_of_ble_eq_true rfl⟩) rfl rfl rfl rfl (by decide) rfl rfl rfl rfl rfl rfl (Nat.le_of_ble_eq_true rfl) ⟨Nat.le_of_ble_eq_true rfl, Nat.le_of_ble_eq_true rfl⟩ dL_more_4 ?_
    refine a_i2l (pc := 7) F dL_more_7 ?_
    refine a_lastc (pc := 8) (kb := 2) (j := 0) (k := 0) (bs' := [bX11 y a0 z0_tape z0_tokens z0_hillReader z0_lawReader (a1 0) z0_rules z0_diary z0_spare z0_draft z0_spareDiary z0_guess z0_past z0_imageHill z0_imageRules z0_imageDiary v0, bX3 y a1 v1, bAL1 y a2 (vp_updL v2 0 (a).toInt64)]) F rfl rfl (by decide) (by decide) rfl dL_more_8 ?_
    refine a_goto (pc := 9) (tgt := 15) F dL_more_9 (by decide) ?_
    refine a_iconst (pc := 15) (v := 0) F dL_more_15 (by decide) ?_
    exact hret _ _ _ _ (Nat.le_of_ble_eq_true rfl) (Nat.le_of_ble_eq_true rfl) dL_more_16
  · replace hf := sm_inr hf
    by_cases h0 : x = 2
    · replace hf := it_pos h0 hf
      obtain rfl := Option.some.inj hf
      have hM := x_X11_more l hlt D y ek n a0 a1 z0_tape z0_tokens z0_hillReader z0_lawReader z0_rules z0_diary z0_spare z0_draft z0_spareDiary z0_guess z0_past z0_imageHill z0_imageRules z0_imageDiary _ _ _ _ ht
      rw [h0] at hM
      refine a_callVc (pc := 4) (bs' := [bX11 y a0 z0_tape z0_tokens z0_hillReader z0_lawReader (a1 0) z0_rules z0_diary z0_spare z0_draft z0_spareDiary z0_guess z0_past z0_imageHill z0_imageRules z0_imageDiary v0, bX3 y a1 v1, bAL1 y a2 v2]) (kb := 0) (j := 0) F [0, 1] hM (cwV 1 F.1.2.2.2.2 (gV q5_123 q5_124 q5_125 q1_1 q5_126) rfl rfl rfl (by decide +kernel) ⟨Nat.le_of_ble_eq_true rfl, Nat.le_of_ble_eq_true rfl⟩) rfl rfl rfl rfl (by decide) rfl rfl rfl rfl rfl rfl (Nat.le_of_ble_eq_true rfl) ⟨Nat.le_of_ble_eq_true rfl, Nat.le_of_ble_eq_true rfl⟩ dL_more_4 [] ⟨0, 9, 12, 24⟩ [] (hxt.trans rfl) (fun z hz => absurd hz List.not_mem_nil) (by decide) (by decide) (nm := "java/lang/IndexOutOfBoundsException") (tl q4_147) ((F.2.2.2.2.2.2.2.2.2.2.2.2.1 "java/lang/IndexOutOfBoundsException" (by decide)).use rfl) (fun q9 => ?_)
      refine a_astoren (pc := 12) (lv' := [(0, .ref (a0 0)), (1, .int x1), (2, .ref (a2 0))]) F [1, 2, 3] dL_more_12 rfl (by decide) rfl ?_
      refine a_iconst (pc := 13) (v := 1) F dL_more_13 (by decide) ?_
      exact hret _ _ _ _ (Nat.le_of_ble_eq_true rfl) (Nat.le_of_ble_eq_true rfl) dL_more_14
    replace hf := it_neg h0 hf
    cases hf

abbrev wL_match : List Cond := Cond.codeWith yL_match cL_match 5 (some .int) [(0, 10, 13, 24)] :: WALL
def m_L_match (n : Nat) (v0 : St) (v1 : St) (v2 : Nat → Int64) (x1 : Int32) (x2 : Int32) : Option (Int32 × (Nat → Int64)) :=
  bd (m_X11_match n v0 v1 x1 x2) (fun t => sm t (fun a => some (0, vp_updL v2 0 (a).toInt64)) (fun x => (if x = 2 then some (1, v2) else none)))
set_option maxHeartbeats 4000000 in
set_option maxRecDepth 100000 in
theorem c_L_match (l : Launch) (hlt : l.stackTraces = false) (D : va_G) (y : Nat → ClassId) (ek : EK) (n : Nat) (a0 : Nat → Nat) (a1 : Nat → Nat) (a2 : Nat → Nat) (z0_tape : Nat) (z0_tokens : Nat) (z0_hillReader : Nat) (z0_lawReader : Nat) (z0_rules : Nat) (z0_diary : Nat) (z0_spare : Nat) (z0_draft : Nat) (z0_spareDiary : Nat) (z0_guess : Nat) (z0_past : Nat) (z0_imageHill : Nat) (z0_imageRules : Nat) (z0_imageDiary : Nat) (v0 : St) (v1 : St) (v2 : Nat → Int64) (x1 : Int32) (x2 : Int32) (res : Int32 × (Nat → Int64)) (hf : m_L_match n v0 v1 v2 x1 x2 = some res) : CI l yL_match wL_match { frames := 69, cells := 1, slots := 6, locals := 1916 } D y ek [.ref (a0 0), .int x1, .int x2, .ref (a2 0)] [bX11 y a0 z0_tape z0_tokens z0_hillReader z0_lawReader (a1 0) z0_rules z0_diary z0_spare z0_draft z0_spareDiary z0_guess z0_past z0_imageHill z0_imageRules z0_imageDiary v0, bX3 y a1 v1, bAL1 y a2 v2] (res.1) [bX11 y a0 z0_tape z0_tokens z0_hillReader z0_lawReader (a1 0) z0_rules z0_diary z0_spare z0_draft z0_spareDiary z0_guess z0_past z0_imageHill z0_imageRules z0_imageDiary v0, bX3 y a1 v1, bAL1 y a2 res.2] 1 6 := by
  unfold m_L_match at hf
  refine ci_ofW (cc := cL_match) (maxL := 5) (by decide) rfl rfl (Nat.le_of_ble_eq_true rfl) ?_
  intro p e s m below meth c Q A F hxt hret
  refine a_lv (lv' := [(0, .ref (a0 0)), (1, .int x1), (2, .int x2), (3, .ref (a2 0))]) rfl ?_
  obtain ⟨t, ht, hf⟩ := bd_some hf
  refine a_aloadn (pc := 0) (j := 3) F dL_match_0 rfl rfl ?_
  refine a_iconst (pc := 1) (v := 0) F dL_match_1 (by decide) ?_
  refine a_aloadn (pc := 2) (j := 0) F dL_match_2 rfl rfl ?_
  refine a_iloadn (pc := 3) (j := 1) F dL_match_3 rfl rfl ?_
  refine a_iloadn (pc := 4) (j := 2) F dL_match_4 rfl rfl ?_
  rcases t with a | x
  · replace hf := sm_inl hf
    obtain rfl := Option.some.inj hf
    refine a_callV (pc := 5) (bs' := [bX11 y a0 z0_tape z0_tokens z0_hillReader z0_lawReader (a1 0) z0_rules z0_diary z0_spare z0_draft z0_spareDiary z0_guess z0_past z0_imageHill z0_imageRules z0_imageDiary v0, bX3 y a1 v1, bAL1 y a2 v2]) (kb := 0) (j := 0) F [0, 1] (c_X11_match l D y ek n a0 a1 z0_tape z0_tokens z0_hillReader z0_lawReader z0_rules z0_diary z0_spare z0_draft z0_spareDiary z0_guess z0_past z0_imageHill z0_imageRules z0_imageDiary _ _ _ _ _ ht) (cwV 2 F.1.2.2.2.2 (gV q5_131 q5_132 q5_133 q1_1 q5_134) rfl rfl rfl (by decide +kernel) ⟨Nat.le_of_ble_eq_true rfl, Nat.le_of_ble_eq_true rfl⟩) rfl rfl rfl rfl (by decide) rfl rfl rfl rfl rfl rfl (Nat.le_of_ble_eq_true rfl) ⟨Nat.le_of_ble_eq_true rfl, Nat.le_of_ble_eq_true rfl⟩ dL_match_5 ?_
    refine a_i2l (pc := 8) F dL_match_8 ?_
    refine a_lastc (pc := 9) (kb := 2) (j := 0) (k := 0) (bs' := [bX11 y a0 z0_tape z0_tokens z0_hillReader z0_lawReader (a1 0) z0_rules z0_diary z0_spare z0_draft z0_spareDiary z0_guess z0_past z0_imageHill z0_imageRules z0_imageDiary v0, bX3 y a1 v1, bAL1 y a2 (vp_updL v2 0 (a).toInt64)]) F rfl rfl (by decide) (by decide) rfl dL_match_9 ?_
    refine a_goto (pc := 10) (tgt := 17) F dL_match_10 (by decide) ?_
    refine a_iconst (pc := 17) (v := 0) F dL_match_17 (by decide) ?_
    exact hret _ _ _ _ (Nat.le_of_ble_eq_true rfl) (Nat.le_of_ble_eq_true rfl) dL_match_18
  · replace hf := sm_inr hf
    by_cases h0 : x = 2
    · replace hf := it_pos h0 hf
      obtain rfl := Option.some.inj hf
      have hM := x_X11_match l hlt D y ek n a0 a1 z0_tape z0_tokens z0_hillReader z0_lawReader z0_rules z0_diary z0_spare z0_draft z0_spareDiary z0_guess z0_past z0_imageHill z0_imageRules z0_imageDiary _ _ _ _ _ ht
      rw [h0] at hM
      refine a_callVc (pc := 5) (bs' := [bX11 y a0 z0_tape z0_tokens z0_hillReader z0_lawReader (a1 0) z0_rules z0_diary z0_spare z0_draft z0_spareDiary z0_guess z0_past z0_imageHill z0_imageRules z0_imageDiary v0, bX3 y a1 v1, bAL1 y a2 v2]) (kb := 0) (j := 0) F [0, 1] hM (cwV 2 F.1.2.2.2.2 (gV q5_131 q5_132 q5_133 q1_1 q5_134) rfl rfl rfl (by decide +kernel) ⟨Nat.le_of_ble_eq_true rfl, Nat.le_of_ble_eq_true rfl⟩) rfl rfl rfl rfl (by decide) rfl rfl rfl rfl rfl rfl (Nat.le_of_ble_eq_true rfl) ⟨Nat.le_of_ble_eq_true rfl, Nat.le_of_ble_eq_true rfl⟩ dL_match_5 [] ⟨0, 10, 13, 24⟩ [] (hxt.trans rfl) (fun z hz => absurd hz List.not_mem_nil) (by decide) (by decide) (nm := "java/lang/IndexOutOfBoundsException") (tl q4_147) ((F.2.2.2.2.2.2.2.2.2.2.2.2.1 "java/lang/IndexOutOfBoundsException" (by decide)).use rfl) (fun q9 => ?_)
      refine a_astore (pc := 13) (lv' := [(0, .ref (a0 0)), (1, .int x1), (2, .int x2), (3, .ref (a2 0))]) F [1, 2, 3, 4] dL_match_13 (by decide) rfl ?_
      refine a_iconst (pc := 15) (v := 1) F dL_match_15 (by decide) ?_
      exact hret _ _ _ _ (Nat.le_of_ble_eq_true rfl) (Nat.le_of_ble_eq_true rfl) dL_match_16
    replace hf := it_neg h0 hf
    cases hf

abbrev wL_has : List Cond := Cond.codeWith yL_has cL_has 5 (some .int) [(0, 10, 13, 24), (0, 10, 17, 13)] :: WALL
def m_L_has (n : Nat) (v0 : St) (v1 : St) (v2 : St) (v3 : St) (v4 : Nat → Int64) (x1 : Int32) (x2 : Int32) : Option (Int32 × St × St × (Nat → Int64)) :=
  bd (m_X11_has n v0 v1 v2 v3 x1 x2) (fun t => sm t (fun a => some (0, a.2.1, a.2.2, vp_updL v4 0 (a.1).toInt64)) (fun x => (if x.1 = 2 then some (1, x.2.1, x.2.2, v4) else (if x.1 = 0 then some (2, x.2.1, x.2.2, v4) else none))))
set_option maxHeartbeats 4000000 in
set_option maxRecDepth 100000 in
theorem c_L_has (l : Launch) (hlt : l.stackTraces = false) (D : va_G) (y : Nat → ClassId) (ek : EK) (n : Nat) (a0 : Nat → Nat) (a1 : Nat → Nat) (a2 : Nat → Nat) (a3 : Nat → Nat) (a4 : Nat → Nat) (z0_tokens : Nat) (z0_hillReader : Nat) (z0_lawReader : Nat) (z0_rules : Nat) (z0_diary : Nat) (z0_spare : Nat) (z0_draft : Nat) (z0_spareDiary : Nat) (z0_past : Nat) (z0_imageHill : Nat) (z0_imageRules : Nat) (z0_imageDiary : Nat) (v0 : St) (v1 : St) (v2 : St) (v3 : St) (v4 : Nat → Int64) (x1 : Int32) (x2 : Int32) (res : Int32 × St × St × (Nat → Int64)) (hf : m_L_has n v0 v1 v2 v3 v4 x1 x2 = some res) : CI l yL_has wL_has { frames := 9, cells := 1, slots := 6, locals := 159 } D y ek [.ref (a0 0), .int x1, .int x2, .ref (a4 0)] [bX11 y a0 (a1 0) z0_tokens z0_hillReader z0_lawReader (a2 0) z0_rules z0_diary z0_spare z0_draft z0_spareDiary (a3 0) z0_past z0_imageHill z0_imageRules z0_imageDiary v0, bAB400 y a1 v1, bX3 y a2 v2, bX2 y a3 v3, bAL1 y a4 v4] (res.1) [bX11 y a0 (a1 0) z0_tokens z0_hillReader z0_lawReader (a2 0) z0_rules z0_diary z0_spare z0_draft z0_spareDiary (a3 0) z0_past z0_imageHill z0_imageRules z0_imageDiary res.2.1, bAB400 y a1 v1, bX3 y a2 v2, bX2 y a3 res.2.2.1, bAL1 y a4 res.2.2.2] 1 6 := by
  unfold m_L_has at hf
  refine ci_ofW (cc := cL_has) (maxL := 5) (by decide) rfl rfl (Nat.le_of_ble_eq_true rfl) ?_
  intro p e s m below meth c Q A F hxt hret
  refine a_lv (lv' := [(0, .ref (a0 0)), (1, .int x1), (2, .int x2), (3, .ref (a4 0))]) rfl ?_
  obtain ⟨t, ht, hf⟩ := bd_some hf
  refine a_aloadn (pc := 0) (j := 3) F dL_has_0 rfl rfl ?_
  refine a_iconst (pc := 1) (v := 0) F dL_has_1 (by decide) ?_
  refine a_aloadn (pc := 2) (j := 0) F dL_has_2 rfl rfl ?_
  refine a_iloadn (pc := 3) (j := 1) F dL_has_3 rfl rfl ?_
  refine a_iloadn (pc := 4) (j := 2) F dL_has_4 rfl rfl ?_
  rcases t with a | x
  · replace hf := sm_inl hf
    obtain rfl := Option.some.inj hf
    refine a_callV (pc := 5) (bs' := [bX11 y a0 (a1 0) z0_tokens z0_hillReader z0_lawReader (a2 0) z0_rules z0_diary z0_spare z0_draft z0_spareDiary (a3 0) z0_past z0_imageHill z0_imageRules z0_imageDiary a.2.1, bAB400 y a1 v1, bX3 y a2 v2, bX2 y a3 a.2.2, bAL1 y a4 v4]) (kb := 0) (j := 0) F [0, 1, 2, 3] (c_X11_has l D y ek n a0 a1 a2 a3 z0_tokens z0_hillReader z0_lawReader z0_rules z0_diary z0_spare z0_draft z0_spareDiary z0_past z0_imageHill z0_imageRules z0_imageDiary _ _ _ _ _ _ _ ht) (cwV 2 F.1.2.2.2.2 (gV q5_156 q5_157 q5_158 q1_1 q5_159) rfl rfl rfl (by decide +kernel) ⟨Nat.le_of_ble_eq_true rfl, Nat.le_of_ble_eq_true rfl⟩) rfl rfl rfl rfl (by decide) rfl rfl rfl rfl rfl rfl (Nat.le_of_ble_eq_true rfl) ⟨Nat.le_of_ble_eq_true rfl, Nat.le_of_ble_eq_true rfl⟩ dL_has_5 ?_
    refine a_i2l (pc := 8) F dL_has_8 ?_
    refine a_lastc (pc := 9) (kb := 4) (j := 0) (k := 0) (bs' := [bX11 y a0 (a1 0) z0_tokens z0_hillReader z0_lawReader (a2 0) z0_rules z0_diary z0_spare z0_draft z0_spareDiary (a3 0) z0_past z0_imageHill z0_imageRules z0_imageDiary a.2.1, bAB400 y a1 v1, bX3 y a2 v2, bX2 y a3 a.2.2, bAL1 y a4 (vp_updL v4 0 (a.1).toInt64)]) F rfl rfl (by decide) (by decide) rfl dL_has_9 ?_
    refine a_goto (pc := 10) (tgt := 21) F dL_has_10 (by decide) ?_
    refine a_iconst (pc := 21) (v := 0) F dL_has_21 (by decide) ?_
    exact hret _ _ _ _ (Nat.le_of_ble_eq_true rfl) (Nat.le_of_ble_eq_true rfl) dL_has_22
  · replace hf := sm_inr hf
    by_cases h0 : x.1 = 2
    · replace hf := it_pos h0 hf
      obtain rfl := Option.some.inj hf
      have hM := x_X11_has l hlt D y ek n a0 a1 a2 a3 z0_tokens z0_hillReader z0_lawReader z0_rules z0_diary z0_spare z0_draft z0_spareDiary z0_past z0_imageHill z0_imageRules z0_imageDiary _ _ _ _ _ _ _ ht
      rw [h0] at hM
      refine a_callVc (pc := 5) (bs' := [bX11 y a0 (a1 0) z0_tokens z0_hillReader z0_lawReader (a2 0) z0_rules z0_diary z0_spare z0_draft z0_spareDiary (a3 0) z0_past z0_imageHill z0_imageRules z0_imageDiary x.2.1, bAB400 y a1 v1, bX3 y a2 v2, bX2 y a3 x.2.2, bAL1 y a4 v4]) (kb := 0) (j := 0) F [0, 1, 2, 3] hM (cwV 2 F.1.2.2.2.2 (gV q5_156 q5_157 q5_158 q1_1 q5_159) rfl rfl rfl (by decide +kernel) ⟨Nat.le_of_ble_eq_true rfl, Nat.le_of_ble_eq_true rfl⟩) rfl rfl rfl rfl (by decide) rfl rfl rfl rfl rfl rfl (Nat.le_of_ble_eq_true rfl) ⟨Nat.le_of_ble_eq_true rfl, Nat.le_of_ble_eq_true rfl⟩ dL_has_5 [] ⟨0, 10, 13, 24⟩ [⟨0, 10, 17, 13⟩] (hxt.trans rfl) (fun z hz => absurd hz List.not_mem_nil) (by decide) (by decide) (nm := "java/lang/IndexOutOfBoundsException") (tl q4_147) ((F.2.2.2.2.2.2.2.2.2.2.2.2.1 "java/lang/IndexOutOfBoundsException" (by decide)).use rfl) (fun q9 => ?_)
      refine a_astore (pc := 13) (lv' := [(0, .ref (a0 0)), (1, .int x1), (2, .int x2), (3, .ref (a4 0))]) F [1, 2, 3, 4] dL_has_13 (by decide) rfl ?_
      refine a_iconst (pc := 15) (v := 1) F dL_has_15 (by decide) ?_
      exact hret _ _ _ _ (Nat.le_of_ble_eq_true rfl) (Nat.le_of_ble_eq_true rfl) dL_has_16
    replace hf := it_neg h0 hf
    by_cases h1 : x.1 = 0
    · replace hf := it_pos h1 hf
      obtain rfl := Option.some.inj hf
      have hM := x_X11_has l hlt D y ek n a0 a1 a2 a3 z0_tokens z0_hillReader z0_lawReader z0_rules z0_diary z0_spare z0_draft z0_spareDiary z0_past z0_imageHill z0_imageRules z0_imageDiary _ _ _ _ _ _ _ ht
      rw [h1] at hM
      refine a_callVc (pc := 5) (bs' := [bX11 y a0 (a1 0) z0_tokens z0_hillReader z0_lawReader (a2 0) z0_rules z0_diary z0_spare z0_draft z0_spareDiary (a3 0) z0_past z0_imageHill z0_imageRules z0_imageDiary x.2.1, bAB400 y a1 v1, bX3 y a2 v2, bX2 y a3 x.2.2, bAL1 y a4 v4]) (kb := 0) (j := 0) F [0, 1, 2, 3] hM (cwV 2 F.1.2.2.2.2 (gV q5_156 q5_157 q5_158 q1_1 q5_159) rfl rfl rfl (by decide +kernel) ⟨Nat.le_of_ble_eq_true rfl, Nat.le_of_ble_eq_true rfl⟩) rfl rfl rfl rfl (by decide) rfl rfl rfl rfl rfl rfl (Nat.le_of_ble_eq_true rfl) ⟨Nat.le_of_ble_eq_true rfl, Nat.le_of_ble_eq_true rfl⟩ dL_has_5 [⟨0, 10, 13, 24⟩] ⟨0, 10, 17, 13⟩ [] (hxt.trans rfl) (fun z hz => by rcases List.mem_singleton.mp hz with rfl; exact Or.inr ⟨by decide, "java/lang/IndexOutOfBoundsException", F.1.2.2.2.2 _ (tl q4_147), F.2.2.2.2.2.2.2.2.2.2.2.2.2.2.1 ("java/lang/IllegalArgumentException", "java/lang/IndexOutOfBoundsException") (by decide)⟩) (by decide) (by decide) (nm := "java/lang/IllegalArgumentException") (tl q3_96) ((F.2.2.2.2.2.2.2.2.2.2.2.2.1 "java/lang/IllegalArgumentException" (by decide)).use rfl) (fun q9 => ?_)
      refine a_astore (pc := 17) (lv' := [(0, .ref (a0 0)), (1, .int x1), (2, .int x2), (3, .ref (a4 0))]) F [1, 2, 3, 4] dL_has_17 (by decide) rfl ?_
      refine a_iconst (pc := 19) (v := 2) F dL_has_19 (by decide) ?_
      exact hret _ _ _ _ (Nat.le_of_ble_eq_true rfl) (Nat.le_of_ble_eq_true rfl) dL_has_20
    replace hf := it_neg h1 hf
    cases hf

abbrev wL_ask : List Cond := Cond.codeWith yL_ask cL_ask 4 (some .int) [(0, 9, 12, 24), (0, 9, 15, 13)] :: WALL
def m_L_ask (n : Nat) (v0 : St) (v1 : St) (v2 : St) (v3 : St) (v4 : Nat → Int64) (x1 : Int32) : Option (Int32 × St × St × (Nat → Int64)) :=
  bd (m_X11_ask n v0 v1 v2 v3 x1) (fun t => sm t (fun a => some (0, a.2.1, a.2.2, vp_updL v4 0 (a.1).toInt64)) (fun x => (if x.1 = 2 then some (1, x.2.1, x.2.2, v4) else (if x.1 = 0 then some (2, x.2.1, x.2.2, v4) else none))))
set_option maxHeartbeats 4000000 in
set_option maxRecDepth 100000 in
theorem c_L_ask (l : Launch) (hlt : l.stackTraces = false) (D : va_G) (y : Nat → ClassId) (ek : EK) (n : Nat) (a0 : Nat → Nat) (a1 : Nat → Nat) (a2 : Nat → Nat) (a3 : Nat → Nat) (a4 : Nat → Nat) (z0_tokens : Nat) (z0_hillReader : Nat) (z0_lawReader : Nat) (z0_rules : Nat) (z0_diary : Nat) (z0_spare : Nat) (z0_draft : Nat) (z0_spareDiary : Nat) (z0_past : Nat) (z0_imageHill : Nat) (z0_imageRules : Nat) (z0_imageDiary : Nat) (v0 : St) (v1 : St) (v2 : St) (v3 : St) (v4 : Nat → Int64) (x1 : Int32) (res : Int32 × St × St × (Nat → Int64)) (hf : m_L_ask n v0 v1 v2 v3 v4 x1 = some res) : CI l yL_ask wL_ask { frames := 9, cells := 1, slots := 6, locals := 158 } D y ek [.ref (a0 0), .int x1, .ref (a4 0)] [bX11 y a0 (a1 0) z0_tokens z0_hillReader z0_lawReader (a2 0) z0_rules z0_diary z0_spare z0_draft z0_spareDiary (a3 0) z0_past z0_imageHill z0_imageRules z0_imageDiary v0, bAB400 y a1 v1, bX3 y a2 v2, bX2 y a3 v3, bAL1 y a4 v4] (res.1) [bX11 y a0 (a1 0) z0_tokens z0_hillReader z0_lawReader (a2 0) z0_rules z0_diary z0_spare z0_draft z0_spareDiary (a3 0) z0_past z0_imageHill z0_imageRules z0_imageDiary res.2.1, bAB400 y a1 v1, bX3 y a2 v2, bX2 y a3 res.2.2.1, bAL1 y a4 res.2.2.2] 1 6 := by
  unfold m_L_ask at hf
  refine ci_ofW (cc := cL_ask) (maxL := 4) (by decide) rfl rfl (Nat.le_of_ble_eq_true rfl) ?_
  intro p e s m below meth c Q A F hxt hret
  refine a_lv (lv' := [(0, .ref (a0 0)), (1, .int x1), (2, .ref (a4 0))]) rfl ?_
  obtain ⟨t, ht, hf⟩ := bd_some hf
  refine a_aloadn (pc := 0) (j := 2) F dL_ask_0 rfl rfl ?_
  refine a_iconst (pc := 1) (v := 0) F dL_ask_1 (by decide) ?_
  refine a_aloadn (pc := 2) (j := 0) F dL_ask_2 rfl rfl ?_
  refine a_iloadn (pc := 3) (j := 1) F dL_ask_3 rfl rfl ?_
  rcases t with a | x
  · replace hf := sm_inl hf
    obtain rfl := Option.some.inj hf
    refine a_callV (pc := 4) (bs' := [bX11 y a0 (a1 0) z0_tokens z0_hillReader z0_lawReader (a2 0) z0_rules z0_diary z0_spare z0_draft z0_spareDiary (a3 0) z0_past z0_imageHill z0_imageRules z0_imageDiary a.2.1, bAB400 y a1 v1, bX3 y a2 v2, bX2 y a3 a.2.2, bAL1 y a4 v4]) (kb := 0) (j := 0) F [0, 1, 2, 3] (c_X11_ask l D y ek n a0 a1 a2 a3 z0_tokens z0_hillReader z0_lawReader z0_rules z0_diary z0_spare z0_draft z0_spareDiary z0_past z0_imageHill z0_imageRules z0_imageDiary _ _ _ _ _ _ ht) (cwV 1 F.1.2.2.2.2 (gV q5_183 q5_184 q5_185 q1_1 q5_186) rfl rfl rfl (by decide +kernel) ⟨Nat.le_of_ble_eq_true rfl, Nat.le_of_ble_eq_true rfl⟩) rfl rfl rfl rfl (by decide) rfl rfl rfl rfl rfl rfl (Nat.le_of_ble_eq_true rfl) ⟨Nat.le_of_ble_eq_true rfl, Nat.le_of_ble_eq_true rfl⟩ dL_ask_4 ?_
    refine a_i2l (pc := 7) F dL_ask_7 ?_
    refine a_lastc (pc := 8) (kb := 4) (j := 0) (k := 0) (bs' := [bX11 y a0 (a1 0) z0_tokens z0_hillReader z0_lawReader (a2 0) z0_rules z0_diary z0_spare z0_draft z0_spareDiary (a3 0) z0_past z0_imageHill z0_imageRules z0_imageDiary a.2.1, bAB400 y a1 v1, bX3 y a2 v2, bX2 y a3 a.2.2, bAL1 y a4 (vp_updL v4 0 (a.1).toInt64)]) F rfl rfl (by decide) (by decide) rfl dL_ask_8 ?_
    refine a_goto (pc := 9) (tgt := 18) F dL_ask_9 (by decide) ?_
    refine a_iconst (pc := 18) (v := 0) F dL_ask_18 (by decide) ?_
    exact hret _ _ _ _ (Nat.le_of_ble_eq_true rfl) (Nat.le_of_ble_eq_true rfl) dL_ask_19
  · replace hf := sm_inr hf
    by_cases h0 : x.1 = 2
    · replace hf := it_pos h0 hf
      obtain rfl := Option.some.inj hf
      have hM := x_X11_ask l hlt D y ek n a0 a1 a2 a3 z0_tokens z0_hillReader z0_lawReader z0_rules z0_diary z0_spare z0_draft z0_spareDiary z0_past z0_imageHill z0_imageRules z0_imageDiary _ _ _ _ _ _ ht
      rw [h0] at hM
      refine a_callVc (pc := 4) (bs' := [bX11 y a0 (a1 0) z0_tokens z0_hillReader z0_lawReader (a2 0) z0_rules z0_diary z0_spare z0_draft z0_spareDiary (a3 0) z0_past z0_imageHill z0_imageRules z0_imageDiary x.2.1, bAB400 y a1 v1, bX3 y a2 v2, bX2 y a3 x.2.2, bAL1 y a4 v4]) (kb := 0) (j := 0) F [0, 1, 2, 3] hM (cwV 1 F.1.2.2.2.2 (gV q5_183 q5_184 q5_185 q1_1 q5_186) rfl rfl rfl (by decide +kernel) ⟨Nat.le_of_ble_eq_true rfl, Nat.le_of_ble_eq_true rfl⟩) rfl rfl rfl rfl (by decide) rfl rfl rfl rfl rfl rfl (Nat.le_of_ble_eq_true rfl) ⟨Nat.le_of_ble_eq_true rfl, Nat.le_of_ble_eq_true rfl⟩ dL_ask_4 [] ⟨0, 9, 12, 24⟩ [⟨0, 9, 15, 13⟩] (hxt.trans rfl) (fun z hz => absurd hz List.not_mem_nil) (by decide) (by decide) (nm := "java/lang/IndexOutOfBoundsException") (tl q4_147) ((F.2.2.2.2.2.2.2.2.2.2.2.2.1 "java/lang/IndexOutOfBoundsException" (by decide)).use rfl) (fun q9 => ?_)
      refine a_astoren (pc := 12) (lv' := [(0, .ref (a0 0)), (1, .int x1), (2, .ref (a4 0))]) F [1, 2, 3] dL_ask_12 rfl (by decide) rfl ?_
      refine a_iconst (pc := 13) (v := 1) F dL_ask_13 (by decide) ?_
      exact hret _ _ _ _ (Nat.le_of_ble_eq_true rfl) (Nat.le_of_ble_eq_true rfl) dL_ask_14
    replace hf := it_neg h0 hf
    by_cases h1 : x.1 = 0
    · replace hf := it_pos h1 hf
      obtain rfl := Option.some.inj hf
      have hM := x_X11_ask l hlt D y ek n a0 a1 a2 a3 z0_tokens z0_hillReader z0_lawReader z0_rules z0_diary z0_spare z0_draft z0_spareDiary z0_past z0_imageHill z0_imageRules z0_imageDiary _ _ _ _ _ _ ht
      rw [h1] at hM
      refine a_callVc (pc := 4) (bs' := [bX11 y a0 (a1 0) z0_tokens z0_hillReader z0_lawReader (a2 0) z0_rules z0_diary z0_spare z0_draft z0_spareDiary (a3 0) z0_past z0_imageHill z0_imageRules z0_imageDiary x.2.1, bAB400 y a1 v1, bX3 y a2 v2, bX2 y a3 x.2.2, bAL1 y a4 v4]) (kb := 0) (j := 0) F [0, 1, 2, 3] hM (cwV 1 F.1.2.2.2.2 (gV q5_183 q5_184 q5_185 q1_1 q5_186) rfl rfl rfl (by decide +kernel) ⟨Nat.le_of_ble_eq_true rfl, Nat.le_of_ble_eq_true rfl⟩) rfl rfl rfl rfl (by decide) rfl rfl rfl rfl rfl rfl (Nat.le_of_ble_eq_true rfl) ⟨Nat.le_of_ble_eq_true rfl, Nat.le_of_ble_eq_true rfl⟩ dL_ask_4 [⟨0, 9, 12, 24⟩] ⟨0, 9, 15, 13⟩ [] (hxt.trans rfl) (fun z hz => by rcases List.mem_singleton.mp hz with rfl; exact Or.inr ⟨by decide, "java/lang/IndexOutOfBoundsException", F.1.2.2.2.2 _ (tl q4_147), F.2.2.2.2.2.2.2.2.2.2.2.2.2.2.1 ("java/lang/IllegalArgumentException", "java/lang/IndexOutOfBoundsException") (by decide)⟩) (by decide) (by decide) (nm := "java/lang/IllegalArgumentException") (tl q3_96) ((F.2.2.2.2.2.2.2.2.2.2.2.2.1 "java/lang/IllegalArgumentException" (by decide)).use rfl) (fun q9 => ?_)
      refine a_astoren (pc := 15) (lv' := [(0, .ref (a0 0)), (1, .int x1), (2, .ref (a4 0))]) F [1, 2, 3] dL_ask_15 rfl (by decide) rfl ?_
      refine a_iconst (pc := 16) (v := 2) F dL_ask_16 (by decide) ?_
      exact hret _ _ _ _ (Nat.le_of_ble_eq_true rfl) (Nat.le_of_ble_eq_true rfl) dL_ask_17
    replace hf := it_neg h1 hf
    cases hf

abbrev wL_ballast : List Cond := Cond.codeWith yL_ballast cL_ballast 4 (some .int) [(0, 9, 12, 24)] :: WALL
def m_L_ballast (n : Nat) (v0 : St) (v1 : St) (v2 : Nat → Int64) (x1 : Int32) : Option (Int32 × (Nat → Int64)) :=
  bd (m_X11_ballast n v0 v1 x1) (fun t => sm t (fun a => some (0, vp_updL v2 0 (a).toInt64)) (fun x => (if x = 2 then some (1, v2) else none)))
set_option maxHeartbeats 4000000 in
set_option maxRecDepth 100000 in
theorem c_L_ballast (l : Launch) (hlt : l.stackTraces = false) (D : va_G) (y : Nat → ClassId) (ek : EK) (n : Nat) (a0 : Nat → Nat) (a1 : Nat → Nat) (a2 : Nat → Nat) (z0_tape : Nat) (z0_tokens : Nat) (z0_hillReader : Nat) (z0_lawReader : Nat) (z0_rules : Nat) (z0_diary : Nat) (z0_spare : Nat) (z0_draft : Nat) (z0_spareDiary : Nat) (z0_guess : Nat) (z0_past : Nat) (z0_imageHill : Nat) (z0_imageRules : Nat) (z0_imageDiary : Nat) (v0 : St) (v1 : St) (v2 : Nat → Int64) (x1 : Int32) (res : Int32 × (Nat → Int64)) (hf : m_L_ballast n v0 v1 v2 x1 = some res) : CI l yL_ballast wL_ballast { frames := 8, cells := 1, slots := 6, locals := 135 } D y ek [.ref (a0 0), .int x1, .ref (a2 0)] [bX11 y a0 z0_tape z0_tokens z0_hillReader z0_lawReader (a1 0) z0_rules z0_diary z0_spare z0_draft z0_spareDiary z0_guess z0_past z0_imageHill z0_imageRules z0_imageDiary v0, bX3 y a1 v1, bAL1 y a2 v2] (res.1) [bX11 y a0 z0_tape z0_tokens z0_hillReader z0_lawReader (a1 0) z0_rules z0_diary z0_spare z0_draft z0_spareDiary z0_guess z0_past z0_imageHill z0_imageRules z0_imageDiary v0, bX3 y a1 v1, bAL1 y a2 res.2] 1 6 := by
  unfold m_L_ballast at hf
  refine ci_ofW (cc := cL_ballast) (maxL := 4) (by decide) rfl rfl (Nat.le_of_ble_eq_true rfl) ?_
  intro p e s m below meth c Q A F hxt hret
  refine a_lv (lv' := [(0, .ref (a0 0)), (1, .int x1), (2, .ref (a2 0))]) rfl ?_
  obtain ⟨t, ht, hf⟩ := bd_some hf
  refine a_aloadn (pc := 0) (j := 2) F dL_ballast_0 rfl rfl ?_
  refine a_iconst (pc := 1) (v := 0) F dL_ballast_1 (by decide) ?_
  refine a_aloadn (pc := 2) (j := 0) F dL_ballast_2 rfl rfl ?_
  refine a_iloadn (pc := 3) (j := 1) F dL_ballast_3 rfl rfl ?_
  rcases t with a | x
  · replace hf := sm_inl hf
    obtain rfl := Option.some.inj hf
    refine a_callV (pc := 4) (bs' := [bX11 y a0 z0_tape z0_tokens z0_hillReader z0_lawReader (a1 0) z0_rules z0_diary z0_spare z0_draft z0_spareDiary z0_guess z0_past z0_imageHill z0_imageRules z0_imageDiary v0, bX3 y a1 v1, bAL1 y a2 v2]) (kb := 0) (j := 0) F [0, 1] (c_X11_ballast l D y ek n a0 a1 z0_tape z0_tokens z0_hillReader z0_lawReader z0_rules z0_diary z0_spare z0_draft z0_spareDiary z0_guess z0_past z0_imageHill z0_imageRules z0_imageDiary _ _ _ _ ht) (cwV 1 F.1.2.2.2.2 (gV q5_199 q5_200 q5_201 q1_1 q5_202) rfl rfl rfl (by decide +kernel) ⟨Nat.le_of_ble_eq_true rfl, Nat.le_of_ble_eq_true rfl⟩) rfl rfl rfl rfl (by decide) rfl rfl rfl rfl rfl rfl (Nat.le_of_ble_eq_true rfl) ⟨Nat.le_of_ble_eq_true rfl, Nat.le_of_ble_eq_true rfl⟩ dL_ballast_4 ?_
    refine a_i2l (pc := 7) F dL_ballast_7 ?_
    refine a_lastc (pc := 8) (kb := 2) (j := 0) (k := 0) (bs' := [bX11 y a0 z0_tape z0_tokens z0_hillReader z0_lawReader (a1 0) z0_rules z0_diary z0_spare z0_draft z0_spareDiary z0_guess z0_past z0_imageHill z0_imageRules z0_imageDiary v0, bX3 y a1 v1, bAL1 y a2 (vp_updL v2 0 (a).toInt64)]) F rfl rfl (by decide) (by decide) rfl dL_ballast_8 ?_
    refine a_goto (pc := 9) (tgt := 15) F dL_ballast_9 (by decide) ?_
    refine a_iconst (pc := 15) (v := 0) F dL_ballast_15 (by decide) ?_
    exact hret _ _ _ _ (Nat.le_of_ble_eq_true rfl) (Nat.le_of_ble_eq_true rfl) dL_ballast_16
  · replace hf := sm_inr hf
    by_cases h0 : x = 2
    · replace hf := it_pos h0 hf
      obtain rfl := Option.some.inj hf
      have hM := x_X11_ballast l hlt D y ek n a0 a1 z0_tape z0_tokens z0_hillReader z0_lawReader z0_rules z0_diary z0_spare z0_draft z0_spareDiary z0_guess z0_past z0_imageHill z0_imageRules z0_imageDiary _ _ _ _ ht
      rw [h0] at hM
      refine a_callVc (pc := 4) (bs' := [bX11 y a0 z0_tape z0_tokens z0_hillReader z0_lawReader (a1 0) z0_rules z0_diary z0_spare z0_draft z0_spareDiary z0_guess z0_past z0_imageHill z0_imageRules z0_imageDiary v0, bX3 y a1 v1, bAL1 y a2 v2]) (kb := 0) (j := 0) F [0, 1] hM (cwV 1 F.1.2.2.2.2 (gV q5_199 q5_200 q5_201 q1_1 q5_202) rfl rfl rfl (by decide +kernel) ⟨Nat.le_of_ble_eq_true rfl, Nat.le_of_ble_eq_true rfl⟩) rfl rfl rfl rfl (by decide) rfl rfl rfl rfl rfl rfl (Nat.le_of_ble_eq_true rfl) ⟨Nat.le_of_ble_eq_true rfl, Nat.le_of_ble_eq_true rfl⟩ dL_ballast_4 [] ⟨0, 9, 12, 24⟩ [] (hxt.trans rfl) (fun z hz => absurd hz List.not_mem_nil) (by decide) (by decide) (nm := "java/lang/IndexOutOfBoundsException") (tl q4_147) ((F.2.2.2.2.2.2.2.2.2.2.2.2.1 "java/lang/IndexOutOfBoundsException" (by decide)).use rfl) (fun q9 => ?_)
      refine a_astoren (pc := 12) (lv' := [(0, .ref (a0 0)), (1, .int x1), (2, .ref (a2 0))]) F [1, 2, 3] dL_ballast_12 rfl (by decide) rfl ?_
      refine a_iconst (pc := 13) (v := 1) F dL_ballast_13 (by decide) ?_
      exact hret _ _ _ _ (Nat.le_of_ble_eq_true rfl) (Nat.le_of_ble_eq_true rfl) dL_ballast_14
    replace hf := it_neg h0 hf
    cases hf

abbrev wL_guards : List Cond := Cond.codeWith yL_guards cL_guards 5 (some .int) [(0, 10, 13, 13)] :: WALL
def m_L_guards (n : Nat) (v0 : St) (v1 : St) (v2 : St) (v3 : St) (v4 : Nat → Int64) (x1 : Int32) (x2 : Int32) : Option (Int32 × St × St × (Nat → Int64)) :=
  bd (m_X11_guards n v0 v1 v2 v3 x1 x2) (fun t => sm t (fun a => some (0, a.2.1, a.2.2, vp_updL v4 0 (a.1).toInt64)) (fun x => (if x.1 = 0 then some (1, x.2.1, x.2.2, v4) else none)))
set_option maxHeartbeats 4000000 in
set_option maxRecDepth 100000 in
theorem c_L_guards (l : Launch) (hlt : l.stackTraces = false) (D : va_G) (y : Nat → ClassId) (ek : EK) (n : Nat) (a0 : Nat → Nat) (a1 : Nat → Nat) (a2 : Nat → Nat) (a3 : Nat → Nat) (a4 : Nat → Nat) (z0_tape : Nat) (z0_tokens : Nat) (z0_hillReader : Nat) (z0_lawReader : Nat) (z0_diary : Nat) (z0_draft : Nat) (z0_spareDiary : Nat) (z0_guess : Nat) (z0_past : Nat) (z0_imageHill : Nat) (z0_imageRules : Nat) (z0_imageDiary : Nat) (v0 : St) (v1 : St) (v2 : St) (v3 : St) (v4 : Nat → Int64) (x1 : Int32) (x2 : Int32) (res : Int32 × St × St × (Nat → Int64)) (hf : m_L_guards n v0 v1 v2 v3 v4 x1 x2 = some res) : CI l yL_guards wL_guards { frames := 8, cells := 1, slots := 6, locals := 197 } D y ek [.ref (a0 0), .int x1, .int x2, .ref (a4 0)] [bX11 y a0 z0_tape z0_tokens z0_hillReader z0_lawReader (a1 0) (a2 0) z0_diary (a3 0) z0_draft z0_spareDiary z0_guess z0_past z0_imageHill z0_imageRules z0_imageDiary v0, bX3 y a1 v1, bX5 y a2 v2, bX3 y a3 v3, bAL1 y a4 v4] (res.1) [bX11 y a0 z0_tape z0_tokens z0_hillReader z0_lawReader (a1 0) (a2 0) z0_diary (a3 0) z0_draft z0_spareDiary z0_guess z0_past z0_imageHill z0_imageRules z0_imageDiary v0, bX3 y a1 v1, bX5 y a2 res.2.1, bX3 y a3 res.2.2.1, bAL1 y a4 res.2.2.2] 1 6 := by
  unfold m_L_guards at hf
  refine ci_ofW (cc := cL_guards) (maxL := 5) (by decide) rfl rfl (Nat.le_of_ble_eq_true rfl) ?_
  intro p e s m below meth c Q A F hxt hret
  refine a_lv (lv' := [(0, .ref (a0 0)), (1, .int x1), (2, .int x2), (3, .ref (a4 0))]) rfl ?_
  obtain ⟨t, ht, hf⟩ := bd_some hf
  refine a_aloadn (pc := 0) (j := 3) F dL_guards_0 rfl rfl ?_
  refine a_iconst (pc := 1) (v := 0) F dL_guards_1 (by decide) ?_
  refine a_aloadn (pc := 2) (j := 0) F dL_guards_2 rfl rfl ?_
  refine a_iloadn (pc := 3) (j := 1) F dL_guards_3 rfl rfl ?_
  refine a_iloadn (pc := 4) (j := 2) F dL_guards_4 rfl rfl ?_
  rcases t with a | x
  · replace hf := sm_inl hf
    obtain rfl := Option.some.inj hf
    refine a_callV (pc := 5) (bs' := [bX11 y a0 z0_tape z0_tokens z0_hillReader z0_lawReader (a1 0) (a2 0) z0_diary (a3 0) z0_draft z0_spareDiary z0_guess z0_past z0_imageHill z0_imageRules z0_imageDiary v0, bX3 y a1 v1, bX5 y a2 a.2.1, bX3 y a3 a.2.2, bAL1 y a4 v4]) (kb := 0) (j := 0) F [0, 1, 2, 3] (c_X11_guards l D y ek n a0 a1 a2 a3 z0_tape z0_tokens z0_hillReader z0_lawReader z0_diary z0_draft z0_spareDiary z0_guess z0_past z0_imageHill z0_imageRules z0_imageDiary _ _ _ _ _ _ _ ht) (cwV 2 F.1.2.2.2.2 (gV q5_215 q5_216 q5_217 q1_1 q5_218) rfl rfl rfl (by decide +kernel) ⟨Nat.le_of_ble_eq_true rfl, Nat.le_of_ble_eq_true rfl⟩) rfl rfl rfl rfl (by decide) rfl rfl rfl rfl rfl rfl (Nat.le_of_ble_eq_true rfl) ⟨Nat.le_of_ble_eq_true rfl, Nat.le_of_ble_eq_true rfl⟩ dL_guards_5 ?_
    refine a_i2l (pc := 8) F dL_guards_8 ?_
    refine a_lastc (pc := 9) (kb := 4) (j := 0) (k := 0) (bs' := [bX11 y a0 z0_tape z0_tokens z0_hillReader z0_lawReader (a1 0) (a2 0) z0_diary (a3 0) z0_draft z0_spareDiary z0_guess z0_past z0_imageHill z0_imageRules z0_imageDiary v0, bX3 y a1 v1, bX5 y a2 a.2.1, bX3 y a3 a.2.2, bAL1 y a4 (vp_updL v4 0 (a.1).toInt64)]) F rfl rfl (by decide) (by decide) rfl dL_guards_9 ?_
    refine a_goto (pc := 10) (tgt := 17) F dL_guards_10 (by decide) ?_
    refine a_iconst (pc := 17) (v := 0) F dL_guards_17 (by decide) ?_
    exact hret _ _ _ _ (Nat.le_of_ble_eq_true rfl) (Nat.le_of_ble_eq_true rfl) dL_guards_18
  · replace hf := sm_inr hf
    by_cases h0 : x.1 = 0
    · replace hf := it_pos h0 hf
      obtain rfl := Option.some.inj hf
      have hM := x_X11_guards l hlt D y ek n a0 a1 a2 a3 z0_tape z0_tokens z0_hillReader z0_lawReader z0_diary z0_draft z0_spareDiary z0_guess z0_past z0_imageHill z0_imageRules z0_imageDiary _ _ _ _ _ _ _ ht
      rw [h0] at hM
      refine a_callVc (pc := 5) (bs' := [bX11 y a0 z0_tape z0_tokens z0_hillReader z0_lawReader (a1 0) (a2 0) z0_diary (a3 0) z0_draft z0_spareDiary z0_guess z0_past z0_imageHill z0_imageRules z0_imageDiary v0, bX3 y a1 v1, bX5 y a2 x.2.1, bX3 y a3 x.2.2, bAL1 y a4 v4]) (kb := 0) (j := 0) F [0, 1, 2, 3] hM (cwV 2 F.1.2.2.2.2 (gV q5_215 q5_216 q5_217 q1_1 q5_218) rfl rfl rfl (by decide +kernel) ⟨Nat.le_of_ble_eq_true rfl, Nat.le_of_ble_eq_true rfl⟩) rfl rfl rfl rfl (by decide) rfl rfl rfl rfl rfl rfl (Nat.le_of_ble_eq_true rfl) ⟨Nat.le_of_ble_eq_true rfl, Nat.le_of_ble_eq_true rfl⟩ dL_guards_5 [] ⟨0, 10, 13, 13⟩ [] (hxt.trans rfl) (fun z hz => absurd hz List.not_mem_nil) (by decide) (by decide) (nm := "java/lang/IllegalArgumentException") (tl q3_96) ((F.2.2.2.2.2.2.2.2.2.2.2.2.1 "java/lang/IllegalArgumentException" (by decide)).use rfl) (fun q9 => ?_)
      refine a_astore (pc := 13) (lv' := [(0, .ref (a0 0)), (1, .int x1), (2, .int x2), (3, .ref (a4 0))]) F [1, 2, 3, 4] dL_guards_13 (by decide) rfl ?_
      refine a_iconst (pc := 15) (v := 1) F dL_guards_15 (by decide) ?_
      exact hret _ _ _ _ (Nat.le_of_ble_eq_true rfl) (Nat.le_of_ble_eq_true rfl) dL_guards_16
    replace hf := it_neg h0 hf
    cases hf

abbrev wL_loot : List Cond := Cond.codeWith yL_loot cL_loot 4 (some .int) [(0, 9, 12, 13)] :: WALL
def m_L_loot (n : Nat) (v0 : St) (v1 : St) (v2 : St) (v3 : St) (v4 : Nat → Int64) (x1 : Int32) : Option (Int32 × St × St × (Nat → Int64)) :=
  bd (m_X11_loot n v0 v1 v2 v3 x1) (fun t => sm t (fun a => some (0, a.2.1, a.2.2, vp_updL v4 0 (a.1).toInt64)) (fun x => (if x.1 = 0 then some (1, x.2.1, x.2.2, v4) else none)))
set_option maxHeartbeats 4000000 in
set_option maxRecDepth 100000 in
theorem c_L_loot (l : Launch) (hlt : l.stackTraces = false) (D : va_G) (y : Nat → ClassId) (ek : EK) (n : Nat) (a0 : Nat → Nat) (a1 : Nat → Nat) (a2 : Nat → Nat) (a3 : Nat → Nat) (a4 : Nat → Nat) (z0_tape : Nat) (z0_tokens : Nat) (z0_hillReader : Nat) (z0_lawReader : Nat) (z0_diary : Nat) (z0_draft : Nat) (z0_spareDiary : Nat) (z0_guess : Nat) (z0_past : Nat) (z0_imageHill : Nat) (z0_imageRules : Nat) (z0_imageDiary : Nat) (v0 : St) (v1 : St) (v2 : St) (v3 : St) (v4 : Nat → Int64) (x1 : Int32) (res : Int32 × St × St × (Nat → Int64)) (hf : m_L_loot n v0 v1 v2 v3 v4 x1 = some res) : CI l yL_loot wL_loot { frames := 8, cells := 1, slots := 6, locals := 171 } D y ek [.ref (a0 0), .int x1, .ref (a4 0)] [bX11 y a0 z0_tape z0_tokens z0_hillReader z0_lawReader (a1 0) (a2 0) z0_diary (a3 0) z0_draft z0_spareDiary z0_guess z0_past z0_imageHill z0_imageRules z0_imageDiary v0, bX3 y a1 v1, bX5 y a2 v2, bX3 y a3 v3, bAL1 y a4 v4] (res.1) [bX11 y a0 z0_tape z0_tokens z0_hillReader z0_lawReader (a1 0) (a2 0) z0_diary (a3 0) z0_draft z0_spareDiary z0_guess z0_past z0_imageHill z0_imageRules z0_imageDiary v0, bX3 y a1 v1, bX5 y a2 res.2.1, bX3 y a3 res.2.2.1, bAL1 y a4 res.2.2.2] 1 6 := by
  unfold m_L_loot at hf
  refine ci_ofW (cc := cL_loot) (maxL := 4) (by decide) rfl rfl (Nat.le_of_ble_eq_true rfl) ?_
  intro p e s m below meth c Q A F hxt hret
  refine a_lv (lv' := [(0, .ref (a0 0)), (1, .int x1), (2, .ref (a4 0))]) rfl ?_
  obtain ⟨t, ht, hf⟩ := bd_some hf
  refine a_aloadn (pc := 0) (j := 2) F dL_loot_0 rfl rfl ?_
  refine a_iconst (pc := 1) (v := 0) F dL_loot_1 (by decide) ?_
  refine a_aloadn (pc := 2) (j := 0) F dL_loot_2 rfl rfl ?_
  refine a_iloadn (pc := 3) (j := 1) F dL_loot_3 rfl rfl ?_
  rcases t with a | x
  · replace hf := sm_inl hf
    obtain rfl := Option.some.inj hf
    refine a_callV (pc := 4) (bs' := [bX11 y a0 z0_tape z0_tokens z0_hillReader z0_lawReader (a1 0) (a2 0) z0_diary (a3 0) z0_draft z0_spareDiary z0_guess z0_past z0_imageHill z0_imageRules z0_imageDiary v0, bX3 y a1 v1, bX5 y a2 a.2.1, bX3 y a3 a.2.2, bAL1 y a4 v4]) (kb := 0) (j := 0) F [0, 1, 2, 3] (c_X11_loot l D y ek n a0 a1 a2 a3 z0_tape z0_tokens z0_hillReader z0_lawReader z0_diary z0_draft z0_spareDiary z0_guess z0_past z0_imageHill z0_imageRules z0_imageDiary _ _ _ _ _ _ ht) (cwV 1 F.1.2.2.2.2 (gV q5_230 q5_231 q5_232 q1_1 q5_233) rfl rfl rfl (by decide +kernel) ⟨Nat.le_of_ble_eq_true rfl, Nat.le_of_ble_eq_true rfl⟩) rfl rfl rfl rfl (by decide) rfl rfl rfl rfl rfl rfl (Nat.le_of_ble_eq_true rfl) ⟨Nat.le_of_ble_eq_true rfl, Nat.le_of_ble_eq_true rfl⟩ dL_loot_4 ?_
    refine a_i2l (pc := 7) F dL_loot_7 ?_
    refine a_lastc (pc := 8) (kb := 4) (j := 0) (k := 0) (bs' := [bX11 y a0 z0_tape z0_tokens z0_hillReader z0_lawReader (a1 0) (a2 0) z0_diary (a3 0) z0_draft z0_spareDiary z0_guess z0_past z0_imageHill z0_imageRules z0_imageDiary v0, bX3 y a1 v1, bX5 y a2 a.2.1, bX3 y a3 a.2.2, bAL1 y a4 (vp_updL v4 0 (a.1).toInt64)]) F rfl rfl (by decide) (by decide) rfl dL_loot_8 ?_
    refine a_goto (pc := 9) (tgt := 15) F dL_loot_9 (by decide) ?_
    refine a_iconst (pc := 15) (v := 0) F dL_loot_15 (by decide) ?_
    exact hret _ _ _ _ (Nat.le_of_ble_eq_true rfl) (Nat.le_of_ble_eq_true rfl) dL_loot_16
  · replace hf := sm_inr hf
    by_cases h0 : x.1 = 0
    · replace hf := it_pos h0 hf
      obtain rfl := Option.some.inj hf
      have hM := x_X11_loot l hlt D y ek n a0 a1 a2 a3 z0_tape z0_tokens z0_hillReader z0_lawReader z0_diary z0_draft z0_spareDiary z0_guess z0_past z0_imageHill z0_imageRules z0_imageDiary _ _ _ _ _ _ ht
      rw [h0] at hM
      refine a_callVc (pc := 4) (bs' := [bX11 y a0 z0_tape z0_tokens z0_hillReader z0_lawReader (a1 0) (a2 0) z0_diary (a3 0) z0_draft z0_spareDiary z0_guess z0_past z0_imageHill z0_imageRules z0_imageDiary v0, bX3 y a1 v1, bX5 y a2 x.2.1, bX3 y a3 x.2.2, bAL1 y a4 v4]) (kb := 0) (j := 0) F [0, 1, 2, 3] hM (cwV 1 F.1.2.2.2.2 (gV q5_230 q5_231 q5_232 q1_1 q5_233) rfl rfl rfl (by decide +kernel) ⟨Nat.le_of_ble_eq_true rfl, Nat.le_of_ble_eq_true rfl⟩) rfl rfl rfl rfl (by decide) rfl rfl rfl rfl rfl rfl (Nat.le_of_ble_eq_true rfl) ⟨Nat.le_of_ble_eq_true rfl, Nat.le_of_ble_eq_true rfl⟩ dL_loot_4 [] ⟨0, 9, 12, 13⟩ [] (hxt.trans rfl) (fun z hz => absurd hz List.not_mem_nil) (by decide) (by decide) (nm := "java/lang/IllegalArgumentException") (tl q3_96) ((F.2.2.2.2.2.2.2.2.2.2.2.2.1 "java/lang/IllegalArgumentException" (by decide)).use rfl) (fun q9 => ?_)
      refine a_astoren (pc := 12) (lv' := [(0, .ref (a0 0)), (1, .int x1), (2, .ref (a4 0))]) F [1, 2, 3] dL_loot_12 rfl (by decide) rfl ?_
      refine a_iconst (pc := 13) (v := 1) F dL_loot_13 (by decide) ?_
      exact hret _ _ _ _ (Nat.le_of_ble_eq_true rfl) (Nat.le_of_ble_eq_true rfl) dL_loot_14
    replace hf := it_neg h0 hf
    cases hf

abbrev wL_rent : List Cond := Cond.codeWith yL_rent cL_rent 5 (some .int) [(0, 10, 13, 24), (0, 10, 17, 13)] :: WALL
def m_L_rent (n : Nat) (v0 : St) (v1 : St) (v2 : St) (v3 : St) (v4 : Nat → Int64) (x1 : Int32) (x2 : Int32) : Option (Int32 × St × St × (Nat → Int64)) :=
  bd (m_X11_rent n v0 v1 v2 v3 x1 x2) (fun t => sm t (fun a => some (0, a.2.1, a.2.2, vp_updL v4 0 (a.1).toInt64)) (fun x => (if x.1 = 2 then some (1, x.2.1, x.2.2, v4) else (if x.1 = 0 then some (2, x.2.1, x.2.2, v4) else none))))
set_option maxHeartbeats 4000000 in
set_option maxRecDepth 100000 in
theorem c_L_rent (l : Launch) (hlt : l.stackTraces = false) (D : va_G) (y : Nat → ClassId) (ek : EK) (n : Nat) (a0 : Nat → Nat) (a1 : Nat → Nat) (a2 : Nat → Nat) (a3 : Nat → Nat) (a4 : Nat → Nat) (z0_tape : Nat) (z0_tokens : Nat) (z0_hillReader : Nat) (z0_lawReader : Nat) (z0_diary : Nat) (z0_draft : Nat) (z0_spareDiary : Nat) (z0_guess : Nat) (z0_past : Nat) (z0_imageHill : Nat) (z0_imageRules : Nat) (z0_imageDiary : Nat) (v0 : St) (v1 : St) (v2 : St) (v3 : St) (v4 : Nat → Int64) (x1 : Int32) (x2 : Int32) (res : Int32 × St × St × (Nat → Int64)) (hf : m_L_rent n v0 v1 v2 v3 v4 x1 x2 = some res) : CI l yL_rent wL_rent { frames := 8, cells := 1, slots := 6, locals := 188 } D y ek [.ref (a0 0), .int x1, .int x2, .ref (a4 0)] [bX11 y a0 z0_tape z0_tokens z0_hillReader z0_lawReader (a1 0) (a2 0) z0_diary (a3 0) z0_draft z0_spareDiary z0_guess z0_past z0_imageHill z0_imageRules z0_imageDiary v0, bX3 y a1 v1, bX5 y a2 v2, bX3 y a3 v3, bAL1 y a4 v4] (res.1) [bX11 y a0 z0_tape z0_tokens z0_hillReader z0_lawReader (a1 0) (a2 0) z0_diary (a3 0) z0_draft z0_spareDiary z0_guess z0_past z0_imageHill z0_imageRules z0_imageDiary v0, bX3 y a1 v1, bX5 y a2 res.2.1, bX3 y a3 res.2.2.1, bAL1 y a4 res.2.2.2] 1 6 := by
  unfold m_L_rent at hf
  refine ci_ofW (cc := cL_rent) (maxL := 5) (by decide) rfl rfl (Nat.le_of_ble_eq_true rfl) ?_
  intro p e s m below meth c Q A F hxt hret
  refine a_lv (lv' := [(0, .ref (a0 0)), (1, .int x1), (2, .int x2), (3, .ref (a4 0))]) rfl ?_
  obtain ⟨t, ht, hf⟩ := bd_some hf
  refine a_aloadn (pc := 0) (j := 3) F dL_rent_0 rfl rfl ?_
  refine a_iconst (pc := 1) (v := 0) F dL_rent_1 (by decide) ?_
  refine a_aloadn (pc := 2) (j := 0) F dL_rent_2 rfl rfl ?_
  refine a_iloadn (pc := 3) (j := 1) F dL_rent_3 rfl rfl ?_
  refine a_iloadn (pc := 4) (j := 2) F dL_rent_4 rfl rfl ?_
  rcases t with a | x
  · replace hf := sm_inl hf
    obtain rfl := Option.some.inj hf
    refine a_callV (pc := 5) (bs' := [bX11 y a0 z0_tape z0_tokens z0_hillReader z0_lawReader (a1 0) (a2 0) z0_diary (a3 0) z0_draft z0_spareDiary z0_guess z0_past z0_imageHill z0_imageRules z0_imageDiary v0, bX3 y a1 v1, bX5 y a2 a.2.1, bX3 y a3 a.2.2, bAL1 y a4 v4]) (kb := 0) (j := 0) F [0, 1, 2, 3] (c_X11_rent l D y ek n a0 a1 a2 a3 z0_tape z0_tokens z0_hillReader z0_lawReader z0_diary z0_draft z0_spareDiary z0_guess z0_past z0_imageHill z0_imageRules z0_imageDiary _ _ _ _ _ _ _ ht) (cwV 2 F.1.2.2.2.2 (gV q5_237 q5_238 q5_239 q1_1 q6_0) rfl rfl rfl (by decide +kernel) ⟨Nat.le_of_ble_eq_true rfl, Nat.le_of_ble_eq_true rfl⟩) rfl rfl rfl rfl (by decide) rfl rfl rfl rfl rfl rfl (Nat.le_of_ble_eq_true rfl) ⟨Nat.le_of_ble_eq_true rfl, Nat.le_of_ble_eq_true rfl⟩ dL_rent_5 ?_
    refine a_i2l (pc := 8) F dL_rent_8 ?_
    refine a_lastc (pc := 9) (kb := 4) (j := 0) (k := 0) (bs' := [bX11 y a0 z0_tape z0_tokens z0_hillReader z0_lawReader (a1 0) (a2 0) z0_diary (a3 0) z0_draft z0_spareDiary z0_guess z0_past z0_imageHill z0_imageRules z0_imageDiary v0, bX3 y a1 v1, bX5 y a2 a.2.1, bX3 y a3 a.2.2, bAL1 y a4 (vp_updL v4 0 (a.1).toInt64)]) F rfl rfl (by decide) (by decide) rfl dL_rent_9 ?_
    refine a_goto (pc := 10) (tgt := 21) F dL_rent_10 (by decide) ?_
    refine a_iconst (pc := 21) (v := 0) F dL_rent_21 (by decide) ?_
    exact hret _ _ _ _ (Nat.le_of_ble_eq_true rfl) (Nat.le_of_ble_eq_true rfl) dL_rent_22
  · replace hf := sm_inr hf
    by_cases h0 : x.1 = 2
    · replace hf := it_pos h0 hf
      obtain rfl := Option.some.inj hf
      have hM := x_X11_rent l hlt D y ek n a0 a1 a2 a3 z0_tape z0_tokens z0_hillReader z0_lawReader z0_diary z0_draft z0_spareDiary z0_guess z0_past z0_imageHill z0_imageRules z0_imageDiary _ _ _ _ _ _ _ ht
      rw [h0] at hM
      refine a_callVc (pc := 5) (bs' := [bX11 y a0 z0_tape z0_tokens z0_hillReader z0_lawReader (a1 0) (a2 0) z0_diary (a3 0) z0_draft z0_spareDiary z0_guess z0_past z0_imageHill z0_imageRules z0_imageDiary v0, bX3 y a1 v1, bX5 y a2 x.2.1, bX3 y a3 x.2.2, bAL1 y a4 v4]) (kb := 0) (j := 0) F [0, 1, 2, 3] hM (cwV 2 F.1.2.2.2.2 (gV q5_237 q5_238 q5_239 q1_1 q6_0) rfl rfl rfl (by decide +kernel) ⟨Nat.le_of_ble_eq_true rfl, Nat.le_of_ble_eq_true rfl⟩) rfl rfl rfl rfl (by decide) rfl rfl rfl rfl rfl rfl (Nat.le_of_ble_eq_true rfl) ⟨Nat.le_of_ble_eq_true rfl, Nat.le_of_ble_eq_true rfl⟩ dL_rent_5 [] ⟨0, 10, 13, 24⟩ [⟨0, 10, 17, 13⟩] (hxt.trans rfl) (fun z hz => absurd hz List.not_mem_nil) (by decide) (by decide) (nm := "java/lang/IndexOutOfBoundsException") (tl q4_147) ((F.2.2.2.2.2.2.2.2.2.2.2.2.1 "java/lang/IndexOutOfBoundsException" (by decide)).use rfl) (fun q9 => ?_)
      refine a_astore (pc := 13) (lv' := [(0, .ref (a0 0)), (1, .int x1), (2, .int x2), (3, .ref (a4 0))]) F [1, 2, 3, 4] dL_rent_13 (by decide) rfl ?_
      refine a_iconst (pc := 15) (v := 1) F dL_rent_15 (by decide) ?_
      exact hret _ _ _ _ (Nat.le_of_ble_eq_true rfl) (Nat.le_of_ble_eq_true rfl) dL_rent_16
    replace hf := it_neg h0 hf
    by_cases h1 : x.1 = 0
    · replace hf := it_pos h1 hf
      obtain rfl := Option.some.inj hf
      have hM := x_X11_rent l hlt D y ek n a0 a1 a2 a3 z0_tape z0_tokens z0_hillReader z0_lawReader z0_diary z0_draft z0_spareDiary z0_guess z0_past z0_imageHill z0_imageRules z0_imageDiary _ _ _ _ _ _ _ ht
      rw [h1] at hM
      refine a_callVc (pc := 5) (bs' := [bX11 y a0 z0_tape z0_tokens z0_hillReader z0_lawReader (a1 0) (a2 0) z0_diary (a3 0) z0_draft z0_spareDiary z0_guess z0_past z0_imageHill z0_imageRules z0_imageDiary v0, bX3 y a1 v1, bX5 y a2 x.2.1, bX3 y a3 x.2.2, bAL1 y a4 v4]) (kb := 0) (j := 0) F [0, 1, 2, 3] hM (cwV 2 F.1.2.2.2.2 (gV q5_237 q5_238 q5_239 q1_1 q6_0) rfl rfl rfl (by decide +kernel) ⟨Nat.le_of_ble_eq_true rfl, Nat.le_of_ble_eq_true rfl⟩) rfl rfl rfl rfl (by decide) rfl rfl rfl rfl rfl rfl (Nat.le_of_ble_eq_true rfl) ⟨Nat.le_of_ble_eq_true rfl, Nat.le_of_ble_eq_true rfl⟩ dL_rent_5 [⟨0, 10, 13, 24⟩] ⟨0, 10, 17, 13⟩ [] (hxt.trans rfl) (fun z hz => by rcases List.mem_singleton.mp hz with rfl; exact Or.inr ⟨by decide, "java/lang/IndexOutOfBoundsException", F.1.2.2.2.2 _ (tl q4_147), F.2.2.2.2.2.2.2.2.2.2.2.2.2.2.1 ("java/lang/IllegalArgumentException", "java/lang/IndexOutOfBoundsException") (by decide)⟩) (by decide) (by decide) (nm := "java/lang/IllegalArgumentException") (tl q3_96) ((F.2.2.2.2.2.2.2.2.2.2.2.2.1 "java/lang/IllegalArgumentException" (by decide)).use rfl) (fun q9 => ?_)
      refine a_astore (pc := 17) (lv' := [(0, .ref (a0 0)), (1, .int x1), (2, .int x2), (3, .ref (a4 0))]) F [1, 2, 3, 4] dL_rent_17 (by decide) rfl ?_
      refine a_iconst (pc := 19) (v := 2) F dL_rent_19 (by decide) ?_
      exact hret _ _ _ _ (Nat.le_of_ble_eq_true rfl) (Nat.le_of_ble_eq_true rfl) dL_rent_20
    replace hf := it_neg h1 hf
    cases hf

abbrev wL_ahead : List Cond := Cond.codeWith yL_ahead cL_ahead 6 (some .int) [(0, 12, 15, 24), (0, 12, 19, 13)] :: WALL
def m_L_ahead (n : Nat) (v0 : St) (v1 : St) (v2 : St) (v3 : St) (v4 : Nat → Int64) (x1 : Int32) (x2 : Int32) (x3 : Int32) : Option (Int32 × St × St × (Nat → Int64)) :=
  bd (m_X11_ahead n v0 v1 v2 v3 x1 x2 x3) (fun t => sm t (fun a => some (0, a.2.1, a.2.2, vp_updL v4 0 (a.1).toInt64)) (fun x => (if x.1 = 2 then some (1, x.2.1, x.2.2, v4) else (if x.1 = 0 then some (2, x.2.1, x.2.2, v4) else none))))
set_option maxHeartbeats 4000000 in
set_option maxRecDepth 100000 in
theorem c_L_ahead (l : Launch) (hlt : l.stackTraces = false) (D : va_G) (y : Nat → ClassId) (ek : EK) (n : Nat) (a0 : Nat → Nat) (a1 : Nat → Nat) (a2 : Nat → Nat) (a3 : Nat → Nat) (a4 : Nat → Nat) (z0_tape : Nat) (z0_tokens : Nat) (z0_hillReader : Nat) (z0_lawReader : Nat) (z0_diary : Nat) (z0_draft : Nat) (z0_spareDiary : Nat) (z0_guess : Nat) (z0_past : Nat) (z0_imageHill : Nat) (z0_imageRules : Nat) (z0_imageDiary : Nat) (v0 : St) (v1 : St) (v2 : St) (v3 : St) (v4 : Nat → Int64) (x1 : Int32) (x2 : Int32) (x3 : Int32) (res : Int32 × St × St × (Nat → Int64)) (hf : m_L_ahead n v0 v1 v2 v3 v4 x1 x2 x3 = some res) : CI l yL_ahead wL_ahead { frames := 8, cells := 1, slots := 6, locals := 189 } D y ek [.ref (a0 0), .int x1, .int x2, .int x3, .ref (a4 0)] [bX11 y a0 z0_tape z0_tokens z0_hillReader z0_lawReader (a1 0) (a2 0) z0_diary (a3 0) z0_draft z0_spareDiary z0_guess z0_past z0_imageHill z0_imageRules z0_imageDiary v0, bX3 y a1 v1, bX5 y a2 v2, bX3 y a3 v3, bAL1 y a4 v4] (res.1) [bX11 y a0 z0_tape z0_tokens z0_hillReader z0_lawReader (a1 0) (a2 0) z0_diary (a3 0) z0_draft z0_spareDiary z0_guess z0_past z0_imageHill z0_imageRules z0_imageDiary v0, bX3 y a1 v1, bX5 y a2 res.2.1, bX3 y a3 res.2.2.1, bAL1 y a4 res.2.2.2] 1 6 := by
  unfold m_L_ahead at hf
  refine ci_ofW (cc := cL_ahead) (maxL := 6) (by decide) rfl rfl (Nat.le_of_ble_eq_true rfl) ?_
  intro p e s m below meth c Q A F hxt hret
  refine a_lv (lv' := [(0, .ref (a0 0)), (1, .int x1), (2, .int x2), (3, .int x3), (4, .ref (a4 0))]) rfl ?_
  obtain ⟨t, ht, hf⟩ := bd_some hf
  refine a_aload (pc := 0) (j := 4) F dL_ahead_0 rfl ?_
  refine a_iconst (pc := 2) (v := 0) F dL_ahead_2 (by decide) ?_
  refine a_aloadn (pc := 3) (j := 0) F dL_ahead_3 rfl rfl ?_
  refine a_iloadn (pc := 4) (j := 1) F dL_ahead_4 rfl rfl ?_
  refine a_iloadn (pc := 5) (j := 2) F dL_ahead_5 rfl rfl ?_
  refine a_iloadn (pc := 6) (j := 3) F dL_ahead_6 rfl rfl ?_
  rcases t with a | x
  · replace hf := sm_inl hf
    obtain rfl := Option.some.inj hf
    refine a_callV (pc := 7) (bs' := [bX11 y a0 z0_tape z0_tokens z0_hillReader z0_lawReader (a1 0) (a2 0) z0_diary (a3 0) z0_draft z0_spareDiary z0_guess z0_past z0_imageHill z0_imageRules z0_imageDiary v0, bX3 y a1 v1, bX5 y a2 a.2.1, bX3 y a3 a.2.2, bAL1 y a4 v4]) (kb := 0) (j := 0) F [0, 1, 2, 3] (c_X11_ahead l D y ek n a0 a1 a2 a3 z0_tape z0_tokens z0_hillReader z0_lawReader z0_diary z0_draft z0_spareDiary z0_guess z0_past z0_imageHill z0_imageRules z0_imageDiary _ _ _ _ _ _ _ _ ht) (cwV 3 F.1.2.2.2.2 (gV q6_8 q6_9 q6_10 q1_1 q6_11) rfl rfl rfl (by decide +kernel) ⟨Nat.le_of_ble_eq_true rfl, Nat.le_of_ble_eq_true rfl⟩) rfl rfl rfl rfl (by decide) rfl rfl rfl rfl rfl rfl (Nat.le_of_ble_eq_true rfl) ⟨Nat.le_of_ble_eq_true rfl, Nat.le_of_ble_eq_true rfl⟩ dL_ahead_7 ?_
    refine a_i2l (pc := 10) F dL_ahead_10 ?_
    refine a_lastc (pc := 11) (kb := 4) (j := 0) (k := 0) (bs' := [bX11 y a0 z0_tape z0_tokens z0_hillReader z0_lawReader (a1 0) (a2 0) z0_diary (a3 0) z0_draft z0_spareDiary z0_guess z0_past z0_imageHill z0_imageRules z0_imageDiary v0, bX3 y a1 v1, bX5 y a2 a.2.1, bX3 y a3 a.2.2, bAL1 y a4 (vp_updL v4 0 (a.1).toInt64)]) F rfl rfl (by decide) (by decide) rfl dL_ahead_11 ?_
    refine a_goto (pc := 12) (tgt := 23) F dL_ahead_12 (by decide) ?_
    refine a_iconst (pc := 23) (v := 0) F dL_ahead_23 (by decide) ?_
    exact hret _ _ _ _ (Nat.le_of_ble_eq_true rfl) (Nat.le_of_ble_eq_true rfl) dL_ahead_24
  · replace hf := sm_inr hf
    by_cases h0 : x.1 = 2
    · replace hf := it_pos h0 hf
      obtain rfl := Option.some.inj hf
      have hM := x_X11_ahead l hlt D y ek n a0 a1 a2 a3 z0_tape z0_tokens z0_hillReader z0_lawReader z0_diary z0_draft z0_spareDiary z0_guess z0_past z0_imageHill z0_imageRules z0_imageDiary _ _ _ _ _ _ _ _ ht
      rw [h0] at hM
      refine a_callVc (pc := 7) (bs' := [bX11 y a0 z0_tape z0_tokens z0_hillReader z0_lawReader (a1 0) (a2 0) z0_diary (a3 0) z0_draft z0_spareDiary z0_guess z0_past z0_imageHill z0_imageRules z0_imageDiary v0, bX3 y a1 v1, bX5 y a2 x.2.1, bX3 y a3 x.2.2, bAL1 y a4 v4]) (kb := 0) (j := 0) F [0, 1, 2, 3] hM (cwV 3 F.1.2.2.2.2 (gV q6_8 q6_9 q6_10 q1_1 q6_11) rfl rfl rfl (by decide +kernel) ⟨Nat.le_of_ble_eq_true rfl, Nat.le_of_ble_eq_true rfl⟩) rfl rfl rfl rfl (by decide) rfl rfl rfl rfl rfl rfl (Nat.le_of_ble_eq_true rfl) ⟨Nat.le_of_ble_eq_true rfl, Nat.le_of_ble_eq_true rfl⟩ dL_ahead_7 [] ⟨0, 12, 15, 24⟩ [⟨0, 12, 19, 13⟩] (hxt.trans rfl) (fun z hz => absurd hz List.not_mem_nil) (by decide) (by decide) (nm := "java/lang/IndexOutOfBoundsException") (tl q4_147) ((F.2.2.2.2.2.2.2.2.2.2.2.2.1 "java/lang/IndexOutOfBoundsException" (by decide)).use rfl) (fun q9 => ?_)
      refine a_astore (pc := 15) (lv' := [(0, .ref (a0 0)), (1, .int x1), (2, .int x2), (3, .int x3), (4, .ref (a4 0))]) F [1, 2, 3, 4, 5] dL_ahead_15 (by decide) rfl ?_
      refine a_iconst (pc := 17) (v := 1) F dL_ahead_17 (by decide) ?_
      exact hret _ _ _ _ (Nat.le_of_ble_eq_true rfl) (Nat.le_of_ble_eq_true rfl) dL_ahead_18
    replace hf := it_neg h0 hf
    by_cases h1 : x.1 = 0
    · replace hf := it_pos h1 hf
      obtain rfl := Option.some.inj hf
      have hM := x_X11_ahead l hlt D y ek n a0 a1 a2 a3 z0_tape z0_tokens z0_hillReader z0_lawReader z0_diary z0_draft z0_spareDiary z0_guess z0_past z0_imageHill z0_imageRules z0_imageDiary _ _ _ _ _ _ _ _ ht
      rw [h1] at hM
      refine a_callVc (pc := 7) (bs' := [bX11 y a0 z0_tape z0_tokens z0_hillReader z0_lawReader (a1 0) (a2 0) z0_diary (a3 0) z0_draft z0_spareDiary z0_guess z0_past z0_imageHill z0_imageRules z0_imageDiary v0, bX3 y a1 v1, bX5 y a2 x.2.1, bX3 y a3 x.2.2, bAL1 y a4 v4]) (kb := 0) (j := 0) F [0, 1, 2, 3] hM (cwV 3 F.1.2.2.2.2 (gV q6_8 q6_9 q6_10 q1_1 q6_11) rfl rfl rfl (by decide +kernel) ⟨Nat.le_of_ble_eq_true rfl, Nat.le_of_ble_eq_true rfl⟩) rfl rfl rfl rfl (by decide) rfl rfl rfl rfl rfl rfl (Nat.le_of_ble_eq_true rfl) ⟨Nat.le_of_ble_eq_true rfl, Nat.le_of_ble_eq_true rfl⟩ dL_ahead_7 [⟨0, 12, 15, 24⟩] ⟨0, 12, 19, 13⟩ [] (hxt.trans rfl) (fun z hz => by rcases List.mem_singleton.mp hz with rfl; exact Or.inr ⟨by decide, "java/lang/IndexOutOfBoundsException", F.1.2.2.2.2 _ (tl q4_147), F.2.2.2.2.2.2.2.2.2.2.2.2.2.2.1 ("java/lang/IllegalArgumentException", "java/lang/IndexOutOfBoundsException") (by decide)⟩) (by decide) (by decide) (nm := "java/lang/IllegalArgumentException") (tl q3_96) ((F.2.2.2.2.2.2.2.2.2.2.2.2.1 "java/lang/IllegalArgumentException" (by decide)).use rfl) (fun q9 => ?_)
      refine a_astore (pc := 19) (lv' := [(0, .ref (a0 0)), (1, .int x1), (2, .int x2), (3, .int x3), (4, .ref (a4 0))]) F [1, 2, 3, 4, 5] dL_ahead_19 (by decide) rfl ?_
      refine a_iconst (pc := 21) (v := 2) F dL_ahead_21 (by decide) ?_
      exact hret _ _ _ _ (Nat.le_of_ble_eq_true rfl) (Nat.le_of_ble_eq_true rfl) dL_ahead_22
    replace hf := it_neg h1 hf
    cases hf

abbrev wL_trial : List Cond := Cond.codeWith yL_trial cL_trial 5 (some .int) [(0, 10, 13, 13)] :: WALL
def m_L_trial (n : Nat) (v0 : St) (v1 : St) (v2 : St) (v3 : St) (v4 : St) (v5 : Nat → Int64) (x1 : Int32) (x2 : Int32) : Option (Int32 × St × St × St × (Nat → Int64)) :=
  bd (m_X11_trial n v0 v1 v2 v3 v4 x1 x2) (fun t => sm t (fun a => some (0, a.2.1, a.2.2.1, a.2.2.2, vp_updL v5 0 (a.1).toInt64)) (fun x => (if x.1 = 0 then some (1, x.2.1, x.2.2.1, x.2.2.2, v5) else none)))
set_option maxHeartbeats 4000000 in
set_option maxRecDepth 100000 in
theorem c_L_trial (l : Launch) (hlt : l.stackTraces = false) (D : va_G) (y : Nat → ClassId) (ek : EK) (n : Nat) (a0 : Nat → Nat) (a1 : Nat → Nat) (a2 : Nat → Nat) (a3 : Nat → Nat) (a4 : Nat → Nat) (a5 : Nat → Nat) (z0_tape : Nat) (z0_tokens : Nat) (z0_hillReader : Nat) (z0_lawReader : Nat) (z0_diary : Nat) (z0_draft : Nat) (z0_guess : Nat) (z0_past : Nat) (z0_imageHill : Nat) (z0_imageRules : Nat) (z0_imageDiary : Nat) (v0 : St) (v1 : St) (v2 : St) (v3 : St) (v4 : St) (v5 : Nat → Int64) (x1 : Int32) (x2 : Int32) (res : Int32 × St × St × St × (Nat → Int64)) (hf : m_L_trial n v0 v1 v2 v3 v4 v5 x1 x2 = some res) : CI l yL_trial wL_trial { frames := 8, cells := 1, slots := 6, locals := 194 } D y ek [.ref (a0 0), .int x1, .int x2, .ref (a5 0)] [bX11 y a0 z0_tape z0_tokens z0_hillReader z0_lawReader (a1 0) (a2 0) z0_diary (a3 0) z0_draft (a4 0) z0_guess z0_past z0_imageHill z0_imageRules z0_imageDiary v0, bX3 y a1 v1, bX5 y a2 v2, bX3 y a3 v3, bX1 y a4 v4, bAL1 y a5 v5] (res.1) [bX11 y a0 z0_tape z0_tokens z0_hillReader z0_lawReader (a1 0) (a2 0) z0_diary (a3 0) z0_draft (a4 0) z0_guess z0_past z0_imageHill z0_imageRules z0_imageDiary v0, bX3 y a1 v1, bX5 y a2 res.2.1, bX3 y a3 res.2.2.1, bX1 y a4 res.2.2.2.1, bAL1 y a5 res.2.2.2.2] 1 6 := by
  unfold m_L_trial at hf
  refine ci_ofW (cc := cL_trial) (maxL := 5) (by decide) rfl rfl (Nat.le_of_ble_eq_true rfl) ?_
  intro p e s m below meth c Q A F hxt hret
  refine a_lv (lv' := [(0, .ref (a0 0)), (1, .int x1), (2, .int x2), (3, .ref (a5 0))]) rfl ?_
  obtain ⟨t, ht, hf⟩ := bd_some hf
  refine a_aloadn (pc := 0) (j := 3) F dL_trial_0 rfl rfl ?_
  refine a_iconst (pc := 1) (v := 0) F dL_trial_1 (by decide) ?_
  refine a_aloadn (pc := 2) (j := 0) F dL_trial_2 rfl rfl ?_
  refine a_iloadn (pc := 3) (j := 1) F dL_trial_3 rfl rfl ?_
  refine a_iloadn (pc := 4) (j := 2) F dL_trial_4 rfl rfl ?_
  rcases t with a | x
  · replace hf := sm_inl hf
    obtain rfl := Option.some.inj hf
    refine a_callV (pc := 5) (bs' := [bX11 y a0 z0_tape z0_tokens z0_hillReader z0_lawReader (a1 0) (a2 0) z0_diary (a3 0) z0_draft (a4 0) z0_guess z0_past z0_imageHill z0_imageRules z0_imageDiary v0, bX3 y a1 v1, bX5 y a2 a.2.1, bX3 y a3 a.2.2.1, bX1 y a4 a.2.2.2, bAL1 y a5 v5]) (kb := 0) (j := 0) F [0, 1, 2, 3, 4] (c_X11_trial l D y ek n a0 a1 a2 a3 a4 z0_tape z0_tokens z0_hillReader z0_lawReader z0_diary z0_draft z0_guess z0_past z0_imageHill z0_imageRules z0_imageDiary _ _ _ _ _ _ _ _ ht) (cwV 2 F.1.2.2.2.2 (gV q6_15 q6_16 q6_17 q1_1 q6_18) rfl rfl rfl (by decide +kernel) ⟨Nat.le_of_ble_eq_true rfl, Nat.le_of_ble_eq_true rfl⟩) rfl rfl rfl rfl (by decide) rfl rfl rfl rfl rfl rfl (Nat.le_of_ble_eq_true rfl) ⟨Nat.le_of_ble_eq_true rfl, Nat.le_of_ble_eq_true rfl⟩ dL_trial_5 ?_
    refine a_i2l (pc := 8) F dL_trial_8 ?_
    refine a_lastc (pc := 9) (kb := 5) (j := 0) (k := 0) (bs' := [bX11 y a0 z0_tape z0_tokens z0_hillReader z0_lawReader (a1 0) (a2 0) z0_diary (a3 0) z0_draft (a4 0) z0_guess z0_past z0_imageHill z0_imageRules z0_imageDiary v0, bX3 y a1 v1, bX5 y a2 a.2.1, bX3 y a3 a.2.2.1, bX1 y a4 a.2.2.2, bAL1 y a5 (vp_updL v5 0 (a.1).toInt64)]) F rfl rfl (by decide) (by decide) rfl dL_trial_9 ?_
    refine a_goto (pc := 10) (tgt := 17) F dL_trial_10 (by decide) ?_
    refine a_iconst (pc := 17) (v := 0) F dL_trial_17 (by decide) ?_
    exact hret _ _ _ _ (Nat.le_of_ble_eq_true rfl) (Nat.le_of_ble_eq_true rfl) dL_trial_18
  · replace hf := sm_inr hf
    by_cases h0 : x.1 = 0
    · replace hf := it_pos h0 hf
      obtain rfl := Option.some.inj hf
      have hM := x_X11_trial l hlt D y ek n a0 a1 a2 a3 a4 z0_tape z0_tokens z0_hillReader z0_lawReader z0_diary z0_draft z0_guess z0_past z0_imageHill z0_imageRules z0_imageDiary _ _ _ _ _ _ _ _ ht
      rw [h0] at hM
      refine a_callVc (pc := 5) (bs' := [bX11 y a0 z0_tape z0_tokens z0_hillReader z0_lawReader (a1 0) (a2 0) z0_diary (a3 0) z0_draft (a4 0) z0_guess z0_past z0_imageHill z0_imageRules z0_imageDiary v0, bX3 y a1 v1, bX5 y a2 x.2.1, bX3 y a3 x.2.2.1, bX1 y a4 x.2.2.2, bAL1 y a5 v5]) (kb := 0) (j := 0) F [0, 1, 2, 3, 4] hM (cwV 2 F.1.2.2.2.2 (gV q6_15 q6_16 q6_17 q1_1 q6_18) rfl rfl rfl (by decide +kernel) ⟨Nat.le_of_ble_eq_true rfl, Nat.le_of_ble_eq_true rfl⟩) rfl rfl rfl rfl (by decide) rfl rfl rfl rfl rfl rfl (Nat.le_of_ble_eq_true rfl) ⟨Nat.le_of_ble_eq_true rfl, Nat.le_of_ble_eq_true rfl⟩ dL_trial_5 [] ⟨0, 10, 13, 13⟩ [] (hxt.trans rfl) (fun z hz => absurd hz List.not_mem_nil) (by decide) (by decide) (nm := "java/lang/IllegalArgumentException") (tl q3_96) ((F.2.2.2.2.2.2.2.2.2.2.2.2.1 "java/lang/IllegalArgumentException" (by decide)).use rfl) (fun q9 => ?_)
      refine a_astore (pc := 13) (lv' := [(0, .ref (a0 0)), (1, .int x1), (2, .int x2), (3, .ref (a5 0))]) F [1, 2, 3, 4] dL_trial_13 (by decide) rfl ?_
      refine a_iconst (pc := 15) (v := 1) F dL_trial_15 (by decide) ?_
      exact hret _ _ _ _ (Nat.le_of_ble_eq_true rfl) (Nat.le_of_ble_eq_true rfl) dL_trial_16
    replace hf := it_neg h0 hf
    cases hf

abbrev wL_span : List Cond := Cond.codeWith yL_span cL_span 5 (some .int) [(0, 10, 13, 13)] :: WALL
def m_L_span (n : Nat) (v0 : St) (v1 : St) (v2 : St) (v3 : St) (v4 : St) (v5 : Nat → Int64) (x1 : Int32) (x2 : Int32) : Option (Int32 × St × St × St × (Nat → Int64)) :=
  bd (m_X11_span n v0 v1 v2 v3 v4 x1 x2) (fun t => sm t (fun a => some (0, a.2.1, a.2.2.1, a.2.2.2, vp_updL v5 0 (a.1).toInt64)) (fun x => (if x.1 = 0 then some (1, x.2.1, x.2.2.1, x.2.2.2, v5) else none)))
set_option maxHeartbeats 4000000 in
set_option maxRecDepth 100000 in
theorem c_L_span (l : Launch) (hlt : l.stackTraces = false) (D : va_G) (y : Nat → ClassId) (ek : EK) (n : Nat) (a0 : Nat → Nat) (a1 : Nat → Nat) (a2 : Nat → Nat) (a3 : Nat → Nat) (a4 : Nat → Nat) (a5 : Nat → Nat) (z0_tape : Nat) (z0_tokens : Nat) (z0_hillReader : Nat) (z0_lawReader : Nat) (z0_diary : Nat) (z0_draft : Nat) (z0_guess : Nat) (z0_past : Nat) (z0_imageHill : Nat) (z0_imageRules : Nat) (z0_imageDiary : Nat) (v0 : St) (v1 : St) (v2 : St) (v3 : St) (v4 : St) (v5 : Nat → Int64) (x1 : Int32) (x2 : Int32) (res : Int32 × St × St × St × (Nat → Int64)) (hf : m_L_span n v0 v1 v2 v3 v4 v5 x1 x2 = some res) : CI l yL_span wL_span { frames := 8, cells := 1, slots := 6, locals := 198 } D y ek [.ref (a0 0), .int x1, .int x2, .ref (a5 0)] [bX11 y a0 z0_tape z0_tokens z0_hillReader z0_lawReader (a1 0) (a2 0) z0_diary (a3 0) z0_draft (a4 0) z0_guess z0_past z0_imageHill z0_imageRules z0_imageDiary v0, bX3 y a1 v1, bX5 y a2 v2, bX3 y a3 v3, bX1 y a4 v4, bAL1 y a5 v5] (res.1) [bX11 y a0 z0_tape z0_tokens z0_hillReader z0_lawReader (a1 0) (a2 0) z0_diary (a3 0) z0_draft (a4 0) z0_guess z0_past z0_imageHill z0_imageRules z0_imageDiary v0, bX3 y a1 v1, bX5 y a2 res.2.1, bX3 y a3 res.2.2.1, bX1 y a4 res.2.2.2.1, bAL1 y a5 res.2.2.2.2] 1 6 := by
  unfold m_L_span at hf
  refine ci_ofW (cc := cL_span) (maxL := 5) (by decide) rfl rfl (Nat.le_of_ble_eq_true rfl) ?_
  intro p e s m below meth c Q A F hxt hret
  refine a_lv (lv' := [(0, .ref (a0 0)), (1, .int x1), (2, .int x2), (3, .ref (a5 0))]) rfl ?_
  obtain ⟨t, ht, hf⟩ := bd_some hf
  refine a_aloadn (pc := 0) (j := 3) F dL_span_0 rfl rfl ?_
  refine a_iconst (pc := 1) (v := 0) F dL_span_1 (by decide) ?_
  refine a_aloadn (pc := 2) (j := 0) F dL_span_2 rfl rfl ?_
  refine a_iloadn (pc := 3) (j := 1) F dL_span_3 rfl rfl ?_
  refine a_iloadn (pc := 4) (j := 2) F dL_span_4 rfl rfl ?_
  rcases t with a | x
  · replace hf := sm_inl hf
    obtain rfl := Option.some.inj hf
    refine a_callV (pc := 5) (bs' := [bX11 y a0 z0_tape z0_tokens z0_hillReader z0_lawReader (a1 0) (a2 0) z0_diary (a3 0) z0_draft (a4 0) z0_guess z0_past z0_imageHill z0_imageRules z0_imageDiary v0, bX3 y a1 v1, bX5 y a2 a.2.1, bX3 y a3 a.2.2.1, bX1 y a4 a.2.2.2, bAL1 y a5 v5]) (kb := 0) (j := 0) F [0, 1, 2, 3, 4] (c_X11_span l D y ek n a0 a1 a2 a3 a4 z0_tape z0_tokens z0_hillReader z0_lawReader z0_diary z0_draft z0_guess z0_past z0_imageHill z0_imageRules z0_imageDiary _ _ _ _ _ _ _ _ ht) (cwV 2 F.1.2.2.2.2 (gV q6_26 q6_27 q6_28 q1_1 q6_29) rfl rfl rfl (by decide +kernel) ⟨Nat.le_of_ble_eq_true rfl, Nat.le_of_ble_eq_true rfl⟩) rfl rfl rfl rfl (by decide) rfl rfl rfl rfl rfl rfl (Nat.le_of_ble_eq_true rfl) ⟨Nat.le_of_ble_eq_true rfl, Nat.le_of_ble_eq_true rfl⟩ dL_span_5 ?_
    refine a_i2l (pc := 8) F dL_span_8 ?_
    refine a_lastc (pc := 9) (kb := 5) (j := 0) (k := 0) (bs' := [bX11 y a0 z0_tape z0_tokens z0_hillReader z0_lawReader (a1 0) (a2 0) z0_diary (a3 0) z0_draft (a4 0) z0_guess z0_past z0_imageHill z0_imageRules z0_imageDiary v0, bX3 y a1 v1, bX5 y a2 a.2.1, bX3 y a3 a.2.2.1, bX1 y a4 a.2.2.2, bAL1 y a5 (vp_updL v5 0 (a.1).toInt64)]) F rfl rfl (by decide) (by decide) rfl dL_span_9 ?_
    refine a_goto (pc := 10) (tgt := 17) F dL_span_10 (by decide) ?_
    refine a_iconst (pc := 17) (v := 0) F dL_span_17 (by decide) ?_
    exact hret _ _ _ _ (Nat.le_of_ble_eq_true rfl) (Nat.le_of_ble_eq_true rfl) dL_span_18
  · replace hf := sm_inr hf
    by_cases h0 : x.1 = 0
    · replace hf := it_pos h0 hf
      obtain rfl := Option.some.inj hf
      have hM := x_X11_span l hlt D y ek n a0 a1 a2 a3 a4 z0_tape z0_tokens z0_hillReader z0_lawReader z0_diary z0_draft z0_guess z0_past z0_imageHill z0_imageRules z0_imageDiary _ _ _ _ _ _ _ _ ht
      rw [h0] at hM
      refine a_callVc (pc := 5) (bs' := [bX11 y a0 z0_tape z0_tokens z0_hillReader z0_lawReader (a1 0) (a2 0) z0_diary (a3 0) z0_draft (a4 0) z0_guess z0_past z0_imageHill z0_imageRules z0_imageDiary v0, bX3 y a1 v1, bX5 y a2 x.2.1, bX3 y a3 x.2.2.1, bX1 y a4 x.2.2.2, bAL1 y a5 v5]) (kb := 0) (j := 0) F [0, 1, 2, 3, 4] hM (cwV 2 F.1.2.2.2.2 (gV q6_26 q6_27 q6_28 q1_1 q6_29) rfl rfl rfl (by decide +kernel) ⟨Nat.le_of_ble_eq_true rfl, Nat.le_of_ble_eq_true rfl⟩) rfl rfl rfl rfl (by decide) rfl rfl rfl rfl rfl rfl (Nat.le_of_ble_eq_true rfl) ⟨Nat.le_of_ble_eq_true rfl, Nat.le_of_ble_eq_true rfl⟩ dL_span_5 [] ⟨0, 10, 13, 13⟩ [] (hxt.trans rfl) (fun z hz => absurd hz List.not_mem_nil) (by decide) (by decide) (nm := "java/lang/IllegalArgumentException") (tl q3_96) ((F.2.2.2.2.2.2.2.2.2.2.2.2.1 "java/lang/IllegalArgumentException" (by decide)).use rfl) (fun q9 => ?_)
      refine a_astore (pc := 13) (lv' := [(0, .ref (a0 0)), (1, .int x1), (2, .int x2), (3, .ref (a5 0))]) F [1, 2, 3, 4] dL_span_13 (by decide) rfl ?_
      refine a_iconst (pc := 15) (v := 1) F dL_span_15 (by decide) ?_
      exact hret _ _ _ _ (Nat.le_of_ble_eq_true rfl) (Nat.le_of_ble_eq_true rfl) dL_span_16
    replace hf := it_neg h0 hf
    cases hf

abbrev wL_led : List Cond := Cond.codeWith yL_led cL_led 5 (some .int) [(0, 10, 13, 24)] :: WALL
def m_L_led (n : Nat) (v0 : St) (v1 : St) (v2 : St) (v3 : Nat → Int64) (x1 : Int32) (x2 : Int32) : Option (Int32 × (Nat → Int64)) :=
  bd (m_X11_led n v0 v1 v2 x1 x2) (fun t => sm t (fun a => some (0, vp_updL v3 0 (a).toInt64)) (fun x => (if x = 2 then some (1, v3) else none)))
set_option maxHeartbeats 4000000 in
set_option maxRecDepth 100000 in
theorem c_L_led (l : Launch) (hlt : l.stackTraces = false) (D : va_G) (y : Nat → ClassId) (ek : EK) (n : Nat) (a0 : Nat → Nat) (a1 : Nat → Nat) (a2 : Nat → Nat) (a3 : Nat → Nat) (z0_tape : Nat) (z0_tokens : Nat) (z0_hillReader : Nat) (z0_lawReader : Nat) (z0_rules : Nat) (z0_spare : Nat) (z0_draft : Nat) (z0_spareDiary : Nat) (z0_guess : Nat) (z0_past : Nat) (z0_imageHill : Nat) (z0_imageRules : Nat) (z0_imageDiary : Nat) (v0 : St) (v1 : St) (v2 : St) (v3 : Nat → Int64) (x1 : Int32) (x2 : Int32) (res : Int32 × (Nat → Int64)) (hf : m_L_led n v0 v1 v2 v3 x1 x2 = some res) : CI l yL_led wL_led { frames := 8, cells := 1, slots := 6, locals := 125 } D y ek [.ref (a0 0), .int x1, .int x2, .ref (a3 0)] [bX11 y a0 z0_tape z0_tokens z0_hillReader z0_lawReader (a1 0) z0_rules (a2 0) z0_spare z0_draft z0_spareDiary z0_guess z0_past z0_imageHill z0_imageRules z0_imageDiary v0, bX3 y a1 v1, bX1 y a2 v2, bAL1 y a3 v3] (res.1) [bX11 y a0 z0_tape z0_tokens z0_hillReader z0_lawReader (a1 0) z0_rules (a2 0) z0_spare z0_draft z0_spareDiary z0_guess z0_past z0_imageHill z0_imageRules z0_imageDiary v0, bX3 y a1 v1, bX1 y a2 v2, bAL1 y a3 res.2] 1 6 := by
  unfold m_L_led at hf
  refine ci_ofW (cc := cL_led) (maxL := 5) (by decide) rfl rfl (Nat.le_of_ble_eq_true rfl) ?_
  intro p e s m below meth c Q A F hxt hret
  refine a_lv (lv' := [(0, .ref (a0 0)), (1, .int x1), (2, .int x2), (3, .ref (a3 0))]) rfl ?_
  obtain ⟨t, ht, hf⟩ := bd_some hf
  refine a_aloadn (pc := 0) (j := 3) F dL_led_0 rfl rfl ?_
  refine a_iconst (pc := 1) (v := 0) F dL_led_1 (by decide) ?_
  refine a_aloadn (pc := 2) (j := 0) F dL_led_2 rfl rfl ?_
  refine a_iloadn (pc := 3) (j := 1) F dL_led_3 rfl rfl ?_
  refine a_iloadn (pc := 4) (j := 2) F dL_led_4 rfl rfl ?_
  rcases t with a | x
  · replace hf := sm_inl hf
    obtain rfl := Option.some.inj hf
    refine a_callV (pc := 5) (bs' := [bX11 y a0 z0_tape z0_tokens z0_hillReader z0_lawReader (a1 0) z0_rules (a2 0) z0_spare z0_draft z0_spareDiary z0_guess z0_past z0_imageHill z0_imageRules z0_imageDiary v0, bX3 y a1 v1, bX1 y a2 v2, bAL1 y a3 v3]) (kb := 0) (j := 0) F [0, 1, 2] (c_X11_led l D y ek n a0 a1 a2 z0_tape z0_tokens z0_hillReader z0_lawReader z0_rules z0_spare z0_draft z0_spareDiary z0_guess z0_past z0_imageHill z0_imageRules z0_imageDiary _ _ _ _ _ _ ht) (cwV 2 F.1.2.2.2.2 (gV q6_34 q6_35 q6_36 q1_1 q6_37) rfl rfl rfl (by decide +kernel) ⟨Nat.le_of_ble_eq_true rfl, Nat.le_of_ble_eq_true rfl⟩) rfl rfl rfl rfl (by decide) rfl rfl rfl rfl rfl rfl (Nat.le_of_ble_eq_true rfl) ⟨Nat.le_of_ble_eq_true rfl, Nat.le_of_ble_eq_true rfl⟩ dL_led_5 ?_
    refine a_i2l (pc := 8) F dL_led_8 ?_
    refine a_lastc (pc := 9) (kb := 3) (j := 0) (k := 0) (bs' := [bX11 y a0 z0_tape z0_tokens z0_hillReader z0_lawReader (a1 0) z0_rules (a2 0) z0_spare z0_draft z0_spareDiary z0_guess z0_past z0_imageHill z0_imageRules z0_imageDiary v0, bX3 y a1 v1, bX1 y a2 v2, bAL1 y a3 (vp_updL v3 0 (a).toInt64)]) F rfl rfl (by decide) (by decide) rfl dL_led_9 ?_
    refine a_goto (pc := 10) (tgt := 17) F dL_led_10 (by decide) ?_
    refine a_iconst (pc := 17) (v := 0) F dL_led_17 (by decide) ?_
    exact hret _ _ _ _ (Nat.le_of_ble_eq_true rfl) (Nat.le_of_ble_eq_true rfl) dL_led_18
  · replace hf := sm_inr hf
    by_cases h0 : x = 2
    · replace hf := it_pos h0 hf
      obtain rfl := Option.some.inj hf
      have hM := x_X11_led l hlt D y ek n a0 a1 a2 z0_tape z0_tokens z0_hillReader z0_lawReader z0_rules z0_spare z0_draft z0_spareDiary z0_guess z0_past z0_imageHill z0_imageRules z0_imageDiary _ _ _ _ _ _ ht
      rw [h0] at hM
      refine a_callVc (pc := 5) (bs' := [bX11 y a0 z0_tape z0_tokens z0_hillReader z0_lawReader (a1 0) z0_rules (a2 0) z0_spare z0_draft z0_spareDiary z0_guess z0_past z0_imageHill z0_imageRules z0_imageDiary v0, bX3 y a1 v1, bX1 y a2 v2, bAL1 y a3 v3]) (kb := 0) (j := 0) F [0, 1, 2] hM (cwV 2 F.1.2.2.2.2 (gV q6_34 q6_35 q6_36 q1_1 q6_37) rfl rfl rfl (by decide +kernel) ⟨Nat.le_of_ble_eq_true rfl, Nat.le_of_ble_eq_true rfl⟩) rfl rfl rfl rfl (by decide) rfl rfl rfl rfl rfl rfl (Nat.le_of_ble_eq_true rfl) ⟨Nat.le_of_ble_eq_true rfl, Nat.le_of_ble_eq_true rfl⟩ dL_led_5 [] ⟨0, 10, 13, 24⟩ [] (hxt.trans rfl) (fun z hz => absurd hz List.not_mem_nil) (by decide) (by decide) (nm := "java/lang/IndexOutOfBoundsException") (tl q4_147) ((F.2.2.2.2.2.2.2.2.2.2.2.2.1 "java/lang/IndexOutOfBoundsException" (by decide)).use rfl) (fun q9 => ?_)
      refine a_astore (pc := 13) (lv' := [(0, .ref (a0 0)), (1, .int x1), (2, .int x2), (3, .ref (a3 0))]) F [1, 2, 3, 4] dL_led_13 (by decide) rfl ?_
      refine a_iconst (pc := 15) (v := 1) F dL_led_15 (by decide) ?_
      exact hret _ _ _ _ (Nat.le_of_ble_eq_true rfl) (Nat.le_of_ble_eq_true rfl) dL_led_16
    replace hf := it_neg h0 hf
    cases hf

abbrev wL_log : List Cond := Cond.codeWith yL_log cL_log 5 (some .int) [(0, 10, 13, 26)] :: WALL
def m_L_log (n : Nat) (v0 : St) (v1 : St) (v2 : Nat → Int64) (x1 : Int32) (x2 : Int32) : Option (Int32 × (Nat → Int64)) :=
  bd (m_X11_log n v0 v1 x1 x2) (fun t => sm t (fun a => some (0, vp_updL v2 0 (a).toInt64)) (fun x => (if x = 3 then some (1, v2) else none)))
set_option maxHeartbeats 4000000 in
set_option maxRecDepth 100000 in
theorem c_L_log (l : Launch) (hlt : l.stackTraces = false) (D : va_G) (y : Nat → ClassId) (ek : EK) (n : Nat) (a0 : Nat → Nat) (a1 : Nat → Nat) (a2 : Nat → Nat) (z0_tape : Nat) (z0_tokens : Nat) (z0_hillReader : Nat) (z0_lawReader : Nat) (z0_now : Nat) (z0_rules : Nat) (z0_spare : Nat) (z0_draft : Nat) (z0_spareDiary : Nat) (z0_guess : Nat) (z0_past : Nat) (z0_imageHill : Nat) (z0_imageRules : Nat) (z0_imageDiary : Nat) (v0 : St) (v1 : St) (v2 : Nat → Int64) (x1 : Int32) (x2 : Int32) (res : Int32 × (Nat → Int64)) (hf : m_L_log n v0 v1 v2 x1 x2 = some res) : CI l yL_log wL_log { frames := 7, cells := 1, slots := 6, locals := 104 } D y ek [.ref (a0 0), .int x1, .int x2, .ref (a2 0)] [bX11 y a0 z0_tape z0_tokens z0_hillReader z0_lawReader z0_now z0_rules (a1 0) z0_spare z0_draft z0_spareDiary z0_guess z0_past z0_imageHill z0_imageRules z0_imageDiary v0, bX1 y a1 v1, bAL1 y a2 v2] (res.1) [bX11 y a0 z0_tape z0_tokens z0_hillReader z0_lawReader z0_now z0_rules (a1 0) z0_spare z0_draft z0_spareDiary z0_guess z0_past z0_imageHill z0_imageRules z0_imageDiary v0, bX1 y a1 v1, bAL1 y a2 res.2] 1 6 := by
  unfold m_L_log at hf
  refine ci_ofW (cc := cL_log) (maxL := 5) (by decide) rfl rfl (Nat.le_of_ble_eq_true rfl) ?_
  intro p e s m below meth c Q A F hxt hret
  refine a_lv (lv' := [(0, .ref (a0 0)), (1, .int x1), (2, .int x2), (3, .ref (a2 0))]) rfl ?_
  obtain ⟨t, ht, hf⟩ := bd_some hf
  refine a_aloadn (pc := 0) (j := 3) F dL_log_0 rfl rfl ?_
  refine a_iconst (pc := 1) (v := 0) F dL_log_1 (by decide) ?_
  refine a_aloadn (pc := 2) (j := 0) F dL_log_2 rfl rfl ?_
  refine a_iloadn (pc := 3) (j := 1) F dL_log_3 rfl rfl ?_
  refine a_iloadn (pc := 4) (j := 2) F dL_log_4 rfl rfl ?_
  rcases t with a | x
  · replace hf := sm_inl hf
    obtain rfl := Option.some.inj hf
    refine a_callV (pc := 5) (bs' := [bX11 y a0 z0_tape z0_tokens z0_hillReader z0_lawReader z0_now z0_rules (a1 0) z0_spare z0_draft z0_spareDiary z0_guess z0_past z0_imageHill z0_imageRules z0_imageDiary v0, bX1 y a1 v1, bAL1 y a2 v2]) (kb := 0) (j := 0) F [0, 1] (c_X11_log l D y ek n a0 a1 z0_tape z0_tokens z0_hillReader z0_lawReader z0_now z0_rules z0_spare z0_draft z0_spareDiary z0_guess z0_past z0_imageHill z0_imageRules z0_imageDiary _ _ _ _ _ ht) (cwV 2 F.1.2.2.2.2 (gV q6_53 q6_54 q6_55 q1_1 q6_56) rfl rfl rfl (by decide +kernel) ⟨Nat.le_of_ble_eq_true rfl, Nat.le_of_ble_eq_true rfl⟩) rfl rfl rfl rfl (by decide) rfl rfl rfl rfl rfl rfl (Nat.le_of_ble_eq_true rfl) ⟨Nat.le_of_ble_eq_true rfl, Nat.le_of_ble_eq_true rfl⟩ dL_log_5 ?_
    refine a_i2l (pc := 8) F dL_log_8 ?_
    refine a_lastc (pc := 9) (kb := 2) (j := 0) (k := 0) (bs' := [bX11 y a0 z0_tape z0_tokens z0_hillReader z0_lawReader z0_now z0_rules (a1 0) z0_spare z0_draft z0_spareDiary z0_guess z0_past z0_imageHill z0_imageRules z0_imageDiary v0, bX1 y a1 v1, bAL1 y a2 (vp_updL v2 0 (a).toInt64)]) F rfl rfl (by decide) (by decide) rfl dL_log_9 ?_
    refine a_goto (pc := 10) (tgt := 17) F dL_log_10 (by decide) ?_
    refine a_iconst (pc := 17) (v := 0) F dL_log_17 (by decide) ?_
    exact hret _ _ _ _ (Nat.le_of_ble_eq_true rfl) (Nat.le_of_ble_eq_true rfl) dL_log_18
  · replace hf := sm_inr hf
    by_cases h0 : x = 3
    · replace hf := it_pos h0 hf
      obtain rfl := Option.some.inj hf
      have hM := x_X11_log l hlt D y ek n a0 a1 z0_tape z0_tokens z0_hillReader z0_lawReader z0_now z0_rules z0_spare z0_draft z0_spareDiary z0_guess z0_past z0_imageHill z0_imageRules z0_imageDiary _ _ _ _ _ ht
      rw [h0] at hM
      refine a_callVc (pc := 5) (bs' := [bX11 y a0 z0_tape z0_tokens z0_hillReader z0_lawReader z0_now z0_rules (a1 0) z0_spare z0_draft z0_spareDiary z0_guess z0_past z0_imageHill z0_imageRules z0_imageDiary v0, bX1 y a1 v1, bAL1 y a2 v2]) (kb := 0) (j := 0) F [0, 1] hM (cwV 2 F.1.2.2.2.2 (gV q6_53 q6_54 q6_55 q1_1 q6_56) rfl rfl rfl (by decide +kernel) ⟨Nat.le_of_ble_eq_true rfl, Nat.le_of_ble_eq_true rfl⟩) rfl rfl rfl rfl (by decide) rfl rfl rfl rfl rfl rfl (Nat.le_of_ble_eq_true rfl) ⟨Nat.le_of_ble_eq_true rfl, Nat.le_of_ble_eq_true rfl⟩ dL_log_5 [] ⟨0, 10, 13, 26⟩ [] (hxt.trans rfl) (fun z hz => absurd hz List.not_mem_nil) (by decide) (by decide) (nm := "java/util/NoSuchElementException") (tl q4_148) ((F.2.2.2.2.2.2.2.2.2.2.2.2.1 "java/util/NoSuchElementException" (by decide)).use rfl) (fun q9 => ?_)
      refine a_astore (pc := 13) (lv' := [(0, .ref (a0 0)), (1, .int x1), (2, .int x2), (3, .ref (a2 0))]) F [1, 2, 3, 4] dL_log_13 (by decide) rfl ?_
      refine a_iconst (pc := 15) (v := 1) F dL_log_15 (by decide) ?_
      exact hret _ _ _ _ (Nat.le_of_ble_eq_true rfl) (Nat.le_of_ble_eq_true rfl) dL_log_16
    replace hf := it_neg h0 hf
    cases hf
