/-- a contract: called so, in these blocks, it throws E, and the blocks are those -/
def CX (l : Launch) (y : MethodName) (ws : List Cond) (rm : Room) (D : va_G) (ty : Nat → ClassId) (ek : EK) (as : List Value) (bs0 : List va_W) (E : String) (bs1 : List va_W) (mc ms : Nat) : Prop :=
  ∀ sz : Nat, vx_Met l y ws rm (va_Pc as (fun U => U.heap.size = sz ∧ va_P D vwCl bs0.flatten U.heap ∧ va_K D vwCl (tyG ty) U ∧ va_D (fun _ => True) bs0.flatten ∧ EV ek (va_A bs0.flatten sz) U U.heap)) (fun _ _ _ _ => False) (vx_X (fun _ : Unit => True) (fun E' _ t => E' = E ∧ va_P D vwCl bs1.flatten t.heap ∧ va_K D vwCl (tyG ty) t ∧ va_D (va_A bs0.flatten sz) bs1.flatten) (va_A bs0.flatten sz)) mc ms (va_A bs0.flatten sz)
def sm {α β ρ : Type} (t : α ⊕ β) (f : α → Option ρ) (g : β → Option ρ) : Option ρ := match t with
  | .inl a => f a
  | .inr b => g b
theorem sm_inl {α β ρ : Type} {a : α} {f : α → Option ρ} {g : β → Option ρ} {r : ρ} (h : sm (.inl a) f g = some r) : f a = some r := h
theorem sm_inr {α β ρ : Type} {b : β} {f : α → Option ρ} {g : β → Option ρ} {r : ρ} (h : sm (.inr b) f g = some r) : g b = some r := h
abbrev xB (E : String) : List Cond := [Cond.castable E E, Cond.declares (Bundle.init0 "java/lang/RuntimeException"), Cond.declares (Bundle.init0 "java/lang/Exception"), Cond.declares (Bundle.init0 "java/lang/Throwable")]
abbrev xN : List String := ["java/lang/RuntimeException", "java/lang/Exception"]
section XWORDS
theorem xg_0 : ∀ w ∈ (vx_at0 RX11 129 "java/lang/IllegalArgumentException" xN).filter goodWord, w ∈ lw_tbl := by decide +kernel
theorem xg_1 : ∀ w ∈ (vx_at0 RX11 132 "java/lang/UnsupportedOperationException" xN).filter goodWord, w ∈ lw_tbl := by decide +kernel
theorem xg_2 : ∀ w ∈ (vx_at0 RX11 154 "java/lang/IndexOutOfBoundsException" xN).filter goodWord, w ∈ lw_tbl := by decide +kernel
theorem xg_3 : ∀ w ∈ (vx_at0 RX11 192 "java/util/NoSuchElementException" xN).filter goodWord, w ∈ lw_tbl := by decide +kernel
theorem xg_4 : ∀ w ∈ (vx_at0 RX11 237 "java/lang/IllegalStateException" xN).filter goodWord, w ∈ lw_tbl := by decide +kernel
theorem xb_0 : ∀ w ∈ (vx_at0 RX11 129 "java/lang/IllegalArgumentException" xN).filter (fun w => !goodWord w), w ∈ xB "java/lang/IllegalArgumentException" := by decide +kernel
theorem xb_1 : ∀ w ∈ (vx_at0 RX11 132 "java/lang/UnsupportedOperationException" xN).filter (fun w => !goodWord w), w ∈ xB "java/lang/UnsupportedOperationException" := by decide +kernel
theorem xb_2 : ∀ w ∈ (vx_at0 RX11 154 "java/lang/IndexOutOfBoundsException" xN).filter (fun w => !goodWord w), w ∈ xB "java/lang/IndexOutOfBoundsException" := by decide +kernel
theorem xb_3 : ∀ w ∈ (vx_at0 RX11 192 "java/util/NoSuchElementException" xN).filter (fun w => !goodWord w), w ∈ xB "java/util/NoSuchElementException" := by decide +kernel
theorem xb_4 : ∀ w ∈ (vx_at0 RX11 237 "java/lang/IllegalStateException" xN).filter (fun w => !goodWord w), w ∈ xB "java/lang/IllegalStateException" := by decide +kernel
end XWORDS
/-- what a throw of E with these places of the pool stands on, among the tables' words -/
def XW (ik ic : Nat) (E : String) : Prop :=
  Bundle.fit E = true ∧ E ∈ eX ∧ Cond.classLink RX11 ik E ∈ WALL ∧ Cond.initialized E ∈ WALL ∧ (∀ w ∈ (vx_at0 RX11 ic E xN).filter goodWord, w ∈ lw_tbl) ∧ (∀ w ∈ (vx_at0 RX11 ic E xN).filter (fun w => !goodWord w), w ∈ xB E) ∧ (∀ w ∈ Cond.classLink RX11 ik E :: Cond.initialized E :: vx_at0 RX11 ic E xN, vx_ot w = true)
section EXC
variable {p : Program} {l : Launch} {e : Env} {R : Room} {s : State} {m : MethodId} {args : Array Value} {below : List Frame} {meth : Method} {c : Code} {Q : State → Prop} {D : va_G} {y : Nat → ClassId} {ek : EK} {A : Nat → Prop} {nL cells slots pc : Nat} {cc : ByteArray} {own : String} {Ts : List Cond} {lv : List (Nat × Value)} {st : List Value} {bs : List va_W}
variable {y0 : MethodName} {ws : List Cond} {rm : Room} {bs0 bs1 bs' : List va_W} {bytes : ByteArray} {maxL n index mc ms : Nat} {ret : Option FieldType} {C : String} {b : Nat} {As : List Value} {E : String}
/-- a call that throws: what stands there is told to 'out' -/
theorem a_callVx (F : Fx p s m args c cc own Ts nL D y ek A) (ks : List Nat) (hM : CX l y0 ws rm D y ek (.ref b :: As) bs0 E bs1 mc ms) (cw : CallW R s args own C index y0 bytes maxL ret ws rm mc ms n)
    {kb j ci : Nat} {b0 : va_W} {q : vw_C} {fs : List Value} (hb : bs[kb]? = some b0) (hj : b0[j]? = some (b, .inr (ci, fs))) (hc : vwCl[ci]? = some q) (hC : q.1 = C)
    (hn : va_nd ks = true) (hk0 : ks.all (fun k => Nat.blt k bs.length) = true) (hl1 : bs1.length = ks.length) (hs : sB bs ks = bs0) (hbs : pB bs ks bs1 = bs')
    (hAs : As.length = n) {st0 : List Value} (hst : st0 = As.reverse ++ .ref b :: st) (hW : (st.map fun v => v.category).sum ≤ 8) (hf : cells + mc ≤ R.cells ∧ slots + ms ≤ R.slots) (hd : decode cc pc = .ok (.invokevirtual index, 3))
    (out : ∀ (H1 : Heap) (locs1 : List Loc) (ls : Array Slot) (q9 : Addr) (ce : Cell), va_P D vwCl bs'.flatten H1 → va_D A bs'.flatten → va_S A s.heap H1 locs1 → lv_has ls nL lv → H1[q9]? = some ce → ce.vm = .none → s.vm.findClass E = some ce.cls → vx_W p l e R s m args below meth c H1 locs1 (cells + mc) (slots + ms) Q (F0 m pc ls st) q9) : At p l e R s m args below meth c Q D A nL cells slots pc lv st0 bs := by
  intro H locs ls hP hD hS hl
  have hk := b_all hk0
  obtain ⟨hPc, hDc, hF⟩ := b_cut hP hD hS F.2.2.1 hn hk hs
  obtain ⟨i0, h0⟩ := fl_at hb hj
  intro T hT X
  have hrun := vx_runV (As := As) (rest := st) (g := F0 m pc ls st0) (locs := locs) (cells := cells) (slots := slots) (e := e) (below := below) (meth := meth) F.1 (hM H.size) cw ⟨pc_blind, (by have := va_recv F.2.1 hP hc h0; rw [hC] at this; exact this), fun U hU hW => ⟨rfl, by rw [hU], by rw [hU]; exact b_left hPc, va_K.moved hW.alike F.2.1, b_leftD hDc, F.2.2.2.call hS hW hU hF⟩⟩ rfl hAs hl.1 hst (lv_room hW) hd hf
  rcases hrun T hT X with ⟨v, st₀, t, T', L, h0, X', hL, e1, e2, hq, st⟩ | ⟨q9, st₀, t, T', L, E', ce, h0, X', hL, e1, e2, ⟨u, -, ⟨hE, hP1, hK1, hD1⟩, hz, hk1⟩, hce, hcv, hcl, st⟩
  · exact hq.elim
  · subst hE
    rw [h0] at hz hk1
    rw [← e1] at hP1 hce
    have hk2 : ∀ q : Nat, q < H.size → ¬ va_A bs0.flatten H.size q → T'.heap[q]? = H[q]? := fun q h1 h2 => by rw [e1]; exact hk1 q h1 h2
    obtain ⟨g1, g2⟩ := b_back hPc hDc hF hn hk hl1 hk2 hP1 hD1
    rw [hbs] at g1 g2
    have hS1 : va_S A s.heap T'.heap (locs ++ L) := ⟨Nat.le_trans hS.1 (by rw [e1]; exact hz), fun q h1 h2 => by rw [hk2 q (Nat.lt_of_lt_of_le h1 hS.1) (fun z => h2 (hF q z))]; exact hS.2.1 q h1 h2, fun q hq => by
      rcases List.mem_append.mp hq with h | h
      · exact hS.2.2 q h
      · exact hF _ (hL q h)⟩
    obtain ⟨t2, a1, b1⟩ := out T'.heap (locs ++ L) ls q9 ce g1 g2 hS1 hl hce hcv hcl T' rfl X'
    exact ⟨t2, st.trans a1, b1⟩
theorem a_callSx (F : Fx p s m args c cc own Ts nL D y ek A) (ks : List Nat) (hM : CX l y0 ws rm D y ek As bs0 E bs1 mc ms) (cw : CallB R s args own index y0 bytes maxL ret ws rm mc ms n ∧ (Cond.static y0).before args s = true)
    (hn : va_nd ks = true) (hk0 : ks.all (fun k => Nat.blt k bs.length) = true) (hl1 : bs1.length = ks.length) (hs : sB bs ks = bs0) (hbs : pB bs ks bs1 = bs')
    (hAs : As.length = n) {st0 : List Value} (hst : st0 = As.reverse ++ st) (hW : (st.map fun v => v.category).sum ≤ 8) (hf : cells + mc ≤ R.cells ∧ slots + ms ≤ R.slots) (hd : decode cc pc = .ok (.invokestatic index, 3))
    (out : ∀ (H1 : Heap) (locs1 : List Loc) (ls : Array Slot) (q9 : Addr) (ce : Cell), va_P D vwCl bs'.flatten H1 → va_D A bs'.flatten → va_S A s.heap H1 locs1 → lv_has ls nL lv → H1[q9]? = some ce → ce.vm = .none → s.vm.findClass E = some ce.cls → vx_W p l e R s m args below meth c H1 locs1 (cells + mc) (slots + ms) Q (F0 m pc ls st) q9) : At p l e R s m args below meth c Q D A nL cells slots pc lv st0 bs := by
  intro H locs ls hP hD hS hl
  have hk := b_all hk0
  obtain ⟨hPc, hDc, hF⟩ := b_cut hP hD hS F.2.2.1 hn hk hs
  intro T hT X
  have hrun := vx_runS (As := As) (rest := st) (g := F0 m pc ls st0) (locs := locs) (cells := cells) (slots := slots) (e := e) (below := below) (meth := meth) F.1 (hM H.size) cw ⟨pc_blind, fun U hU hW => ⟨rfl, by rw [hU], by rw [hU]; exact b_left hPc, va_K.moved hW.alike F.2.1, b_leftD hDc, F.2.2.2.call hS hW hU hF⟩⟩ rfl hAs hl.1 hst (lv_room hW) hd hf
  rcases hrun T hT X with ⟨v, st₀, t, T', L, h0, X', hL, e1, e2, hq, st⟩ | ⟨q9, st₀, t, T', L, E', ce, h0, X', hL, e1, e2, ⟨u, -, ⟨hE, hP1, hK1, hD1⟩, hz, hk1⟩, hce, hcv, hcl, st⟩
  · exact hq.elim
  · subst hE
    rw [h0] at hz hk1
    rw [← e1] at hP1 hce
    have hk2 : ∀ q : Nat, q < H.size → ¬ va_A bs0.flatten H.size q → T'.heap[q]? = H[q]? := fun q h1 h2 => by rw [e1]; exact hk1 q h1 h2
    obtain ⟨g1, g2⟩ := b_back hPc hDc hF hn hk hl1 hk2 hP1 hD1
    rw [hbs] at g1 g2
    have hS1 : va_S A s.heap T'.heap (locs ++ L) := ⟨Nat.le_trans hS.1 (by rw [e1]; exact hz), fun q h1 h2 => by rw [hk2 q (Nat.lt_of_lt_of_le h1 hS.1) (fun z => h2 (hF q z))]; exact hS.2.1 q h1 h2, fun q hq => by
      rcases List.mem_append.mp hq with h | h
      · exact hS.2.2 q h
      · exact hF _ (hL q h)⟩
    obtain ⟨t2, a1, b1⟩ := out T'.heap (locs ++ L) ls q9 ce g1 g2 hS1 hl hce hcv hcl T' rfl X'
    exact ⟨t2, st.trans a1, b1⟩
end EXC
section XENDS
variable {l : Launch} {y0 : MethodName} {rm : Room} {D : va_G} {y : Nat → ClassId} {ek : EK} {as : List Value} {bs0 bs1 : List va_W} {cc : ByteArray} {maxL mc ms : Nat} {ret : Option FieldType} {E : String}
/-- a contract out of a walk: E is thrown, here or in a callee -/
theorem cx_of (hlt : l.stackTraces = false) (hy : plainName y0.cls = true) (hown : y0.cls = RX11) (hml : (lg_sl as).length ≤ maxL) (hmc : 1 ≤ mc) (hms : 6 ≤ ms)
    (body : ∀ (p : Program) (e : Env) (s : State) (m : MethodId) (below : List Frame) (meth : Method) (c : Code) (Q : State → Prop) (A : Nat → Prop), Fx p s m as.toArray c cc RX11 (Cond.code y0 cc maxL ret :: WALL) maxL D y ek A →
      (∀ (pc ik ic : Nat) (lv : List (Nat × Value)) (st : List Value), XW ik ic E → decode cc pc = .ok (.new ik, 3) → decode cc (pc + 3) = .ok (.dup, 1) → decode cc (pc + 4) = .ok (.invokespecial ic, 3) → decode cc (pc + 7) = .ok (.athrow, 1) → 5 < rm.frames → (st.map fun v => v.category).sum + 81 ≤ rm.locals → 1 ≤ rm.cells → 6 ≤ rm.slots → At p l e (headSpec (Cond.code y0 cc maxL ret :: WALL) rm).room s m as.toArray below meth c Q D A maxL 0 0 pc lv st bs1) →
      (∀ (H1 : Heap) (locs1 : List Loc) (ls : Array Slot) (pc cells slots : Nat) (st : List Value) (q9 : Addr) (ce : Cell), va_P D vwCl bs1.flatten H1 → va_D A bs1.flatten → va_S A s.heap H1 locs1 → cells ≤ mc → slots ≤ ms → H1[q9]? = some ce → ce.vm = .none → s.vm.findClass E = some ce.cls → vx_W p l e (headSpec (Cond.code y0 cc maxL ret :: WALL) rm).room s m as.toArray below meth c H1 locs1 cells slots Q (F0 m pc ls st) q9) →
      At p l e (headSpec (Cond.code y0 cc maxL ret :: WALL) rm).room s m as.toArray below meth c Q D A maxL 0 0 0 (lv_args 0 as) [] bs0) : CX l y0 (Cond.code y0 cc maxL ret :: WALL) rm D y ek as bs0 E bs1 mc ms := by
  intro sz
  refine vx_ofW (cc := cc) (maxL := maxL) (ret := ret) hy rfl ?_
  intro p e s m args below meth c s₁ B hmx hexc hv
  obtain ⟨rfl, hsz, hP, hK, hD0, hE⟩ := hv
  have hts := atoms_spec (ws := Cond.code y0 cc maxL ret :: WALL) B.pre
  have hown0 : s.vm.findClass RX11 = some m.cls := by rw [← hown]; exact findClass_of_methodNamed B.named
  have hlocks := B.notSynchronized
  subst hsz
  have hD := hD0.self (sz := s.heap.size)
  have hl := lv_entry as (n := maxL) hml
  rw [lg_entry_eq]
  refine body p e s m below meth c _ (va_A bs0.flatten s.heap.size) ⟨⟨B.exec, B.bytes, hmx, hown0, hts⟩, hK, fun q h => Or.inr h, hE⟩ ?_ ?_ s.heap [] _ hP hD va_S.rf hl
  · intro pc ik ic lv st hX d0 d3 d4 d7 r1 r2 r3 r4 H locs ls hP1 hD1 hS1 hl1
    obtain ⟨x1, x2, x3, x4, x5, x6, x7⟩ := hX
    refine vx_throw0 (names := xN) (A := va_A bs0.flatten s.heap.size) B.exec B.bytes hlt hown0 x1 (by decide) (hts _ (tl x3)) (hts _ (tl x4)) (vx_hat (B := xB E) (fun w hw => hts w (tl (q_of (x5 w hw) (List.mem_filter.mp hw).2))) x6 (fun w hw => by
      simp only [xB, List.mem_cons, List.not_mem_nil, or_false] at hw
      rcases hw with rfl | rfl | rfl | rfl
      · exact (hE.2.2.2.2.2.2.2.2.2.1 E x2).use rfl
      · exact (hE.2.2.2.2.2.2.2.2.2.2.1 _ (by decide)).use rfl
      · exact (hE.2.2.2.2.2.2.2.2.2.2.1 _ (by decide)).use rfl
      · exact (hE.2.2.2.2.2.2.2.2.2.2.1 _ (by decide)).use rfl)) x7 hE.2.2.2.2.1 hE.2.2.2.2.2.1 hS1 (hl1.1.trans hmx.symm) d0 d3 d4 d7 (fun x hx => (hexc x hx).elim) r1 r2 (by rw [Nat.zero_add]; exact r3) (by rw [Nat.zero_add]; exact r4) hlocks (fun t hvm hz hk => ?_) hS1.2.2 (by omega) (by omega)
    exact ⟨(), trivial, ⟨rfl, hP1.kept (fun k q hq => hk q.1 (hP1 k q hq).lt), va_K.moved hvm hK, hD1⟩, Nat.le_trans hS1.1 hz, fun q h1 h2 => by rw [hk q (Nat.lt_of_lt_of_le h1 hS1.1)]; exact hS1.2.1 q h1 h2⟩
  · intro H1 locs1 ls pc cells slots st q9 ce hP1 hD1 hS1 hc hs hce hcv hcl
    exact vx_out (fun x hx => (hexc x hx).elim) hlocks hce hcv hcl (fun t ht hvm => ⟨(), trivial, ⟨rfl, by rw [ht]; exact hP1, va_K.moved hvm hK, hD1⟩, hS1.F ht⟩) hS1.2.2 hc hs
end XENDS
