section CALLS
variable {p : Program} {l : Launch} {e : Env} {R : Room} {s : State} {m : MethodId} {args : Array Value} {below : List Frame} {meth : Method} {c : Code} {Q : State → Prop} {D : va_G} {y : Nat → ClassId} {ek : EK} {A : Nat → Prop} {nL cells slots pc : Nat} {cc : ByteArray} {own : String} {Ts : List Cond} {lv : List (Nat × Value)} {st : List Value} {bs : List va_W}
/-- the callee's blocks, cut out of the caller's -/
theorem b_cut {bs bs0 : List va_W} {ks : List Nat} {H H0 : Heap} {locs : List Loc} (hP : va_P D vwCl bs.flatten H) (hD : va_D A bs.flatten) (hS : va_S A H0 H locs) (hA : ∀ q, H0.size ≤ q → A q) (hn : va_nd ks = true) (hk : ∀ k ∈ ks, k < bs.length) (hs : sB bs ks = bs0) :
    va_P D vwCl (bs0.flatten ++ (pB bs ks (eB ks)).flatten) H ∧ va_D A (bs0.flatten ++ (pB bs ks (eB ks)).flatten) ∧ ∀ q, va_A bs0.flatten H.size q → A q := by
  subst hs
  have hp := pB_perm ks bs (sB bs ks) hn hk (by simp [sB])
  rw [pB_self ks bs hn hk] at hp
  refine ⟨hP.perm hp, hD.perm hp, fun q h => ?_⟩
  rcases h with ⟨k, e, h⟩ | h
  · exact (va_D_iff.mp (hD.perm hp)).2 (q, e) (List.mem_append_left _ (List.mem_of_getElem? h))
  · exact hA q (Nat.le_trans hS.1 h)
theorem b_left {w1 w2 : va_W} {H : Heap} (h : va_P D vwCl (w1 ++ w2) H) : va_P D vwCl w1 H := va_P_iff.mpr fun q hq => va_P_iff.mp h q (List.mem_append_left _ hq)
theorem b_leftD {w1 w2 : va_W} (h : va_D A (w1 ++ w2)) : va_D (fun _ => True) w1 := by
  obtain ⟨h1, -⟩ := va_D_iff.mp h
  exact va_D_iff.mpr ⟨(List.pairwise_append.mp h1).1, fun _ _ => trivial⟩
/-- what came back, among the caller's blocks -/
theorem b_back {bs bs0 bs1 : List va_W} {ks : List Nat} {H H1 : Heap} (hP : va_P D vwCl (bs0.flatten ++ (pB bs ks (eB ks)).flatten) H) (hD : va_D A (bs0.flatten ++ (pB bs ks (eB ks)).flatten)) (hF : ∀ q, va_A bs0.flatten H.size q → A q) (hn : va_nd ks = true) (hk : ∀ k ∈ ks, k < bs.length) (hl : bs1.length = ks.length)
    (hk1 : ∀ q : Nat, q < H.size → ¬ va_A bs0.flatten H.size q → H1[q]? = H[q]?) (hP1 : va_P D vwCl bs1.flatten H1) (hD1 : va_D (va_A bs0.flatten H.size) bs1.flatten) : va_P D vwCl (pB bs ks bs1).flatten H1 ∧ va_D A (pB bs ks bs1).flatten := by
  obtain ⟨h1, h2⟩ := jn_perm hP hD hk1 hF hP1 hD1
  have hp := (pB_perm ks bs bs1 hn hk hl).symm
  exact ⟨h1.perm hp, h2.perm hp⟩
theorem b_all {ks : List Nat} {n : Nat} (h : ks.all (fun k => Nat.blt k n) = true) : ∀ k ∈ ks, k < n := fun k hk => Nat.blt_eq.mp (List.all_eq_true.mp h k hk)
variable {y0 : MethodName} {ws : List Cond} {rm : Room} {bs0 bs1 bs' : List va_W} {bytes : ByteArray} {maxL n index mc ms : Nat} {ret : Option FieldType} {C : String} {b : Nat} {As : List Value} {r : Int32}
/-- a call of an object's method that answers an int -/
theorem a_callV (F : Fx p s m args c cc own Ts nL D y ek A) (ks : List Nat) (hM : CI l y0 ws rm D y ek (.ref b :: As) bs0 r bs1 mc ms) (cw : CallW R s args own C index y0 bytes maxL ret ws rm mc ms n)
    {kb j ci : Nat} {b0 : va_W} {q : vw_C} {fs : List Value} (hb : bs[kb]? = some b0) (hj : b0[j]? = some (b, .inr (ci, fs))) (hc : vwCl[ci]? = some q) (hC : q.1 = C)
    (hn : va_nd ks = true) (hk0 : ks.all (fun k => Nat.blt k bs.length) = true) (hl1 : bs1.length = ks.length) (hs : sB bs ks = bs0) (hbs : pB bs ks bs1 = bs')
    (hAs : As.length = n) {st0 : List Value} (hst : st0 = As.reverse ++ .ref b :: st) (hW : (st.map fun v => v.category).sum ≤ 8) (hf : cells + mc ≤ R.cells ∧ slots + ms ≤ R.slots) (hd : decode cc pc = .ok (.invokevirtual index, 3))
    (k : At p l e R s m args below meth c Q D A nL (cells + mc) (slots + ms) (pc + 3) lv (.int r :: st) bs') : At p l e R s m args below meth c Q D A nL cells slots pc lv st0 bs := by
  intro H locs ls hP hD hS hl
  have hk := b_all hk0
  obtain ⟨hPc, hDc, hF⟩ := b_cut hP hD hS F.2.2.1 hn hk hs
  obtain ⟨i0, h0⟩ := fl_at hb hj
  refine va_calli (va_runV (As := As) (rest := st) F.1 (hM H.size) cw ⟨pc_blind, ?_, fun U hU hW => ⟨rfl, by rw [hU], by rw [hU]; exact b_left hPc, va_K.moved hW.alike F.2.1, b_leftD hDc, F.2.2.2.call hS hW hU hF⟩⟩ rfl hAs hl.1 hst (lv_room hW) hd hf) hS (fun q _ h => hF q h) hF (fun r1 u t H1 locs1 ht hvm hw hB hz1 hk1 hS1 => ?_)
  · have := va_recv F.2.1 hP hc h0
    rw [hC] at this
    exact this
  · obtain ⟨hP1, hK1, hD1⟩ := hB
    rw [ht] at hP1
    subst hw
    obtain ⟨g1, g2⟩ := b_back hPc hDc hF hn hk hl1 hk1 hP1 hD1
    rw [hbs] at g1 g2
    exact k H1 locs1 ls g1 g2 hS1 hl
theorem a_callVv (F : Fx p s m args c cc own Ts nL D y ek A) (ks : List Nat) (hM : CV l y0 ws rm D y ek (.ref b :: As) bs0 bs1 mc ms) (cw : CallW R s args own C index y0 bytes maxL ret ws rm mc ms n)
    {kb j ci : Nat} {b0 : va_W} {q : vw_C} {fs : List Value} (hb : bs[kb]? = some b0) (hj : b0[j]? = some (b, .inr (ci, fs))) (hc : vwCl[ci]? = some q) (hC : q.1 = C)
    (hn : va_nd ks = true) (hk0 : ks.all (fun k => Nat.blt k bs.length) = true) (hl1 : bs1.length = ks.length) (hs : sB bs ks = bs0) (hbs : pB bs ks bs1 = bs')
    (hAs : As.length = n) {st0 : List Value} (hst : st0 = As.reverse ++ .ref b :: st) (hW : (st.map fun v => v.category).sum ≤ 8) (hf : cells + mc ≤ R.cells ∧ slots + ms ≤ R.slots) (hd : decode cc pc = .ok (.invokevirtual index, 3))
    (k : At p l e R s m args below meth c Q D A nL (cells + mc) (slots + ms) (pc + 3) lv st bs') : At p l e R s m args below meth c Q D A nL cells slots pc lv st0 bs := by
  intro H locs ls hP hD hS hl
  have hk := b_all hk0
  obtain ⟨hPc, hDc, hF⟩ := b_cut hP hD hS F.2.2.1 hn hk hs
  obtain ⟨i0, h0⟩ := fl_at hb hj
  refine va_callv (va_runV (As := As) (rest := st) F.1 (hM H.size) cw ⟨pc_blind, ?_, fun U hU hW => ⟨rfl, by rw [hU], by rw [hU]; exact b_left hPc, va_K.moved hW.alike F.2.1, b_leftD hDc, F.2.2.2.call hS hW hU hF⟩⟩ rfl hAs hl.1 hst (lv_room hW) hd hf) hS (fun q _ h => hF q h) hF (fun u t H1 locs1 ht hvm hw hB hz1 hk1 hS1 => ?_)
  · have := va_recv F.2.1 hP hc h0
    rw [hC] at this
    exact this
  · obtain ⟨hP1, hK1, hD1⟩ := hB
    rw [ht] at hP1
    obtain ⟨g1, g2⟩ := b_back hPc hDc hF hn hk hl1 hk1 hP1 hD1
    rw [hbs] at g1 g2
    exact k H1 locs1 ls g1 g2 hS1 hl
/-- a static call -/
theorem a_callS (F : Fx p s m args c cc own Ts nL D y ek A) (ks : List Nat) (hM : CI l y0 ws rm D y ek As bs0 r bs1 mc ms) (cw : CallB R s args own index y0 bytes maxL ret ws rm mc ms n ∧ (Cond.static y0).before args s = true)
    (hn : va_nd ks = true) (hk0 : ks.all (fun k => Nat.blt k bs.length) = true) (hl1 : bs1.length = ks.length) (hs : sB bs ks = bs0) (hbs : pB bs ks bs1 = bs')
    (hAs : As.length = n) {st0 : List Value} (hst : st0 = As.reverse ++ st) (hW : (st.map fun v => v.category).sum ≤ 8) (hf : cells + mc ≤ R.cells ∧ slots + ms ≤ R.slots) (hd : decode cc pc = .ok (.invokestatic index, 3))
    (k : At p l e R s m args below meth c Q D A nL (cells + mc) (slots + ms) (pc + 3) lv (.int r :: st) bs') : At p l e R s m args below meth c Q D A nL cells slots pc lv st0 bs := by
  intro H locs ls hP hD hS hl
  have hk := b_all hk0
  obtain ⟨hPc, hDc, hF⟩ := b_cut hP hD hS F.2.2.1 hn hk hs
  refine va_calli (va_runS (As := As) (rest := st) F.1 (hM H.size) cw ⟨pc_blind, fun U hU hW => ⟨rfl, by rw [hU], by rw [hU]; exact b_left hPc, va_K.moved hW.alike F.2.1, b_leftD hDc, F.2.2.2.call hS hW hU hF⟩⟩ rfl hAs hl.1 hst (lv_room hW) hd hf) hS (fun q _ h => hF q h) hF (fun r1 u t H1 locs1 ht hvm hw hB hz1 hk1 hS1 => ?_)
  obtain ⟨hP1, hK1, hD1⟩ := hB
  rw [ht] at hP1
  subst hw
  obtain ⟨g1, g2⟩ := b_back hPc hDc hF hn hk hl1 hk1 hP1 hD1
  rw [hbs] at g1 g2
  exact k H1 locs1 ls g1 g2 hS1 hl
theorem a_callSv (F : Fx p s m args c cc own Ts nL D y ek A) (ks : List Nat) (hM : CV l y0 ws rm D y ek As bs0 bs1 mc ms) (cw : CallB R s args own index y0 bytes maxL ret ws rm mc ms n ∧ (Cond.static y0).before args s = true)
    (hn : va_nd ks = true) (hk0 : ks.all (fun k => Nat.blt k bs.length) = true) (hl1 : bs1.length = ks.length) (hs : sB bs ks = bs0) (hbs : pB bs ks bs1 = bs')
    (hAs : As.length = n) {st0 : List Value} (hst : st0 = As.reverse ++ st) (hW : (st.map fun v => v.category).sum ≤ 8) (hf : cells + mc ≤ R.cells ∧ slots + ms ≤ R.slots) (hd : decode cc pc = .ok (.invokestatic index, 3))
    (k : At p l e R s m args below meth c Q D A nL (cells + mc) (slots + ms) (pc + 3) lv st bs') : At p l e R s m args below meth c Q D A nL cells slots pc lv st0 bs := by
  intro H locs ls hP hD hS hl
  have hk := b_all hk0
  obtain ⟨hPc, hDc, hF⟩ := b_cut hP hD hS F.2.2.1 hn hk hs
  refine va_callv (va_runS (As := As) (rest := st) F.1 (hM H.size) cw ⟨pc_blind, fun U hU hW => ⟨rfl, by rw [hU], by rw [hU]; exact b_left hPc, va_K.moved hW.alike F.2.1, b_leftD hDc, F.2.2.2.call hS hW hU hF⟩⟩ rfl hAs hl.1 hst (lv_room hW) hd hf) hS (fun q _ h => hF q h) hF (fun u t H1 locs1 ht hvm hw hB hz1 hk1 hS1 => ?_)
  obtain ⟨hP1, hK1, hD1⟩ := hB
  rw [ht] at hP1
  obtain ⟨g1, g2⟩ := b_back hPc hDc hF hn hk hl1 hk1 hP1 hD1
  rw [hbs] at g1 g2
  exact k H1 locs1 ls g1 g2 hS1 hl
/-- inherited, or overriding -/
theorem a_callU (F : Fx p s m args c cc own Ts nL D y ek A) (ks : List Nat) (hM : CI l y0 ws rm D y ek (.ref b :: As) bs0 r bs1 mc ms) {x : MethodName} {owner : String} (cw : va_CU R s args own C owner index x y0 bytes maxL ret ws rm mc ms n)
    {kb j ci : Nat} {b0 : va_W} {q : vw_C} {fs : List Value} (hb : bs[kb]? = some b0) (hj : b0[j]? = some (b, .inr (ci, fs))) (hc : vwCl[ci]? = some q) (hC : q.1 = C)
    (hn : va_nd ks = true) (hk0 : ks.all (fun k => Nat.blt k bs.length) = true) (hl1 : bs1.length = ks.length) (hs : sB bs ks = bs0) (hbs : pB bs ks bs1 = bs')
    (hAs : As.length = n) {st0 : List Value} (hst : st0 = As.reverse ++ .ref b :: st) (hW : (st.map fun v => v.category).sum ≤ 8) (hf : cells + mc ≤ R.cells ∧ slots + ms ≤ R.slots) (hd : decode cc pc = .ok (.invokevirtual index, 3))
    (k : At p l e R s m args below meth c Q D A nL (cells + mc) (slots + ms) (pc + 3) lv (.int r :: st) bs') : At p l e R s m args below meth c Q D A nL cells slots pc lv st0 bs := by
  intro H locs ls hP hD hS hl
  have hk := b_all hk0
  obtain ⟨hPc, hDc, hF⟩ := b_cut hP hD hS F.2.2.1 hn hk hs
  obtain ⟨i0, h0⟩ := fl_at hb hj
  refine va_calli (va_runU (As := As) (rest := st) F.1 (hM H.size) cw ⟨pc_blind, ?_, fun U hU hW => ⟨rfl, by rw [hU], by rw [hU]; exact b_left hPc, va_K.moved hW.alike F.2.1, b_leftD hDc, F.2.2.2.call hS hW hU hF⟩⟩ rfl hAs hl.1 hst (lv_room hW) hd hf) hS (fun q _ h => hF q h) hF (fun r1 u t H1 locs1 ht hvm hw hB hz1 hk1 hS1 => ?_)
  · have := va_recv F.2.1 hP hc h0
    rw [hC] at this
    exact this
  · obtain ⟨hP1, hK1, hD1⟩ := hB
    rw [ht] at hP1
    subst hw
    obtain ⟨g1, g2⟩ := b_back hPc hDc hF hn hk hl1 hk1 hP1 hD1
    rw [hbs] at g1 g2
    exact k H1 locs1 ls g1 g2 hS1 hl
theorem a_callUv (F : Fx p s m args c cc own Ts nL D y ek A) (ks : List Nat) (hM : CV l y0 ws rm D y ek (.ref b :: As) bs0 bs1 mc ms) {x : MethodName} {owner : String} (cw : va_CU R s args own C owner index x y0 bytes maxL ret ws rm mc ms n)
    {kb j ci : Nat} {b0 : va_W} {q : vw_C} {fs : List Value} (hb : bs[kb]? = some b0) (hj : b0[j]? = some (b, .inr (ci, fs))) (hc : vwCl[ci]? = some q) (hC : q.1 = C)
    (hn : va_nd ks = true) (hk0 : ks.all (fun k => Nat.blt k bs.length) = true) (hl1 : bs1.length = ks.length) (hs : sB bs ks = bs0) (hbs : pB bs ks bs1 = bs')
    (hAs : As.length = n) {st0 : List Value} (hst : st0 = As.reverse ++ .ref b :: st) (hW : (st.map fun v => v.category).sum ≤ 8) (hf : cells + mc ≤ R.cells ∧ slots + ms ≤ R.slots) (hd : decode cc pc = .ok (.invokevirtual index, 3))
    (k : At p l e R s m args below meth c Q D A nL (cells + mc) (slots + ms) (pc + 3) lv st bs') : At p l e R s m args below meth c Q D A nL cells slots pc lv st0 bs := by
  intro H locs ls hP hD hS hl
  have hk := b_all hk0
  obtain ⟨hPc, hDc, hF⟩ := b_cut hP hD hS F.2.2.1 hn hk hs
  obtain ⟨i0, h0⟩ := fl_at hb hj
  refine va_callv (va_runU (As := As) (rest := st) F.1 (hM H.size) cw ⟨pc_blind, ?_, fun U hU hW => ⟨rfl, by rw [hU], by rw [hU]; exact b_left hPc, va_K.moved hW.alike F.2.1, b_leftD hDc, F.2.2.2.call hS hW hU hF⟩⟩ rfl hAs hl.1 hst (lv_room hW) hd hf) hS (fun q _ h => hF q h) hF (fun u t H1 locs1 ht hvm hw hB hz1 hk1 hS1 => ?_)
  · have := va_recv F.2.1 hP hc h0
    rw [hC] at this
    exact this
  · obtain ⟨hP1, hK1, hD1⟩ := hB
    rw [ht] at hP1
    obtain ⟨g1, g2⟩ := b_back hPc hDc hF hn hk hl1 hk1 hP1 hD1
    rw [hbs] at g1 g2
    exact k H1 locs1 ls g1 g2 hS1 hl
end CALLS
section ENDS
variable {l : Launch} {y0 : MethodName} {ws ws' : List Cond} {rm : Room} {D : va_G} {y : Nat → ClassId} {ek : EK} {as : List Value} {bs0 bs1 : List va_W} {cc : ByteArray} {maxL mc ms : Nat} {ty : FieldType} {own : String}
/-- a contract out of a walk: an int comes -/
theorem ci_of {r : Int32} (hy : plainName y0.cls = true) (hw : ws = Cond.code y0 cc maxL (some ty) :: ws') (hown : y0.cls = own) (hml : (lg_sl as).length ≤ maxL)
    (body : ∀ (p : Program) (e : Env) (s : State) (m : MethodId) (below : List Frame) (meth : Method) (c : Code) (Q : State → Prop) (A : Nat → Prop), Fx p s m as.toArray c cc own ws maxL D y ek A →
      (∀ (pc cells slots : Nat) (lv : List (Nat × Value)), cells ≤ mc → slots ≤ ms → narrow ty (.int r) = .int r → decode cc pc = .ok (.ireturn, 1) → At p l e (headSpec ws rm).room s m as.toArray below meth c Q D A maxL cells slots pc lv [.int r] bs1) →
      At p l e (headSpec ws rm).room s m as.toArray below meth c Q D A maxL 0 0 0 (lv_args 0 as) [] bs0) : CI l y0 ws rm D y ek as bs0 r bs1 mc ms := by
  intro sz
  refine Met.ofW (cc := cc) (maxL := maxL) (ret := some ty) hy hw ?_
  intro p e s m args below meth c s₁ B hmx hv
  obtain ⟨rfl, hsz, hP, hK, hD0, hE⟩ := hv
  have hts := atoms_spec (ws := ws) B.pre
  have hown0 : s.vm.findClass own = some m.cls := by rw [← hown]; exact findClass_of_methodNamed B.named
  have hlocks := B.notSynchronized
  subst hsz
  have hD := hD0.self (sz := s.heap.size)
  have hl := lv_entry as (n := maxL) hml
  rw [lg_entry_eq]
  refine body p e s m below meth c _ (va_A bs0.flatten s.heap.size) ⟨⟨B.exec, B.bytes, hmx, hown0, hts⟩, hK, fun q h => Or.inr h, hE⟩ ?_ s.heap [] _ hP hD va_S.rf hl
  intro pc cells slots lv hc hs hnar hd H locs ls hP1 hD1 hS1 hl1
  refine W.widen (k := mc) (n := ms) hc hs ?_
  exact W.zret (ty := ty) B.exec B.bytes B.returns hnar (fun t ht hW => ⟨⟨r, (), rfl, rfl, by rw [ht]; exact hP1, va_K.moved hW.alike hK, hD1⟩, hS1.F ht⟩) hS1.2.2 hd hlocks
theorem cv_of (hy : plainName y0.cls = true) (hw : ws = Cond.code y0 cc maxL none :: ws') (hown : y0.cls = own) (hml : (lg_sl as).length ≤ maxL)
    (body : ∀ (p : Program) (e : Env) (s : State) (m : MethodId) (below : List Frame) (meth : Method) (c : Code) (Q : State → Prop) (A : Nat → Prop), Fx p s m as.toArray c cc own ws maxL D y ek A →
      (∀ (pc cells slots : Nat) (lv : List (Nat × Value)), cells ≤ mc → slots ≤ ms → decode cc pc = .ok (.return_, 1) → At p l e (headSpec ws rm).room s m as.toArray below meth c Q D A maxL cells slots pc lv [] bs1) →
      At p l e (headSpec ws rm).room s m as.toArray below meth c Q D A maxL 0 0 0 (lv_args 0 as) [] bs0) : CV l y0 ws rm D y ek as bs0 bs1 mc ms := by
  intro sz
  refine Met.ofW (cc := cc) (maxL := maxL) (ret := none) hy hw ?_
  intro p e s m args below meth c s₁ B hmx hv
  obtain ⟨rfl, hsz, hP, hK, hD0, hE⟩ := hv
  have hts := atoms_spec (ws := ws) B.pre
  have hown0 : s.vm.findClass own = some m.cls := by rw [← hown]; exact findClass_of_methodNamed B.named
  have hlocks := B.notSynchronized
  subst hsz
  have hD := hD0.self (sz := s.heap.size)
  have hl := lv_entry as (n := maxL) hml
  rw [lg_entry_eq]
  refine body p e s m below meth c _ (va_A bs0.flatten s.heap.size) ⟨⟨B.exec, B.bytes, hmx, hown0, hts⟩, hK, fun q h => Or.inr h, hE⟩ ?_ s.heap [] _ hP hD va_S.rf hl
  intro pc cells slots lv hc hs hd H locs ls hP1 hD1 hS1 hl1
  refine W.widen (k := mc) (n := ms) hc hs ?_
  exact W.vret B.exec B.bytes B.returns (fun t ht hW => ⟨⟨(), rfl, trivial, by rw [ht]; exact hP1, va_K.moved hW.alike hK, hD1⟩, hS1.F ht⟩) hS1.2.2 hd hlocks
end ENDS
section FLOW
variable {p : Program} {l : Launch} {e : Env} {R : Room} {s : State} {m : MethodId} {args : Array Value} {below : List Frame} {meth : Method} {c : Code} {Q : State → Prop} {D : va_G} {y : Nat → ClassId} {ek : EK} {A : Nat → Prop} {nL cells slots pc0 : Nat} {lv0 : List (Nat × Value)} {st st0 : List Value} {bs0 : List va_W}
theorem a_loop {σ ρ : Type} {body : (σ → Option ρ) → σ → Option ρ} {res : ρ} (pc : Nat) (lv : σ → List (Nat × Value)) (bs : σ → List va_W)
    (step : ∀ (rc : σ → Option ρ) (x : σ), (∀ z, rc z = some res → At p l e R s m args below meth c Q D A nL cells slots pc (lv z) st (bs z)) → body rc x = some res → At p l e R s m args below meth c Q D A nL cells slots pc (lv x) st (bs x))
    {n : Nat} {x0 : σ} (hf : lp body n x0 = some res) (h1 : lv x0 = lv0) (h2 : bs x0 = bs0) : At p l e R s m args below meth c Q D A nL cells slots pc lv0 st bs0 := by
  subst h1; subst h2; exact lp_ind step n x0 hf
theorem a_join {τ ρ : Type} {x : Option τ} {f : τ → Option ρ} {res : ρ} (pc : Nat) (lv : τ → List (Nat × Value)) (st : τ → List Value) (bs : τ → List va_W) (hf : bd x f = some res)
    (rest : ∀ t, f t = some res → At p l e R s m args below meth c Q D A nL cells slots pc (lv t) (st t) (bs t))
    (reg : ∀ t, x = some t → At p l e R s m args below meth c Q D A nL cells slots pc (lv t) (st t) (bs t) → At p l e R s m args below meth c Q D A nL cells slots pc0 lv0 st0 bs0) : At p l e R s m args below meth c Q D A nL cells slots pc0 lv0 st0 bs0 := by
  obtain ⟨t, h1, h2⟩ := bd_some hf
  exact reg t h1 (rest t h2)
def jn {τ ρ : Type} (K : τ → Option ρ) (b : (τ → Option ρ) → Option ρ) : Option ρ := b K
theorem a_jn {τ ρ : Type} {K : τ → Option ρ} {b : (τ → Option ρ) → Option ρ} {res : ρ} (pc : Nat) (lv : τ → List (Nat × Value)) (st : τ → List Value) (bs : τ → List va_W) (hf : jn K b = some res)
    (rest : ∀ t, K t = some res → At p l e R s m args below meth c Q D A nL cells slots pc (lv t) (st t) (bs t))
    (reg : ∀ K : τ → Option ρ, (∀ t, K t = some res → At p l e R s m args below meth c Q D A nL cells slots pc (lv t) (st t) (bs t)) → b K = some res → At p l e R s m args below meth c Q D A nL cells slots pc0 lv0 st0 bs0) : At p l e R s m args below meth c Q D A nL cells slots pc0 lv0 st0 bs0 := reg K rest hf
theorem a_nmi {x z : Int32} (h : z = x) (k : At p l e R s m args below meth c Q D A nL cells slots pc0 lv0 (.int z :: st) bs0) : At p l e R s m args below meth c Q D A nL cells slots pc0 lv0 (.int x :: st) bs0 := by subst h; exact k
end FLOW
