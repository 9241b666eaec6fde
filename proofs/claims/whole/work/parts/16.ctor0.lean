/-- a contract of a constructor: called so, the cell w0 there, the blocks bf aa come, at addresses aa -/
def CN (l : Launch) (y : MethodName) (ws : List Cond) (rm : Room) (D : va_G) (ty : Nat → ClassId) (ek : EK) (as : List Value) (w0 : va_W) (h : Nat) (bf : (Nat → Nat → Nat) → List va_W) (mc ms : Nat) : Prop :=
  ∀ sz : Nat, Met l y ws rm (va_Pc as (fun U => U.heap.size = sz ∧ va_P D vwCl w0 U.heap ∧ va_K D vwCl (tyG ty) U ∧ va_D (fun _ => True) w0 ∧ EV ek (va_A w0 sz) U U.heap)) (va_Qv (fun (aa : Nat → Nat → Nat) => aa 0 0 = h) (fun aa t => va_P D vwCl (bf aa).flatten t.heap ∧ va_K D vwCl (tyG ty) t ∧ va_D (va_A w0 sz) (bf aa).flatten) (va_A w0 sz)) mc ms (va_A w0 sz)
section CTOR
variable {p : Program} {l : Launch} {e : Env} {R : Room} {s : State} {m : MethodId} {args : Array Value} {below : List Frame} {meth : Method} {c : Code} {Q : State → Prop} {D : va_G} {y : Nat → ClassId} {ek : EK} {A : Nat → Prop} {nL cells slots pc : Nat} {cc : ByteArray} {own : String} {Ts : List Cond} {lv : List (Nat × Value)} {st : List Value} {bs : List va_W}
theorem fl_push {bs : List va_W} {w : va_W} : (bs ++ [w]).flatten = bs.flatten ++ w := by simp
theorem a_new (F : Fx p s m args c cc own Ts nL D y ek A) {C : String} {T : u_T} {N ci index : Nat} {fs : List Value} (hin : ∀ w ∈ u_ws C T N, w ∈ Ts) (ty : Nat → FieldType) (hty : ∀ k, k < N → parseFieldDescriptor (T k).2.2.1 = some (ty k)) (hcl : Cond.classLink own index C ∈ Ts) (hinst : Cond.instantiable C N ∈ Ts) (hini : Cond.initialized C ∈ Ts) (hc : vwCl[ci]? = some (C, T, N)) (hfs : ∀ j, j < N → defaultValue (ty j) = vp_V fs j) (h1 : cells + 1 ≤ R.cells) (h2 : slots + N ≤ R.slots) (hd : decode cc pc = .ok (.new index, 3))
    (k : ∀ q : Nat, At p l e R s m args below meth c Q D A nL (cells + 1) (slots + N) (pc + 3) lv (.ref q :: st) (bs ++ [[(q, .inr (ci, fs))]])) : At p l e R s m args below meth c Q D A nL cells slots pc lv st bs := by
  intro H locs ls hP hD hS hl
  refine va_new F.1.1 F.1.2.1 F.1.2.2.2.2 hin ty hty F.1.2.2.2.1 (F.1.2.2.2.2 _ hcl) (F.1.2.2.2.2 _ hinst) (F.1.2.2.2.2 _ hini) F.2.1 hP hD hS F.2.2.1 hc hfs h1 h2 hd (fun q H1 hP1 hD1 hS1 => ?_)
  exact k q H1 locs ls (by rw [fl_push]; exact hP1) (by rw [fl_push]; exact hD1) hS1 hl
theorem ra_same {U : State} {a b : ClassId} {ty : FieldType} (h1 : va_RA U a ty) (h2 : va_RA U b ty) : a = b := by
  cases ty with
  | object C =>
    obtain ⟨-, -, -, -, -, g1⟩ := h1
    obtain ⟨-, -, -, -, -, g2⟩ := h2
    exact Option.some.inj (g1.symm.trans g2)
  | _ =>
    exact Option.some.inj ((show U.vm.findClass _ = some a from h1).symm.trans (show U.vm.findClass _ = some b from h2))
theorem a_newa (F : Fx p s m args c cc own Ts nL D y ek A) {atype : ArrayType} {ty : FieldType} {t0 : Nat} {cA : ClassId} {n : Int32} {N : Nat} {a0 : vp_A} (harr : Cond.arrayClass (newarray.typeOf atype) ∈ Ts) (hty : newarray.typeOf atype = ty) (ht : (tyG y)[t0]? = some (cA, ty)) (ha : ∀ cA : ClassId, vp_cell cA a0 = arrV cA N (fun _ => defaultValue ty)) (hn : ¬ n < 0) (hN : n.toNatClampNeg = N) (hby : N * componentBytes ty ≤ 536870912) (h1 : cells + 1 ≤ R.cells) (h2 : slots + N ≤ R.slots) (hd : decode cc pc = .ok (.newarray atype, 2))
    (k : ∀ q : Nat, At p l e R s m args below meth c Q D A nL (cells + 1) (slots + N) (pc + 2) lv (.ref q :: st) (bs ++ [[(q, .inl (cA, a0))]])) : At p l e R s m args below meth c Q D A nL cells slots pc lv (.int n :: st) bs := by
  intro H locs ls hP hD hS hl
  refine va_newa F.1.1 F.1.2.1 (F.1.2.2.2.2 _ harr) hty F.2.1 hP hD hS F.2.2.1 ha hn hN hby h1 h2 hd (fun q cB H1 hK1 hP1 hD1 hS1 => ?_)
  have e : cB = cA := ra_same ((hK1.2 (tyG y).length (cB, ty) (by simp)).2) (F.2.1.2 t0 (cA, ty) ht).2
  subst e
  exact k q H1 locs ls (by rw [fl_push]; exact hP1) (by rw [fl_push]; exact hD1) hS1 hl
theorem a_newq (F : Fx p s m args c cc own Ts nL D y ek A) {C : String} {index t0 : Nat} {cA : ClassId} {n : Int32} {N : Nat} (hcl : Cond.classLink own index C ∈ Ts) (hov : va_AO C s) (ht : (tyG y)[t0]? = some (cA, .object C)) (hn : ¬ n < 0) (hN : n.toNatClampNeg = N) (hby : N * 4 ≤ 536870912) (h1 : cells + 1 ≤ R.cells) (h2 : slots + N ≤ R.slots) (hd : decode cc pc = .ok (.anewarray index, 3))
    (k : ∀ q : Nat, At p l e R s m args below meth c Q D A nL (cells + 1) (slots + N) (pc + 3) lv (.ref q :: st) (bs ++ [[(q, .inl (cA, N, .inr (.inr (.inr (.inr (fun _ => none))))))]])) : At p l e R s m args below meth c Q D A nL cells slots pc lv (.int n :: st) bs := by
  intro H locs ls hP hD hS hl
  refine va_newq F.1.1 F.1.2.1 F.1.2.2.2.1 (F.1.2.2.2.2 _ hcl) hov F.2.1 hP hD hS F.2.2.1 hn hN hby h1 h2 hd (fun q cB H1 hK1 hP1 hD1 hS1 => ?_)
  have e : cB = cA := ra_same ((hK1.2 (tyG y).length (cB, .object C) (by simp)).2) (F.2.1.2 t0 (cA, .object C) ht).2
  subst e
  exact k q H1 locs ls (by rw [fl_push]; exact hP1) (by rw [fl_push]; exact hD1) hS1 hl
theorem a_astq (F : Fx p s m args c cc own Ts nL D y ek A) {bs' : List va_W} {kb j t0 kv jv ci n v : Nat} {b bv : va_W} {a : Nat} {cA : ClassId} {r : vw_C} {vs : List Value} {f : Nat → Option Nat} {i : Int32} (hb : bs[kb]? = some b) (hj : b[j]? = some (a, .inl (cA, n, .inr (.inr (.inr (.inr f)))))) (ht : (tyG y)[t0]? = some (cA, .object r.1)) (hbv : bs[kv]? = some bv) (hjv : bv[jv]? = some (v, .inr (ci, vs))) (hc : vwCl[ci]? = some r) (hi : ix i n) (hbs : bs.set kb (b.set j (a, .inl (cA, n, .inr (.inr (.inr (.inr (va_up f i.toNatClampNeg (some v)))))))) = bs') (hd : decode cc pc = .ok (.aastore, 1))
    (k : At p l e R s m args below meth c Q D A nL cells slots (pc + 1) lv st bs') : At p l e R s m args below meth c Q D A nL cells slots pc lv (.ref v :: .int i :: .ref a :: st) bs := by
  intro H locs ls hP hD hS hl
  obtain ⟨i0, h0, hset⟩ := fl_set hb hj
  obtain ⟨iv, hv⟩ := fl_at hbv hjv
  refine va_astq F.1.1 F.1.2.1 F.2.1 hP hD hS i0 t0 iv ci h0 ht hv hc (ix_in hi) hd (fun H1 locs1 hP1 hD1 hS1 => ?_)
  exact k H1 locs1 ls (by rw [← hbs, ← hset]; exact hP1) (by rw [← hbs, ← hset]; exact hD1) hS1 hl
theorem a_obj (F : Fx p s m args c cc own Ts nL D y ek A) {idx a : Nat} (hlk : Cond.methodLink own idx Lib.objectInit ∈ Ts) (hin : Cond.instanceMethod Lib.objectInit ∈ Ts) (hco : Cond.code Lib.objectInit ⟨#[0xb1]⟩ 1 none ∈ Ts) (hfr : 1 ≤ R.frames) (hlo : (st.map fun v => v.category).sum + 12 ≤ R.locals) (hd : decode cc pc = .ok (.invokespecial idx, 3)) (k : At p l e R s m args below meth c Q D A nL cells slots (pc + 3) lv st bs) : At p l e R s m args below meth c Q D A nL cells slots pc lv (.ref a :: st) bs := by
  intro H locs ls hP hD hS hl
  refine W.objInit F.1.1 F.1.2.1 F.1.2.2.2.1 (F.1.2.2.2.2 _ hlk) (F.1.2.2.2.2 _ hin) (F.1.2.2.2.2 _ hco) rfl (hl.1.trans F.1.2.2.1.symm) rfl hd hfr (by simpa [JFrame.monitorRoom] using hlo) ?_
  exact k H locs ls hP hD hS hl
theorem a_putF (F : Fx p s m args c cc own Ts nL D y ek A) {bs' : List va_W} {ty : FieldType} {ref C : String} {T : u_T} {N ci index kb j f : Nat} {b : va_W} {a : Nat} {fs : List Value} {v : Value} (hin : ∀ w ∈ u_ws C T N, w ∈ Ts) (hb : bs[kb]? = some b) (hj : b[j]? = some (a, .inr (ci, fs))) (hc : vwCl[ci]? = some (C, T, N)) (hf : f < N) (hlk : Cond.fieldLink own index ref (T f).2.1 (T f).2.2.1 ∈ Ts) (hsame : ∀ x, s.fieldFound? (T f).1 (T f).2.1 (T f).2.2.1 = some x → s.fieldFound? ref (T f).2.1 (T f).2.2.1 = some x) (ty0 : Nat → FieldType) (hty : ∀ k, k < N → parseFieldDescriptor (T k).2.2.1 = some (ty0 k)) (hnm : ∀ a, a < N → ∀ b, b < N → a ≠ b → (T a).2.1 ≠ (T b).2.1) (hfin : (T f).2.2.2 = true) (hnam : meth.name = "<init>") (hdecl : (T f).1 = own) (hdt : ty0 f = ty) (hn : narrow ty v = v) (hfit : fits ty v = true) (hlen : f < fs.length) (hbs : bs.set kb (b.set j (a, .inr (ci, fs.set f v))) = bs') (hd : decode cc pc = .ok (.putfield index, 3)) (k : At p l e R s m args below meth c Q D A nL cells slots (pc + 3) lv st bs') : At p l e R s m args below meth c Q D A nL cells slots pc lv (v :: .ref a :: st) bs :=
  fun H locs ls hP hD hS hl => by
    obtain ⟨i, hi, hset⟩ := fl_set hb hj
    exact va_putF F.1.1 F.1.2.1 F.1.2.2.2.2 hin ty0 hty hnm F.1.2.2.2.1 F.2.1 hP hD hS i hi hc f hf (F.1.2.2.2.2 _ hlk) hsame hfin hnam hdecl (ty := ty) (by rw [← hdt]; exact hty f hf) hn hfit hlen hd (fun H1 locs1 hP1 hD1 hS1 => k H1 locs1 ls (by rw [← hbs, ← hset]; exact hP1) (by rw [← hbs, ← hset]; exact hD1) hS1 hl)
variable {y0 : MethodName} {ws : List Cond} {rm : Room} {w0 : va_W} {bytes : ByteArray} {maxL n index mc ms : Nat} {b : Nat} {As : List Value} {bf : (Nat → Nat → Nat) → List va_W}
theorem pm_app {bs bs2 : List va_W} {k : Nat} {w : va_W} (hb : bs[k]? = some w) : bs.flatten.Perm (w ++ (bs.set k []).flatten) := by
  have h1 := fl_pick hb w
  have he : bs.set k w = bs := by
    obtain ⟨hl, e⟩ := List.getElem?_eq_some_iff.mp hb
    subst e
    simp
  rw [he] at h1
  exact h1
theorem a_callI (F : Fx p s m args c cc own Ts nL D y ek A) (k : Nat) (hM : CN l y0 ws rm D y ek (.ref b :: As) w0 b bf mc ms) (cw : CallB R s args own index y0 bytes maxL none ws rm mc ms n ∧ y0.name = "<init>" ∧ (Cond.instanceMethod y0).before args s = true)
    (hb : bs[k]? = some w0) (hAs : As.length = n) {st0 : List Value} (hst : st0 = As.reverse ++ .ref b :: st) (hW : (st.map fun v => v.category).sum ≤ 8) (hf : cells + mc ≤ R.cells ∧ slots + ms ≤ R.slots) (hd : decode cc pc = .ok (.invokespecial index, 3))
    (kk : ∀ aa : Nat → Nat → Nat, aa 0 0 = b → At p l e R s m args below meth c Q D A nL (cells + mc) (slots + ms) (pc + 3) lv st (bs.set k [] ++ bf aa)) : At p l e R s m args below meth c Q D A nL cells slots pc lv st0 bs := by
  intro H locs ls hP hD hS hl
  have hp := pm_app (bs2 := []) hb
  have hPc := hP.perm hp
  have hDc := hD.perm hp
  have hF : ∀ q, va_A w0 H.size q → A q := by
    intro q h
    rcases h with ⟨i, e, h⟩ | h
    · exact (va_D_iff.mp hDc).2 (q, e) (List.mem_append_left _ (List.mem_of_getElem? h))
    · exact F.2.2.1 q (Nat.le_trans hS.1 h)
  refine va_callv (va_runI (As := As) (rest := st) F.1 (hM H.size) cw ⟨?_, fun U hU hW => ⟨rfl, by rw [hU], by rw [hU]; exact b_left hPc, va_K.moved hW.alike F.2.1, b_leftD hDc, F.2.2.2.call hS hW hU hF⟩⟩ rfl hAs hl.1 hst (lv_room hW) hd hf) hS (fun q _ h => hF q h) hF (fun u t H1 locs1 ht hvm hw hB hz1 hk1 hS1 => ?_)
  · exact pc_blind
  · obtain ⟨hP1, hK1, hD1⟩ := hB
    rw [ht] at hP1
    obtain ⟨g1, g2⟩ := jn_perm hPc hDc hk1 hF hP1 hD1
    have hq : ((bf u).flatten ++ (bs.set k []).flatten).Perm (bs.set k [] ++ bf u).flatten := by
      rw [List.flatten_append]
      exact List.perm_append_comm
    exact kk u hw H1 locs1 ls (g1.perm hq) (g2.perm hq) hS1 hl
/-- all blocks, in another order -/
theorem pm_all {bs bs' : List va_W} (ks : List Nat) (hn : va_nd ks = true) (hk0 : ks.all (fun k => Nat.blt k bs.length) = true) (he : (pB bs ks (eB ks)).flatten = []) (hs : (sB bs ks).flatten = bs'.flatten) : bs.flatten.Perm bs'.flatten := by
  have hk := b_all hk0
  have hp := pB_perm ks bs (sB bs ks) hn hk (by simp [sB])
  rw [pB_self ks bs hn hk, he, List.append_nil, hs] at hp
  exact hp
end CTOR
section CENDS
variable {l : Launch} {y0 : MethodName} {ws ws' : List Cond} {rm : Room} {D : va_G} {y : Nat → ClassId} {ek : EK} {as : List Value} {w0 : va_W} {h : Nat} {bf : (Nat → Nat → Nat) → List va_W} {cc : ByteArray} {maxL mc ms : Nat} {own : String}
theorem cn_of (hy : plainName y0.cls = true) (hw : ws = Cond.code y0 cc maxL none :: ws') (hown : y0.cls = own) (hnm : y0.name = "<init>") (hml : (lg_sl as).length ≤ maxL)
    (body : ∀ (p : Program) (e : Env) (s : State) (m : MethodId) (below : List Frame) (meth : Method) (c : Code) (Q : State → Prop) (A : Nat → Prop), Fx p s m as.toArray c cc own ws maxL D y ek A → meth.name = "<init>" →
      (∀ (pc cells slots : Nat) (lv : List (Nat × Value)) (aa : Nat → Nat → Nat), aa 0 0 = h → cells ≤ mc → slots ≤ ms → decode cc pc = .ok (.return_, 1) → At p l e (headSpec ws rm).room s m as.toArray below meth c Q D A maxL cells slots pc lv [] (bf aa)) →
      At p l e (headSpec ws rm).room s m as.toArray below meth c Q D A maxL 0 0 0 (lv_args 0 as) [] [w0]) : CN l y0 ws rm D y ek as w0 h bf mc ms := by
  intro sz
  refine Met.ofW (cc := cc) (maxL := maxL) (ret := none) hy hw ?_
  intro p e s m args below meth c s₁ B hmx hv
  obtain ⟨rfl, hsz, hP, hK, hD0, hE⟩ := hv
  have hts := atoms_spec (ws := ws) B.pre
  have hown0 : s.vm.findClass own = some m.cls := by rw [← hown]; exact findClass_of_methodNamed B.named
  have hlocks := B.notSynchronized
  have hnam : meth.name = "<init>" := by rw [← hnm]; exact (name_of_methodNamed B.named B.method).1
  subst hsz
  have hD := hD0.self (sz := s.heap.size)
  have hl := lv_entry as (n := maxL) hml
  have hfl : [w0].flatten = w0 := by simp
  rw [lg_entry_eq]
  refine body p e s m below meth c _ (va_A w0 s.heap.size) ⟨⟨B.exec, B.bytes, hmx, hown0, hts⟩, hK, fun q h => Or.inr h, hE⟩ hnam ?_ s.heap [] _ (by rw [hfl]; exact hP) (by rw [hfl]; exact hD) va_S.rf hl
  intro pc cells slots lv aa haa hc hs hd H locs ls hP1 hD1 hS1 hl1
  refine W.widen (k := mc) (n := ms) hc hs ?_
  exact W.vret B.exec B.bytes B.returns (fun t ht hW => ⟨⟨aa, rfl, haa, by rw [ht]; exact hP1, va_K.moved hW.alike hK, hD1⟩, hS1.F ht⟩) hS1.2.2 hd hlocks
end CENDS
