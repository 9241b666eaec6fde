abbrev isb (x : Int32) : Prop := x = 0 ∨ x = 1
theorem z_nar {x : Int32} (h : isb x) : narrow .boolean (.int x) = .int x := by
  rcases h with rfl | rfl <;> rfl
theorem z_fit {x : Int32} (h : isb x) : fits .boolean (.int x) = true := by
  rcases h with rfl | rfl <;> rfl
abbrev yb (x : Int32) : Int32 := vp_nar .byte x
abbrev x_shl (x z : Int32) : Int32 := x <<< (z &&& 31)
abbrev x_shr (x z : Int32) : Int32 := x >>> (z &&& 31)
abbrev x_ushr (x z : Int32) : Int32 := (x.toUInt32 >>> (z.toUInt32 &&& Int32.toUInt32 31)).toInt32
abbrev x_rem (x z : Int32) : Int32 := x - x / z * z
abbrev x_i2b (x : Int32) : Int32 := x.toInt8.toInt32
abbrev x_max (x z : Int32) : Int32 := if x < z then z else x
abbrev x_min (x z : Int32) : Int32 := if z < x then z else x
abbrev x_abs (x : Int32) : Int32 := if 0 ≤ x then x else 0 - x
theorem sw_ne {x k : Int32} (z : Int) (h : ¬ x = k) (hk : k.toInt = z) : ¬ x.toInt = z := fun e => h (Int32.toInt_inj.mp (e.trans hk.symm))
section MORE
variable {p : Program} {l : Launch} {e : Env} {R : Room} {s : State} {m : MethodId} {args : Array Value} {below : List Frame} {meth : Method} {c : Code} {Q : State → Prop} {D : va_G} {y : Nat → ClassId} {ek : EK} {A : Nat → Prop} {nL cells slots pc : Nat} {cc : ByteArray} {own : String} {Ts : List Cond} {lv : List (Nat × Value)} {st : List Value} {bs : List va_W}
theorem a_lv {lv' : List (Nat × Value)} (h : lv = lv') (k : At p l e R s m args below meth c Q D A nL cells slots pc lv' st bs) : At p l e R s m args below meth c Q D A nL cells slots pc lv st bs := by subst h; exact k
theorem a_tin (F : Fx p s m args c cc own Ts nL D y ek A) {dflt lo hi : Int} {offs : Array Int} {len tgt : Nat} {x : Int32} {off k : Int} (hd : decode cc pc = .ok (.tableswitch dflt lo hi offs, len)) (hx : x.toInt = k) (h1 : ¬ k < lo) (h2 : ¬ hi < k) (ho : offs[(k - lo).toNat]? = some off) (ht : (pc : Int) + off = (tgt : Int)) (kk : At p l e R s m args below meth c Q D A nL cells slots tgt lv st bs) : At p l e R s m args below meth c Q D A nL cells slots pc lv (.int x :: st) bs :=
  fun H locs ls hP hD hS hl => lv_tableIn F.1.1 F.1.2.1 hd (by rw [hx]; exact h1) (by rw [hx]; exact h2) (by rw [hx]; exact ho) ht (kk H locs ls hP hD hS hl)
theorem a_tout (F : Fx p s m args c cc own Ts nL D y ek A) {dflt lo hi : Int} {offs : Array Int} {len tgt : Nat} {x : Int32} (hd : decode cc pc = .ok (.tableswitch dflt lo hi offs, len)) (h : x.toInt < lo ∨ hi < x.toInt) (ht : (pc : Int) + dflt = (tgt : Int)) (kk : At p l e R s m args below meth c Q D A nL cells slots tgt lv st bs) : At p l e R s m args below meth c Q D A nL cells slots pc lv (.int x :: st) bs :=
  fun H locs ls hP hD hS hl => lv_tableOut F.1.1 F.1.2.1 hd h ht (kk H locs ls hP hD hS hl)
theorem a_ialdc (F : Fx p s m args c cc own Ts nL D y ek A) {kb j n k : Nat} {b : va_W} {a : Nat} {f : Nat → Int32} {i : Int32} (hb : bs[kb]? = some b) (hj : b[j]? = some (a, .inl (y 0, n, .inl f))) (hi : ix i n) (hk : i.toNatClampNeg = k) (hd : decode cc pc = .ok (.iaload, 1)) (kk : At p l e R s m args below meth c Q D A nL cells slots (pc + 1) lv (.int (f k) :: st) bs) : At p l e R s m args below meth c Q D A nL cells slots pc lv (.int i :: .ref a :: st) bs := by
  subst hk
  exact a_iald F hb hj hi hd kk
theorem a_iastc (F : Fx p s m args c cc own Ts nL D y ek A) {bs' : List va_W} {x : Int32} {kb j n k : Nat} {b : va_W} {a : Nat} {f : Nat → Int32} {i : Int32} (hb : bs[kb]? = some b) (hj : b[j]? = some (a, .inl (y 0, n, .inl f))) (hi : ix i n) (hk : i.toNatClampNeg = k) (hbs : bs.set kb (b.set j (a, .inl (y 0, n, .inl (upd f k x)))) = bs') (hd : decode cc pc = .ok (.iastore, 1)) (kk : At p l e R s m args below meth c Q D A nL cells slots (pc + 1) lv st bs') : At p l e R s m args below meth c Q D A nL cells slots pc lv (.int x :: .int i :: .ref a :: st) bs := by
  subst hk
  exact a_iast F hb hj hi hbs hd kk
theorem a_zaldc (F : Fx p s m args c cc own Ts nL D y ek A) {kb j n k : Nat} {b : va_W} {a : Nat} {f : Nat → Int32} {i : Int32} (hb : bs[kb]? = some b) (hj : b[j]? = some (a, .inl (y 1, n, .inl f))) (hi : ix i n) (hk : i.toNatClampNeg = k) (hd : decode cc pc = .ok (.baload, 1)) (kk : At p l e R s m args below meth c Q D A nL cells slots (pc + 1) lv (.int (f k) :: st) bs) : At p l e R s m args below meth c Q D A nL cells slots pc lv (.int i :: .ref a :: st) bs := by
  subst hk
  exact a_zald F hb hj hi hd kk
theorem a_zastc (F : Fx p s m args c cc own Ts nL D y ek A) {bs' : List va_W} {x : Int32} {kb j n k : Nat} {b : va_W} {a : Nat} {f : Nat → Int32} {i : Int32} (hb : bs[kb]? = some b) (hj : b[j]? = some (a, .inl (y 1, n, .inl f))) (hi : ix i n) (hk : i.toNatClampNeg = k) (hbs : bs.set kb (b.set j (a, .inl (y 1, n, .inl (upd f k (vp_nar .boolean x))))) = bs') (hd : decode cc pc = .ok (.bastore, 1)) (kk : At p l e R s m args below meth c Q D A nL cells slots (pc + 1) lv st bs') : At p l e R s m args below meth c Q D A nL cells slots pc lv (.int x :: .int i :: .ref a :: st) bs := by
  subst hk
  exact a_zast F hb hj hi hbs hd kk
theorem a_baldc (F : Fx p s m args c cc own Ts nL D y ek A) {kb j n k : Nat} {b : va_W} {a : Nat} {f : Nat → Int32} {i : Int32} (hb : bs[kb]? = some b) (hj : b[j]? = some (a, .inl (y 2, n, .inl f))) (hi : ix i n) (hk : i.toNatClampNeg = k) (hd : decode cc pc = .ok (.baload, 1)) (kk : At p l e R s m args below meth c Q D A nL cells slots (pc + 1) lv (.int (f k) :: st) bs) : At p l e R s m args below meth c Q D A nL cells slots pc lv (.int i :: .ref a :: st) bs := by
  subst hk
  exact a_bald F hb hj hi hd kk
theorem a_bastc (F : Fx p s m args c cc own Ts nL D y ek A) {bs' : List va_W} {x : Int32} {kb j n k : Nat} {b : va_W} {a : Nat} {f : Nat → Int32} {i : Int32} (hb : bs[kb]? = some b) (hj : b[j]? = some (a, .inl (y 2, n, .inl f))) (hi : ix i n) (hk : i.toNatClampNeg = k) (hbs : bs.set kb (b.set j (a, .inl (y 2, n, .inl (upd f k (vp_nar .byte x))))) = bs') (hd : decode cc pc = .ok (.bastore, 1)) (kk : At p l e R s m args below meth c Q D A nL cells slots (pc + 1) lv st bs') : At p l e R s m args below meth c Q D A nL cells slots pc lv (.int x :: .int i :: .ref a :: st) bs := by
  subst hk
  exact a_bast F hb hj hi hbs hd kk
theorem a_copy (F : Fx p s m args c cc own Ts nL D y ek A) {index kb j kb1 j1 ks kd kn n0 n1 : Nat} {b b1 : va_W} {a0 a1 : Nat} {f g : Nat → Int32} {sp dp n : Int32} {bs' : List va_W} (h0 : Cond.methodLink own index arraycopyName ∈ Ts) (h1 : Cond.native arraycopyName ∈ Ts) (h2 : Cond.static arraycopyName ∈ Ts) (h3 : Cond.initialized "java/lang/System" ∈ Ts)
    (hb : bs[kb]? = some b) (hj : b[j]? = some (a0, .inl (y 0, n0, .inl f))) (hb1 : bs[kb1]? = some b1) (hj1 : b1[j1]? = some (a1, .inl (y 0, n1, .inl g))) (e1 : sp.toNatClampNeg = ks) (e2 : dp.toNatClampNeg = kd) (e3 : n.toNatClampNeg = kn) (p1 : ¬ sp < 0) (p2 : ¬ dp < 0) (p3 : ¬ n < 0) (q1 : ks + kn ≤ n0) (q2 : kd + kn ≤ n1) (hfr : 1 ≤ R.frames) (hlo : (st.map fun v => v.category).sum + (nativeFrameWords "java/lang/System" "arraycopy" 5 + 11) ≤ R.locals)
    (hbs : bs.set kb1 (b1.set j1 (a1, .inl (y 0, n1, .inl (va_cpy f g ks kd kn)))) = bs') (hd : decode cc pc = .ok (.invokestatic index, 3)) (kk : At p l e R s m args below meth c Q D A nL cells slots (pc + 3) lv st bs') : At p l e R s m args below meth c Q D A nL cells slots pc lv (.int n :: .int dp :: .ref a1 :: .int sp :: .ref a0 :: st) bs := by
  subst e1; subst e2; subst e3
  intro H locs ls hP hD hS hl
  obtain ⟨i0, g0⟩ := fl_at hb hj
  obtain ⟨i1, g1, hset⟩ := fl_set hb1 hj1
  exact va_copyi F.1.1 F.1.2.1 (F.1.2.2.1.trans hl.1.symm) F.1.2.2.2.1 (F.1.2.2.2.2 _ h0) (F.1.2.2.2.2 _ h1) (F.1.2.2.2.2 _ h2) (F.1.2.2.2.2 _ h3) F.2.1 hP hD hS i0 i1 0 0 g0 g1 rfl rfl rfl p1 p2 p3 q1 q2 (fun _ _ => rfl) hfr hlo hd (fun H1 locs1 hP1 hD1 hS1 => kk H1 locs1 ls (by rw [← hbs, ← hset]; exact hP1) (by rw [← hbs, ← hset]; exact hD1) hS1 hl)
theorem a_ldcw (F : Fx p s m args c cc own Ts nL D y ek A) {index : Nat} {v : Int32} (hc : Jvm.Cond.constant own index v ∈ Ts) (hd : decode cc pc = .ok (.ldc_w index, 3)) (k : At p l e R s m args below meth c Q D A nL cells slots (pc + 3) lv (.int v :: st) bs) : At p l e R s m args below meth c Q D A nL cells slots pc lv st bs :=
  fun H locs ls hP hD hS hl => lv_ldcw F.1.1 F.1.2.1 F.1.2.2.2.1 (F.1.2.2.2.2 _ hc) hd (k H locs ls hP hD hS hl)
theorem a_lsw (F : Fx p s m args c cc own Ts nL D y ek A) {dflt : Int} {ps : Array (Int × Int)} {len : Nat} {x : Int32} {off : Int} {tgt : Nat} (hd : decode cc pc = .ok (.lookupswitch dflt ps, len)) (hp : (ps.toList.zip (ps.toList.drop 1)).all (fun (a, next) => a.1 < next.1) = true) (ho : Op.lookupswitch.offset ps.toList dflt x.toInt = off) (ht : (pc : Int) + off = (tgt : Int)) (kk : At p l e R s m args below meth c Q D A nL cells slots tgt lv st bs) : At p l e R s m args below meth c Q D A nL cells slots pc lv (.int x :: st) bs :=
  fun H locs ls hP hD hS hl => lv_lookup F.1.1 F.1.2.1 hd hp ho ht (kk H locs ls hP hD hS hl)
end MORE
