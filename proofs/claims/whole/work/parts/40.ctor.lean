/-! Constructors: the region of cells from a on, all of them, to the heap's end. -/
def CL (E : EV) (a : Nat) (es : List va_E) (H : Heap) : Prop := H.size = a + es.length ∧ ∀ (k : Nat) (e : va_E), es[k]? = some e → va_at E.1 vwCl (a + k, e) H
def XI (E : EV) (U : State) : Prop := XE E U ∧ va_AO RX0 U ∧ va_AO RX2 U ∧ va_AO RX3 U
theorem XI.moved {E : EV} {s U : State} (hW : s.WarmedH U.vm) (h : XI E s) : XI E U := ⟨XE.moved hW h.1, va_AO.moved hW.alike h.2.1, va_AO.moved hW.alike h.2.2.1, va_AO.moved hW.alike h.2.2.2⟩
theorem XI.blind {E : EV} (U : State) (g : JFrame) (mk : MethodId) (a : Array Value) (h : XI E U) : XI E (U.calling g mk a) := ⟨XE.blind U g mk a h.1, va_AO.moved (u := U) (U := U.calling g mk a) (Vm.Alike.refl U.vm) h.2.1, va_AO.moved (u := U) (U := U.calling g mk a) (Vm.Alike.refl U.vm) h.2.2.1, va_AO.moved (u := U) (U := U.calling g mk a) (Vm.Alike.refl U.vm) h.2.2.2⟩
/-- the cells of a new State -/
def stL (E : EV) (a : Nat) : List va_E := (List.range 30).map (stC E a 0 1 0 8 0 0 0 (fun _ => 1) (fun _ => 0) (fun _ => 0) (fun _ => -1) (fun _ => -1) (fun _ => -1) (fun _ => 0) (fun _ => 0) (fun _ => 0) (fun _ _ => 0) (fun _ _ => 0) 0 0 0 0 0 (fun _ => 0) (fun _ => 0) (fun _ => 0) (fun _ => 0) (fun _ => 0) (fun _ => 0))
theorem stL_len (E : EV) (a : Nat) : (stL E a).length = 30 := by simp [stL]
section CT
variable {p : Program} {l : Launch} {e : Env} {R : Room} {s : State} {m : MethodId} {args : Array Value} {below : List Frame} {meth : Method} {c : Code} {cells slots : Nat} {Q : State → Prop} {nL : Nat} {A : Nat → Prop} {P P2 : Heap → Prop} {pc : Nat} {lv : List (Nat × Value)} {st : List Value} {cc : ByteArray} {Ts : List Cond} {own : String} {E : EV} {a : Nat} {es es2 : List va_E}
theorem cl_at {H : Heap} (h : CL E a es H) (k : Nat) {e : va_E} (hk : es[k]? = some e) : va_at E.1 vwCl (a + k, e) H := h.2 k e hk
theorem cl_push {H H1 : Heap} {e1 : va_E} (h : CL E a es H) (hz : H1.size = H.size + 1) (hk : ∀ q : Nat, q < H.size → H1[q]? = H[q]?) (h1 : va_at E.1 vwCl (H.size, e1) H1) : CL E a (es ++ [e1]) H1 := by
  refine ⟨by rw [hz, h.1, List.length_append]; rfl, fun k e he => ?_⟩
  by_cases hl : k < es.length
  · rw [List.getElem?_append_left hl] at he
    have h9 := h.2 k e he
    exact h9.kept (hk _ h9.lt)
  · rw [List.getElem?_append_right (by omega)] at he
    have hz2 : k - es.length < 1 := (List.getElem?_eq_some_iff.mp he).1
    have e9 : k = es.length := by omega
    subst e9
    rw [Nat.sub_self] at he
    cases he
    rw [← h.1]
    exact h1
theorem cl_set {H H1 : Heap} {k : Nat} {e1 : va_E} (h : CL E a es H) (hl : k < es.length) (h1 : va_at E.1 vwCl (a + k, e1) H1) (h2 : ∀ q : Nat, q ≠ a + k → H1[q]? = H[q]?) : CL E a (es.set k e1) H1 := by
  have hz : H1.size = H.size := by
    have g1 := k_size h2 h1.lt
    have g2 : H1[H.size]? = H[H.size]? := h2 _ (by rw [h.1]; omega)
    rw [Array.getElem?_eq_none (Nat.le_refl H.size)] at g2
    have g3 := Array.getElem?_eq_none_iff.mp g2
    omega
  refine ⟨by rw [hz, h.1, List.length_set], fun j e he => ?_⟩
  by_cases hj : j = k
  · subst hj
    rw [List.getElem?_set_self hl] at he
    cases he
    exact h1
  · rw [List.getElem?_set_ne (fun z => hj z.symm)] at he
    exact (h.2 j e he).kept (h2 _ (by show a + j ≠ a + k; omega))
theorem cl_tail {H H1 : Heap} {es0 rs : List va_E} {d : va_E} (h : CL E a (es0 ++ [d]) H) (h1 : CL E (a + es0.length) rs H1) (hk : ∀ q : Nat, q < H.size → ¬ (a + es0.length ≤ q) → H1[q]? = H[q]?) : CL E a (es0 ++ rs) H1 := by
  refine ⟨by rw [h1.1, List.length_append]; omega, fun k e he => ?_⟩
  by_cases hl : k < es0.length
  · rw [List.getElem?_append_left hl] at he
    have h9 := h.2 k e (by rw [List.getElem?_append_left hl]; exact he)
    exact h9.kept (hk _ h9.lt (by show ¬ (a + es0.length ≤ a + k); omega))
  · rw [List.getElem?_append_right (by omega)] at he
    have h9 := h1.2 _ e he
    have e9 : a + es0.length + (k - es0.length) = a + k := by omega
    rw [e9] at h9
    exact h9
theorem cl_last {H : Heap} {es0 : List va_E} {d : va_E} (h : CL E a (es0 ++ [d]) H) : CL E (a + es0.length) [d] H := by
  refine ⟨by rw [h.1, List.length_append, List.length_singleton]; omega, fun k e he => ?_⟩
  have hz2 : k < 1 := (List.getElem?_eq_some_iff.mp he).1
  have e9 : k = 0 := by omega
  subst e9
  cases he
  have h9 := h.2 es0.length d (by rw [List.getElem?_append_right (Nat.le_refl _), Nat.sub_self]; rfl)
  exact h9
theorem k_objI (C : CallFix p m c cc nL s args Ts own) {idx : Nat} (hlink : (Cond.methodLink own idx Lib.objectInit).before args s = true) (hinst : (Cond.instanceMethod Lib.objectInit).before args s = true) (hcode : (Cond.code Lib.objectInit ⟨#[0xb1]⟩ 1 none).before args s = true) {q : Nat} (d : decode cc pc = .ok (.invokespecial idx, 3)) (hframes : 1 ≤ R.frames) (hlocals : 2 * 0 + (st.map fun v => v.category).sum + 12 ≤ R.locals) (k : KJ p l e R s m args below meth c nL A cells slots Q P (pc + 3) lv st) : KJ p l e R s m args below meth c nL A cells slots Q P pc lv (.ref q :: st) :=
  fun H locs ls hP hS hl => W.objInit C.1 C.2.1 C.2.2.2.1 hlink hinst hcode rfl (by rw [C.2.2.1]; exact hl.1) rfl d hframes hlocals (k H locs ls hP hS hl)
theorem cl_new (C : CallFix p m c cc nL s args Ts own) (hK : va_K E.1 vwCl (tyE E) s) {Cn : String} {T : u_T} {N ci index : Nat} (hin : ∀ w ∈ u_ws Cn T N, w ∈ Ts) {ty : Nat → FieldType} (hty : ∀ k, k < N → parseFieldDescriptor (T k).2.2.1 = some (ty k)) (hcl : (Cond.classLink own index Cn).before args s = true) (hinst : (Cond.instantiable Cn N).before args s = true) (hini : (Cond.initialized Cn).before args s = true) (hc : vwCl[ci]? = some (Cn, T, N)) {fs : List Value} (hfs : ∀ j, j < N → defaultValue (ty j) = vp_V fs j) (hcells : cells + 1 ≤ R.cells) (hslots : slots + N ≤ R.slots) (d : decode cc pc = .ok (.new index, 3)) {n : Nat} (hn : es.length = n) (h2 : es ++ [.inr (ci, fs)] = es2)
    (k : KJ p l e R s m args below meth c nL A (cells + 1) (slots + N) Q (CL E a es2) (pc + 3) lv (.ref (a + n) :: st)) : KJ p l e R s m args below meth c nL A cells slots Q (CL E a es) pc lv st := by
  subst h2
  subst hn
  intro H locs ls hP hS hl
  have hKn := hK.1 ci _ hc
  refine W.newcK C.1 C.2.1 C.2.2.2.1 hcl hinst hini rfl d hcells hslots hKn.2.1 hP.1 fun H1 kC hkC e1 z1 o1 => ?_
  refine k H1 locs ls (cl_push hP (by rw [z1, hP.1]) (fun q hq => o1 q (by rw [← hP.1]; exact hq)) ?_) ⟨Nat.le_trans hS.1 (by rw [z1, hP.1]; omega), fun x h1 h2 => (o1 x (by rw [← hP.1]; exact Nat.lt_of_lt_of_le h1 hS.1)).trans (hS.2.1 x h1 h2), hS.2.2⟩ hl
  rw [hP.1]
  exact ⟨_, hc, (u_born ty C.2.2.2.2 hin hKn hkC e1 hty).to hfs⟩
theorem cl_newi (C : CallFix p m c cc nL s args Ts own) (hK : va_K E.1 vwCl (tyE E) s) (harr : (Cond.arrayClass .int).before args s = true) {n : Int32} {N : Nat} (hn0 : ¬ n < 0) (hN : n.toNatClampNeg = N) (hbytes : N * componentBytes .int ≤ 536870912) (hcells : cells + 1 ≤ R.cells) (hslots : slots + N ≤ R.slots) (d : decode cc pc = .ok (.newarray .int, 2)) {len : Nat} (hn : es.length = len) (h2 : es ++ [.inl (E.2 0, N, .inl (fun _ => 0))] = es2)
    (k : KJ p l e R s m args below meth c nL A (cells + 1) (slots + N) Q (CL E a es2) (pc + 2) lv (.ref (a + len) :: st)) : KJ p l e R s m args below meth c nL A cells slots Q (CL E a es) pc lv (.int n :: st) := by
  subst h2
  subst hn
  intro H locs ls hP hS hl
  refine va_newaK C.1 C.2.1 (atype := .int) harr rfl d rfl hn0 hN hbytes hcells hslots hP.1 fun H1 cA e1 z1 o1 hAr hNm => ?_
  have hcA : E.2 0 = cA := Option.some.inj ((hK.2 0 (E.2 0, .int) rfl).2.symm.trans hNm)
  subst hcA
  refine k H1 locs ls (cl_push hP (by rw [z1, hP.1]) (fun q hq => o1 q (by rw [← hP.1]; exact hq)) ?_) ⟨Nat.le_trans hS.1 (by rw [z1, hP.1]; omega), fun x h1 h2 => (o1 x (by rw [← hP.1]; exact Nat.lt_of_lt_of_le h1 hS.1)).trans (hS.2.1 x h1 h2), hS.2.2⟩ hl
  rw [hP.1]
  exact e1
theorem cl_newl (C : CallFix p m c cc nL s args Ts own) (hK : va_K E.1 vwCl (tyE E) s) (harr : (Cond.arrayClass .long).before args s = true) {n : Int32} {N : Nat} (hn0 : ¬ n < 0) (hN : n.toNatClampNeg = N) (hbytes : N * componentBytes .long ≤ 536870912) (hcells : cells + 1 ≤ R.cells) (hslots : slots + N ≤ R.slots) (d : decode cc pc = .ok (.newarray .long, 2)) {len : Nat} (hn : es.length = len) (h2 : es ++ [.inl (E.2 4, N, .inr (.inl (fun _ => 0)))] = es2)
    (k : KJ p l e R s m args below meth c nL A (cells + 1) (slots + N) Q (CL E a es2) (pc + 2) lv (.ref (a + len) :: st)) : KJ p l e R s m args below meth c nL A cells slots Q (CL E a es) pc lv (.int n :: st) := by
  subst h2
  subst hn
  intro H locs ls hP hS hl
  refine va_newaK C.1 C.2.1 (atype := .long) harr rfl d rfl hn0 hN hbytes hcells hslots hP.1 fun H1 cA e1 z1 o1 hAr hNm => ?_
  have hcA : E.2 4 = cA := Option.some.inj ((hK.2 4 (E.2 4, .long) rfl).2.symm.trans hNm)
  subst hcA
  refine k H1 locs ls (cl_push hP (by rw [z1, hP.1]) (fun q hq => o1 q (by rw [← hP.1]; exact hq)) ?_) ⟨Nat.le_trans hS.1 (by rw [z1, hP.1]; omega), fun x h1 h2 => (o1 x (by rw [← hP.1]; exact Nat.lt_of_lt_of_le h1 hS.1)).trans (hS.2.1 x h1 h2), hS.2.2⟩ hl
  rw [hP.1]
  exact e1
theorem cl_newq (C : CallFix p m c cc nL s args Ts own) (hK : va_K E.1 vwCl (tyE E) s) {Cn : String} {index t0 : Nat} {cA0 : ClassId} (ht : (tyE E)[t0]? = some (cA0, .object Cn)) (hclink : (Cond.classLink own index Cn).before args s = true) (hover : va_AO Cn s) {n : Int32} {N : Nat} (hn0 : ¬ n < 0) (hN : n.toNatClampNeg = N) (hbytes : N * 4 ≤ 536870912) (hcells : cells + 1 ≤ R.cells) (hslots : slots + N ≤ R.slots) (d : decode cc pc = .ok (.anewarray index, 3)) {len : Nat} (hn : es.length = len) (h2 : es ++ [.inl (cA0, N, .inr (.inr (.inr (.inr (fun _ => none)))))] = es2)
    (k : KJ p l e R s m args below meth c nL A (cells + 1) (slots + N) Q (CL E a es2) (pc + 3) lv (.ref (a + len) :: st)) : KJ p l e R s m args below meth c nL A cells slots Q (CL E a es) pc lv (.int n :: st) := by
  subst h2
  subst hn
  subst hN
  intro H locs ls hP hS hl
  refine W.anew C.1 C.2.1 C.2.2.2.1 hclink (va_AO.use hover) rfl d rfl hn0 hbytes hcells hslots fun cA kA comp f1 f2 f3 f4 => ?_
  obtain ⟨-, -, -, -, -, g5⟩ := (hK.2 t0 _ ht).2
  have hcA : cA0 = cA := Option.some.inj (g5.symm.trans f1)
  subst hcA
  generalize hH1 : H.push ({ cls := cA0, slots := Array.replicate n.toNatClampNeg .null, vm := .none } : Cell) = H1
  have z1 : H1.size = H.size + 1 := by rw [← hH1, Array.size_push]
  have e1 : H1[H.size]? = some (arrV cA0 n.toNatClampNeg (fun _ => .null)) := by rw [← hH1, Array.getElem?_push_size, ← arrV_new]
  have o1 : ∀ q : Nat, q < H.size → H1[q]? = H[q]? := fun q hq => by rw [← hH1, Array.getElem?_push, if_neg (Nat.ne_of_lt hq)]
  have k9 := k H1 locs ls (cl_push hP z1 o1 (by show H1[H.size]? = some (vp_cell _ _); rw [vp_cell_q]; exact e1)) ⟨Nat.le_trans hS.1 (by rw [z1]; omega), fun x h1 h2 => (o1 x (Nat.lt_of_lt_of_le h1 hS.1)).trans (hS.2.1 x h1 h2), hS.2.2⟩ hl
  rw [← hP.1] at k9
  exact k9
theorem cl_get (C : CallFix p m c cc nL s args Ts own) (hK : va_K E.1 vwCl (tyE E) s) (q : Nat) {ci : Nat} {fs : List Value} (hq : es[q]? = some (.inr (ci, fs))) {Cn : String} {T : u_T} {N : Nat} (hc : vwCl[ci]? = some (Cn, T, N)) (hin : ∀ w ∈ u_ws Cn T N, w ∈ Ts) (k : Nat) (hk : k < N) {v : Value} (hv : fs[k]? = some v) {index : Nat} {nm ds : String} (hT : (T k).2.1 = nm ∧ (T k).2.2.1 = ds) {ref : String} (hrf : (T k).1 = ref) (hlink : (Cond.fieldLink own index ref nm ds).before args s = true) (d : decode cc pc = .ok (.getfield index, 3)) {a0 : Nat} (ha : a + q = a0)
    (kk : KJ p l e R s m args below meth c nL A cells slots Q (CL E a es) (pc + 3) lv (v :: st)) : KJ p l e R s m args below meth c nL A cells slots Q (CL E a es) pc lv (.ref a0 :: st) := by
  subst ha
  exact k_get C hK (fun H hP => cl_at hP q hq) hc hin k hk hv hT hrf hlink d kk
theorem cl_put (C : CallFix p m c cc nL s args Ts own) (hA : ∀ q, a ≤ q → A q) (hK : va_K E.1 vwCl (tyE E) s) (q : Nat) {ci : Nat} {fs : List Value} (hq : es[q]? = some (.inr (ci, fs))) {Cn : String} {T : u_T} {N : Nat} (hc : vwCl[ci]? = some (Cn, T, N)) (hin : ∀ w ∈ u_ws Cn T N, w ∈ Ts) {ty0 : Nat → FieldType} (hty : ∀ k, k < N → parseFieldDescriptor (T k).2.2.1 = some (ty0 k)) (hnm : ∀ a, a < N → ∀ b, b < N → a ≠ b → (T a).2.1 ≠ (T b).2.1) (k : Nat) (hk : k < N) {v : Value} (hfin : (T k).2.2.2 = false) (hn : narrow (ty0 k) v = v) (hfit : fits (ty0 k) v = true) (hl : k < fs.length) {index : Nat} {nm ds : String} (hT : (T k).2.1 = nm ∧ (T k).2.2.1 = ds) {ref : String} (hrf : (T k).1 = ref) (hlink : (Cond.fieldLink own index ref nm ds).before args s = true) (d : decode cc pc = .ok (.putfield index, 3)) (h2 : es.set q (.inr (ci, fs.set k v)) = es2) {a0 : Nat} (ha : a + q = a0)
    (kk : KJ p l e R s m args below meth c nL A cells slots Q (CL E a es2) (pc + 3) lv st) : KJ p l e R s m args below meth c nL A cells slots Q (CL E a es) pc lv (v :: .ref a0 :: st) := by
  subst h2
  subst ha
  exact k_put C hK (fun H hP => cl_at hP q hq) (hA _ (Nat.le_add_right _ _)) hc hin hty hnm k hk hfin hn hfit hl hT hrf hlink d (fun H H1 hP h1 h9 => cl_set hP (List.getElem?_eq_some_iff.mp hq).1 h1 h9) kk
theorem k_putF (C : CallFix p m c cc nL s args Ts own) {D : va_G} {tys : List (ClassId × FieldType)} (hinm : meth.name = "<init>") (hK : va_K D vwCl tys s) {a ci : Nat} {fs : List Value} (hg : ∀ H, P H → va_at D vwCl (a, .inr (ci, fs)) H) (hA : A a) {Cn : String} {T : u_T} {N : Nat} (hc : vwCl[ci]? = some (Cn, T, N)) (hin : ∀ w ∈ u_ws Cn T N, w ∈ Ts) {ty0 : Nat → FieldType} (hty : ∀ k, k < N → parseFieldDescriptor (T k).2.2.1 = some (ty0 k)) (hnm : ∀ a, a < N → ∀ b, b < N → a ≠ b → (T a).2.1 ≠ (T b).2.1) (k : Nat) (hk : k < N) {v : Value} (hfin : (T k).2.2.2 = true) (hdecl : (T k).1 = own) (hn : narrow (ty0 k) v = v) (hfit : fits (ty0 k) v = true) (hl : k < fs.length) {index : Nat} {nm ds : String} (hT : (T k).2.1 = nm ∧ (T k).2.2.1 = ds) {ref : String} (hrf : (T k).1 = ref) (hlink : (Cond.fieldLink own index ref nm ds).before args s = true) (d : decode cc pc = .ok (.putfield index, 3))
    (hset : ∀ H H1, P H → va_at D vwCl (a, .inr (ci, fs.set k v)) H1 → (∀ q : Nat, q ≠ a → H1[q]? = H[q]?) → P2 H1)
    (kk : KJ p l e R s m args below meth c nL A cells slots Q P2 (pc + 3) lv st) : KJ p l e R s m args below meth c nL A cells slots Q P pc lv (v :: .ref a :: st) := by
  obtain ⟨rfl, rfl⟩ := hT
  subst hrf
  intro H locs ls hP hS hl9
  have hap := va_apart (own := own) C.2.2.2.2 hin ty0 hty hnm hK hc
  obtain ⟨r, h1, cell, q1, q2, q3, q4⟩ := hg H hP
  have hr : r = (Cn, T, N) := Option.some.inj (h1.symm.trans hc)
  subst hr
  obtain ⟨hSl, hfc, kC, hkC, hkind⟩ := hK.1 ci _ hc
  obtain ⟨cf, kf, fi, f, hi, hsl⟩ := hSl k hk
  have hlay := C.2.2.2.2 _ (hin _ (u_in_lay hk))
  unfold u_lay at hlay
  rw [if_pos hfin] at hlay
  have hst := (u_facts hfc hkC (u_lays C.2.2.2.2 hin hk) hi).1
  have hcf : m.cls = cf := by
    obtain ⟨_, _, c', _, _, _, -, -, hf', -, -, -, hown2, -⟩ := Cond.laysFinal_spec hlay
    have e1 : c' = cf := by have := hi.symm.trans hf'; simp at this; exact this.1.symm
    rw [hdecl] at hown2
    rw [← e1]; exact Option.some.inj (C.2.2.2.1.symm.trans hown2)
  have h6 := u_fits hfc hkC hkind (Or.inr hlay) hi (hty k hk) hn hfit
  refine W.putFinK C.1 C.2.1 C.2.2.2.1 hlink hi hst hcf hinm (by rw [q2]; exact h6) q1 q3 (by rw [hsl]; exact k2_hasslot (q4 k hk)) rfl rfl d fun H' e1 e2 e3 => ?_
  rw [hsl] at e1 ⊢
  exact kk H' _ ls (hset H H' hP ⟨_, hc, t_OB.to (V := updV (vp_V fs) k v) ⟨_, e1, q2, q3, t_set q4 hap hk v⟩ (fun j _ => vp_updV_set hl v j)⟩ e3) (hS.put e2 e3 hA) hl9
theorem cl_putF (C : CallFix p m c cc nL s args Ts own) (hinm : meth.name = "<init>") (hA : ∀ q, a ≤ q → A q) (hK : va_K E.1 vwCl (tyE E) s) (q : Nat) {ci : Nat} {fs : List Value} (hq : es[q]? = some (.inr (ci, fs))) {Cn : String} {T : u_T} {N : Nat} (hc : vwCl[ci]? = some (Cn, T, N)) (hin : ∀ w ∈ u_ws Cn T N, w ∈ Ts) {ty0 : Nat → FieldType} (hty : ∀ k, k < N → parseFieldDescriptor (T k).2.2.1 = some (ty0 k)) (hnm : ∀ a, a < N → ∀ b, b < N → a ≠ b → (T a).2.1 ≠ (T b).2.1) (k : Nat) (hk : k < N) {v : Value} (hfin : (T k).2.2.2 = true) (hdecl : (T k).1 = own) (hn : narrow (ty0 k) v = v) (hfit : fits (ty0 k) v = true) (hl : k < fs.length) {index : Nat} {nm ds : String} (hT : (T k).2.1 = nm ∧ (T k).2.2.1 = ds) {ref : String} (hrf : (T k).1 = ref) (hlink : (Cond.fieldLink own index ref nm ds).before args s = true) (d : decode cc pc = .ok (.putfield index, 3)) (h2 : es.set q (.inr (ci, fs.set k v)) = es2) {a0 : Nat} (ha : a + q = a0)
    (kk : KJ p l e R s m args below meth c nL A cells slots Q (CL E a es2) (pc + 3) lv st) : KJ p l e R s m args below meth c nL A cells slots Q (CL E a es) pc lv (v :: .ref a0 :: st) := by
  subst h2
  subst ha
  exact k_putF C hinm hK (fun H hP => cl_at hP q hq) (hA _ (Nat.le_add_right _ _)) hc hin hty hnm k hk hfin hdecl hn hfit hl hT hrf hlink d (fun H H1 hP h1 h9 => cl_set hP (List.getElem?_eq_some_iff.mp hq).1 h1 h9) kk
theorem cl_iast (C : CallFix p m c cc nL s args Ts own) (hA : ∀ q, a ≤ q → A q) (hK : va_K E.1 vwCl (tyE E) s) (q : Nat) {N : Nat} {f : Nat → Int32} (hq : es[q]? = some (.inl (E.2 0, N, .inl f))) {i x : Int32} (hin : vp_in i N) (d : decode cc pc = .ok (.iastore, 1)) (h2 : es.set q (.inl (E.2 0, N, .inl (upd f i.toNatClampNeg x))) = es2) {a0 : Nat} (ha : a + q = a0) (kk : KJ p l e R s m args below meth c nL A cells slots Q (CL E a es2) (pc + 1) lv st) : KJ p l e R s m args below meth c nL A cells slots Q (CL E a es) pc lv (.int x :: .int i :: .ref a0 :: st) := by
  subst h2
  subst ha
  exact k_iast C hK (fun H hP => cl_at hP q hq) (hA _ (Nat.le_add_right _ _)) 0 rfl hin d (fun H H1 hP h1 h9 => cl_set hP (List.getElem?_eq_some_iff.mp hq).1 h1 h9) kk
theorem cl_aast (C : CallFix p m c cc nL s args Ts own) (hA : ∀ q, a ≤ q → A q) (hK : va_K E.1 vwCl (tyE E) s) (q : Nat) {N : Nat} {cA : ClassId} {f : Nat → Option Nat} (hq : es[q]? = some (.inl (cA, N, .inr (.inr (.inr (.inr (f))))))) (t0 ci : Nat) {r : vw_C} (ht : (tyE E)[t0]? = some (cA, .object r.1)) (q1 : Nat) {vs : List Value} (hv : es[q1]? = some (.inr (ci, vs))) (hc : vwCl[ci]? = some r) {i : Int32} (hin : vp_in i N) (d : decode cc pc = .ok (.aastore, 1)) {a0 a1 : Nat} (ha : a + q = a0) (ha1 : a + q1 = a1) (h2 : es.set q (.inl (cA, N, .inr (.inr (.inr (.inr (va_up f i.toNatClampNeg (some a1))))))) = es2) (kk : KJ p l e R s m args below meth c nL A cells slots Q (CL E a es2) (pc + 1) lv st) : KJ p l e R s m args below meth c nL A cells slots Q (CL E a es) pc lv (.ref a1 :: .int i :: .ref a0 :: st) := by
  subst h2
  subst ha
  subst ha1
  exact k_aast C hK (fun H hP => cl_at hP q hq) (hA _ (Nat.le_add_right _ _)) t0 ci ht (fun H hP => cl_at hP q1 hv) hc hin d (fun H H1 hP h1 h9 => cl_set hP (List.getElem?_eq_some_iff.mp hq).1 h1 h9) kk
variable {y : MethodName} {ws : List Cond} {rm : Room} {b n index maxL mc ms : Nat} {bytes : ByteArray}
theorem cl_call (C : CallFix p m c cc nL s args Ts own) (hE : XI E s) (hA : ∀ q, a ≤ q → A q) {es0 rs : List va_E} {dd : va_E} {len : Nat} (hM : Met l y ws rm (va_Pc [.ref (a + len)] (fun U => CL E (a + len) [dd] U.heap ∧ XI E U)) (kQv (CL E (a + len) rs) (fun q => a + len ≤ q)) mc ms (fun q => a + len ≤ q)) (cw : CallB R s args own index y bytes maxL none ws rm mc ms 0 ∧ y.name = "<init>" ∧ (Cond.instanceMethod y).before args s = true) (hes : es = es0 ++ [dd]) (hlen : es0.length = len) (hroom : (st.map fun v => v.category).sum ≤ 8) (d : decode cc pc = .ok (.invokespecial index, 3)) (hf : cells + mc ≤ R.cells ∧ slots + ms ≤ R.slots) (h2 : es0 ++ rs = es2)
    (k : KJ p l e R s m args below meth c nL A (cells + mc) (slots + ms) Q (CL E a es2) (pc + 3) lv st) : KJ p l e R s m args below meth c nL A cells slots Q (CL E a es) pc lv (.ref (a + len) :: st) := by
  subst hes
  subst hlen
  subst h2
  exact k_runv (CL E a (es0 ++ rs)) (fun H locs ls hP hS hl => va_runI (As := []) (rest := st) C hM cw ⟨k_blind XI.blind, fun U hU hW => ⟨rfl, by rw [hU]; exact cl_last hP, XI.moved hW hE⟩⟩ rfl rfl hl.1 rfl (lv_room hroom) d hf) (fun q h => hA q (Nat.le_trans (Nat.le_add_right _ _) h)) (fun _ H H1 hP hp _ hk => cl_tail hP hp hk) (fun _ => k)
/-- a constructor's body -/
theorem ki_body {ws ws' : List Cond} {X : State → Prop} {Qc : Array Value → State → Outcome → State → Prop} {h0 : Nat}
    (hy : plainName y.cls = true) (hyn : y.name = "<init>") (ho : y.cls = own) (hw : ws = Cond.code y cc maxL none :: ws') (hle : 1 ≤ maxL)
    (body : ∀ p e s m below meth c, CallFix p m c cc maxL s [Value.ref h0].toArray ws own → meth.sig.returnType = none → meth.locks = false → meth.name = "<init>" → P s.heap → X s → KJ p l e (headSpec ws rm).room s m [Value.ref h0].toArray below meth c maxL A 0 0 (MQ below Qc [Value.ref h0].toArray s mc ms A) P 0 [(0, .ref h0)] []) :
    Met l y ws rm (va_Pc [.ref h0] (fun U => P U.heap ∧ X U)) Qc mc ms A := by
  refine Met.ofW (cc := cc) (maxL := maxL) (ret := none) hy hw ?_
  intro p e s m args below meth c s₁ B hml hv
  obtain ⟨rfl, hP, hX⟩ := hv
  have hl := lv_entry [Value.ref h0] (n := maxL) hle
  rw [lg_entry_eq]
  exact body p e s m below meth c ⟨B.exec, B.bytes, hml, ho ▸ findClass_of_methodNamed B.named, atoms_spec (ws := ws) B.pre⟩ B.returns B.notSynchronized ((name_of_methodNamed B.named B.method).1.trans hyn) hP hX s.heap [] _ hP va_S.rf hl
theorem ki_ret (C : CallFix p m c cc nL s args Ts own) (hr : meth.sig.returnType = none) (hlocks : meth.locks = false) {post : Heap → Prop} (d : decode cc pc = .ok (.return_, 1)) (h1 : cells ≤ mc) (h2 : slots ≤ ms) (hp : ∀ H, P H → post H) : KJ p l e R s m args below meth c nL A cells slots (MQ below (kQv post A) args s mc ms A) P pc lv [] := k_wide h1 h2 (k_vret C hr hlocks d hp)
end CT
theorem va_ref_congr {D : va_G} {q N : Nat} {cA : ClassId} {f g : Nat → Option Nat} {H : Heap} (hfg : ∀ j, j < N → f j = g j) (h : va_at D vwCl (q, .inl (cA, N, .inr (.inr (.inr (.inr (f)))))) H) : va_at D vwCl (q, .inl (cA, N, .inr (.inr (.inr (.inr (g)))))) H := by
  have e : vp_cell cA (N, .inr (.inr (.inr (.inr (f))))) = vp_cell cA (N, .inr (.inr (.inr (.inr (g))))) := by
    rw [vp_cell_q, vp_cell_q]
    have h9 : ∀ (F G : Nat → Value), (∀ j, j < N → F j = G j) → arrV cA N F = arrV cA N G := fun F G hh => by
      unfold arrV
      congr 1
      apply Array.ext
      · simp
      · intro i h1 h2
        simp at h1
        simp [hh i h1]
    exact h9 _ _ (fun j hj => by rw [hfg j hj])
  show H[q]? = some (vp_cell cA (N, .inr (.inr (.inr (.inr (g))))))
  rw [← e]
  exact h
