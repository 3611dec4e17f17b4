/-! The world of the component: the object at b, its State at b + 1, its row at b + 31, three more States from b + 32 on. -/
abbrev TT : Type := Int32 × Int64 × Int32 × Int32 × Int32 × Int32 × Int32 × (Nat → Int32) × (Nat → Int32) × (Nat → Int32) × (Nat → Int32) × (Nat → Int32) × (Nat → Int32) × (Nat → Int32) × (Nat → Int32) × (Nat → Int32) × (Nat → Nat → Int32) × (Nat → Nat → Int32) × Int32 × Int32 × Int32 × Int32 × Int32 × (Nat → Int32) × (Nat → Int32) × (Nat → Int32) × (Nat → Int32) × (Nat → Int32) × (Nat → Int32)
def stT (E : EV) (a : Nat) (t : TT) (H : Heap) : Prop := stP E a t.1 t.2.1 t.2.2.1 t.2.2.2.1 t.2.2.2.2.1 t.2.2.2.2.2.1 t.2.2.2.2.2.2.1 t.2.2.2.2.2.2.2.1 t.2.2.2.2.2.2.2.2.1 t.2.2.2.2.2.2.2.2.2.1 t.2.2.2.2.2.2.2.2.2.2.1 t.2.2.2.2.2.2.2.2.2.2.2.1 t.2.2.2.2.2.2.2.2.2.2.2.2.1 t.2.2.2.2.2.2.2.2.2.2.2.2.2.1 t.2.2.2.2.2.2.2.2.2.2.2.2.2.2.1 t.2.2.2.2.2.2.2.2.2.2.2.2.2.2.2.1 t.2.2.2.2.2.2.2.2.2.2.2.2.2.2.2.2.1 t.2.2.2.2.2.2.2.2.2.2.2.2.2.2.2.2.2.1 t.2.2.2.2.2.2.2.2.2.2.2.2.2.2.2.2.2.2.1 t.2.2.2.2.2.2.2.2.2.2.2.2.2.2.2.2.2.2.2.1 t.2.2.2.2.2.2.2.2.2.2.2.2.2.2.2.2.2.2.2.2.1 t.2.2.2.2.2.2.2.2.2.2.2.2.2.2.2.2.2.2.2.2.2.1 t.2.2.2.2.2.2.2.2.2.2.2.2.2.2.2.2.2.2.2.2.2.2.1 t.2.2.2.2.2.2.2.2.2.2.2.2.2.2.2.2.2.2.2.2.2.2.2.1 t.2.2.2.2.2.2.2.2.2.2.2.2.2.2.2.2.2.2.2.2.2.2.2.2.1 t.2.2.2.2.2.2.2.2.2.2.2.2.2.2.2.2.2.2.2.2.2.2.2.2.2.1 t.2.2.2.2.2.2.2.2.2.2.2.2.2.2.2.2.2.2.2.2.2.2.2.2.2.2.1 t.2.2.2.2.2.2.2.2.2.2.2.2.2.2.2.2.2.2.2.2.2.2.2.2.2.2.2.1 t.2.2.2.2.2.2.2.2.2.2.2.2.2.2.2.2.2.2.2.2.2.2.2.2.2.2.2.2 H
def sao (k : Nat) : Nat := if k = 0 then 1 else 2 + 30 * k
def sa (b k : Nat) : Nat := b + sao k
def inX (b : Nat) : Nat → Prop := fun q => b ≤ q ∧ q < b + 122
abbrev XW : Type := Nat → (Nat → Nat) → Int32 → (Nat → TT) → Heap → Prop
def xP (E : EV) (b : Nat) (cur : Nat) (sav : Nat → Nat) (cnt : Int32) (ST : Nat → TT) (H : Heap) : Prop :=
  va_at E.1 vwCl (b, .inr (4, [.ref (sa b cur), .ref (b + (31)), .int cnt])) H ∧ va_at E.1 vwCl (b + (31), .inl (E.2 3, 3, .inr (.inr (.inr (.inr (fun i => some (sa b (sav i)))))))) H ∧ ∀ k, k < 4 → stT E (sa b k) (ST k) H
def FocX (E : EV) (b : Nat) (P : XW) : Prop := (∀ cur sav cnt ST (H : Heap), P cur sav cnt ST H → xP E b cur sav cnt ST H) ∧ ∀ cur sav cnt ST cur2 sav2 cnt2 ST2 (H H1 : Heap), P cur sav cnt ST H → xP E b cur2 sav2 cnt2 ST2 H1 → H.size ≤ H1.size → (∀ q : Nat, q < H.size → ¬ inX b q → H1[q]? = H[q]?) → P cur2 sav2 cnt2 ST2 H1
def XF (P : XW) (cur : Nat) (sav : Nat → Nat) (cnt : Int32) (ST : Nat → TT) : PF := fun now rnd jm rp sc dc cn sUp sLen sWrk sReg sFst sLst dPol dPtr dCnt dIdl dKnw jCnt jFin jBeg jWs jMis jSrv jLft jSub jWai jNxt cnd H => P cur sav cnt (va_up ST cur (now, rnd, jm, rp, sc, dc, cn, sUp, sLen, sWrk, sReg, sFst, sLst, dPol, dPtr, dCnt, dIdl, dKnw, jCnt, jFin, jBeg, jWs, jMis, jSrv, jLft, jSub, jWai, jNxt, cnd)) H
theorem focX_self (E : EV) (b : Nat) : FocX E b (xP E b) := ⟨fun _ _ _ _ _ h => h, fun _ _ _ _ _ _ _ _ _ _ _ h _ _ => h⟩
theorem sao_in {k q b : Nat} (hk : k < 4) (h : inSt (sa b k) q) : inX b q := by
  unfold inSt sa sao at h
  unfold inX
  split at h <;> omega
theorem sao_ne {k k2 q b : Nat} (hk : k < 4) (hk2 : k2 < 4) (hn : k ≠ k2) (h : inSt (sa b k) q) : ¬ inSt (sa b k2) q := by
  unfold inSt sa sao at *
  split at h <;> split <;> omega
theorem sao_b {k b : Nat} (hk : k < 4) : ¬ inSt (sa b k) b ∧ ¬ inSt (sa b k) (b + 31) := by
  unfold inSt sa sao
  split <;> constructor <;> omega
theorem stT_kept {E : EV} {a : Nat} {t : TT} {H H1 : Heap} (h : stT E a t H) (hk : ∀ q : Nat, q < H.size → inSt a q → H1[q]? = H[q]?) : stT E a t H1 := stP_kept h hk
section XL
variable {E : EV} {b cur : Nat} {sav : Nat → Nat} {cnt : Int32} {ST : Nat → TT} {P : XW} {now : Int32} {rnd : Int64} {jm : Int32} {rp : Int32} {sc : Int32} {dc : Int32} {cn : Int32} {sUp : Nat → Int32} {sLen : Nat → Int32} {sWrk : Nat → Int32} {sReg : Nat → Int32} {sFst : Nat → Int32} {sLst : Nat → Int32} {dPol : Nat → Int32} {dPtr : Nat → Int32} {dCnt : Nat → Int32} {dIdl : Nat → Nat → Int32} {dKnw : Nat → Nat → Int32} {jCnt : Int32} {jFin : Int32} {jBeg : Int32} {jWs : Int32} {jMis : Int32} {jSrv : Nat → Int32} {jLft : Nat → Int32} {jSub : Nat → Int32} {jWai : Nat → Int32} {jNxt : Nat → Int32} {cnd : Nat → Int32}
theorem xP_grow {H H1 : Heap} (h : xP E b cur sav cnt ST H) (hk : ∀ q : Nat, q < H.size → H1[q]? = H[q]?) : xP E b cur sav cnt ST H1 := ⟨h.1.kept (hk _ h.1.lt), h.2.1.kept (hk _ h.2.1.lt), fun k hk4 => stT_kept (h.2.2 k hk4) (fun q hq _ => hk q hq)⟩
theorem x_grow (FX : FocX E b P) {H H1 : Heap} (h : P cur sav cnt ST H) (hz : H.size ≤ H1.size) (hk : ∀ q : Nat, q < H.size → H1[q]? = H[q]?) : P cur sav cnt ST H1 := FX.2 _ _ _ _ _ _ _ _ H H1 h (xP_grow (FX.1 _ _ _ _ H h) hk) hz (fun q hq _ => hk q hq)
theorem x_g (FX : FocX E b P) : ∀ H, P cur sav cnt ST H → xP E b cur sav cnt ST H := FX.1 _ _ _ _
theorem xf_g (FX : FocX E b P) : ∀ H, XF P cur sav cnt ST now rnd jm rp sc dc cn sUp sLen sWrk sReg sFst sLst dPol dPtr dCnt dIdl dKnw jCnt jFin jBeg jWs jMis jSrv jLft jSub jWai jNxt cnd H → xP E b cur sav cnt (va_up ST cur (now, rnd, jm, rp, sc, dc, cn, sUp, sLen, sWrk, sReg, sFst, sLst, dPol, dPtr, dCnt, dIdl, dKnw, jCnt, jFin, jBeg, jWs, jMis, jSrv, jLft, jSub, jWai, jNxt, cnd)) H := FX.1 _ _ _ _
/-- a State of the world other than by focus: k -/
theorem xP_set {H H1 : Heap} {k : Nat} {t : TT} (hk : k < 4) (h : xP E b cur sav cnt ST H) (h1 : stT E (sa b k) t H1) (hf : ∀ q : Nat, q < H.size → ¬ inSt (sa b k) q → H1[q]? = H[q]?) : xP E b cur sav cnt (va_up ST k t) H1 := by
  refine ⟨h.1.kept (hf _ h.1.lt (sao_b hk).1), h.2.1.kept (hf _ h.2.1.lt (sao_b hk).2), fun k2 hk2 => ?_⟩
  by_cases e : k2 = k
  · subst e
    rw [va_us]
    exact h1
  · rw [va_un _ _ e]
    exact stT_kept (h.2.2 k2 hk2) (fun q hq hi => hf q hq (sao_ne hk2 hk e hi))
theorem va_uu {α : Type} (f : Nat → α) (k : Nat) (v v2 : α) : va_up (va_up f k v) k v2 = va_up f k v2 := by
  funext j
  by_cases h : j = k
  · simp [va_up, h]
  · simp [va_up, h]
theorem va_ud {α : Type} {f : Nat → α} {k : Nat} {v : α} (h : f k = v) : va_up f k v = f := by
  funext j
  by_cases e : j = k
  · simp [va_up, e, h]
  · simp [va_up, e]
theorem foc_x (FX : FocX E b P) (hcur : cur < 4) {a : Nat} (ea : a = sa b cur) : Foc E a (XF P cur sav cnt ST) := by
  subst ea
  refine ⟨fun _ _ _ _ _ _ _ _ _ _ _ _ _ _ _ _ _ _ _ _ _ _ _ _ _ _ _ _ _ H h => ?_, fun _ _ _ _ _ _ _ _ _ _ _ _ _ _ _ _ _ _ _ _ _ _ _ _ _ _ _ _ _ now2 rnd2 jm2 rp2 sc2 dc2 cn2 sUp2 sLen2 sWrk2 sReg2 sFst2 sLst2 dPol2 dPtr2 dCnt2 dIdl2 dKnw2 jCnt2 jFin2 jBeg2 jWs2 jMis2 jSrv2 jLft2 jSub2 jWai2 jNxt2 cnd2 H H1 h h1 hz hf => ?_⟩
  · have h9 := (FX.1 _ _ _ _ H h).2.2 cur hcur
    rw [va_us] at h9
    exact h9
  · have h9 := xP_set (t := (now2, rnd2, jm2, rp2, sc2, dc2, cn2, sUp2, sLen2, sWrk2, sReg2, sFst2, sLst2, dPol2, dPtr2, dCnt2, dIdl2, dKnw2, jCnt2, jFin2, jBeg2, jWs2, jMis2, jSrv2, jLft2, jSub2, jWai2, jNxt2, cnd2)) hcur (FX.1 _ _ _ _ H h) h1 hf
    rw [va_uu] at h9
    exact FX.2 _ _ _ _ _ _ _ _ H H1 h h9 hz (fun q hq hn => hf q hq (fun z => hn (sao_in hcur z)))
theorem xf_of (h : ST cur = (now, rnd, jm, rp, sc, dc, cn, sUp, sLen, sWrk, sReg, sFst, sLst, dPol, dPtr, dCnt, dIdl, dKnw, jCnt, jFin, jBeg, jWs, jMis, jSrv, jLft, jSub, jWai, jNxt, cnd)) : ∀ H, P cur sav cnt ST H → XF P cur sav cnt ST now rnd jm rp sc dc cn sUp sLen sWrk sReg sFst sLst dPol dPtr dCnt dIdl dKnw jCnt jFin jBeg jWs jMis jSrv jLft jSub jWai jNxt cnd H := fun H hP => by
  show P cur sav cnt (va_up ST cur (now, rnd, jm, rp, sc, dc, cn, sUp, sLen, sWrk, sReg, sFst, sLst, dPol, dPtr, dCnt, dIdl, dKnw, jCnt, jFin, jBeg, jWs, jMis, jSrv, jLft, jSub, jWai, jNxt, cnd)) H
  rw [va_ud h]
  exact hP
theorem xf_to : ∀ H, XF P cur sav cnt ST now rnd jm rp sc dc cn sUp sLen sWrk sReg sFst sLst dPol dPtr dCnt dIdl dKnw jCnt jFin jBeg jWs jMis jSrv jLft jSub jWai jNxt cnd H → P cur sav cnt (va_up ST cur (now, rnd, jm, rp, sc, dc, cn, sUp, sLen, sWrk, sReg, sFst, sLst, dPol, dPtr, dCnt, dIdl, dKnw, jCnt, jFin, jBeg, jWs, jMis, jSrv, jLft, jSub, jWai, jNxt, cnd)) H := fun H hP => hP
theorem in_x {A : Nat → Prop} (hA : ∀ q, inX b q → A q) (hcur : cur < 4) {a : Nat} (ea : a = sa b cur) : ∀ q, inSt a q → A q := fun q h => hA q (sao_in hcur (ea ▸ h))
end XL
section XR
variable {p : Program} {l : Launch} {e : Env} {R : Room} {s : State} {m : MethodId} {args : Array Value} {below : List Frame} {meth : Method} {c : Code} {cells slots : Nat} {Q : State → Prop} {nL : Nat} {A : Nat → Prop} {pc : Nat} {lv : List (Nat × Value)} {st : List Value} {cc : ByteArray} {Ts : List Cond} {own : String} {E : EV} {b cur : Nat} {sav : Nat → Nat} {cnt : Int32} {ST : Nat → TT} {P : XW} {Pw : Heap → Prop}
theorem xg_state (C : CallFix p m c cc nL s args Ts own) (O : ∀ H, Pw H → xP E b cur sav cnt ST H) (hK : va_K E.1 vwCl (tyE E) s) (hin : ∀ w ∈ u_ws RX4 TX4 3, w ∈ Ts) {a : Nat} (ea : a = sa b cur) {index : Nat} (hlink : (Cond.fieldLink own index "IdleDispatcher" "state" "LIdleDispatcher$State;").before args s = true) (d : decode cc pc = .ok (.getfield index, 3)) (k : KJ p l e R s m args below meth c nL A cells slots Q Pw (pc + 3) lv (.ref a :: st)) : KJ p l e R s m args below meth c nL A cells slots Q Pw pc lv (.ref b :: st) := k_get C hK (fun H hP => (O H hP).1) rfl hin 0 (by decide) (by rw [ea]; rfl) ⟨rfl, rfl⟩ rfl hlink d k
theorem xg_saved (C : CallFix p m c cc nL s args Ts own) (O : ∀ H, Pw H → xP E b cur sav cnt ST H) (hK : va_K E.1 vwCl (tyE E) s) (hin : ∀ w ∈ u_ws RX4 TX4 3, w ∈ Ts) {index : Nat} (hlink : (Cond.fieldLink own index "IdleDispatcher" "saved" "[LIdleDispatcher$State;").before args s = true) (d : decode cc pc = .ok (.getfield index, 3)) (k : KJ p l e R s m args below meth c nL A cells slots Q Pw (pc + 3) lv (.ref (b + (31)) :: st)) : KJ p l e R s m args below meth c nL A cells slots Q Pw pc lv (.ref b :: st) := k_get C hK (fun H hP => (O H hP).1) rfl hin 1 (by decide) rfl ⟨rfl, rfl⟩ rfl hlink d k
theorem xg_cnt (C : CallFix p m c cc nL s args Ts own) (O : ∀ H, Pw H → xP E b cur sav cnt ST H) (hK : va_K E.1 vwCl (tyE E) s) (hin : ∀ w ∈ u_ws RX4 TX4 3, w ∈ Ts) {index : Nat} (hlink : (Cond.fieldLink own index "IdleDispatcher" "savedCount" "I").before args s = true) (d : decode cc pc = .ok (.getfield index, 3)) (k : KJ p l e R s m args below meth c nL A cells slots Q Pw (pc + 3) lv (.int cnt :: st)) : KJ p l e R s m args below meth c nL A cells slots Q Pw pc lv (.ref b :: st) := k_get C hK (fun H hP => (O H hP).1) rfl hin 2 (by decide) rfl ⟨rfl, rfl⟩ rfl hlink d k
theorem xp_cnt (C : CallFix p m c cc nL s args Ts own) (FX : FocX E b P) (hA : ∀ q, inX b q → A q) (hK : va_K E.1 vwCl (tyE E) s) (hin : ∀ w ∈ u_ws RX4 TX4 3, w ∈ Ts) {v : Int32} {index : Nat} (hlink : (Cond.fieldLink own index "IdleDispatcher" "savedCount" "I").before args s = true) (d : decode cc pc = .ok (.putfield index, 3)) (k : KJ p l e R s m args below meth c nL A cells slots Q (P cur sav v ST) (pc + 3) lv st) : KJ p l e R s m args below meth c nL A cells slots Q (P cur sav cnt ST) pc lv (.int v :: .ref b :: st) :=
  k_put C hK (fun H hP => (FX.1 _ _ _ _ H hP).1) (hA _ ⟨Nat.le_refl _, by omega⟩) rfl hin tyX4_ok nmX4 2 (by decide) rfl rfl rfl (by decide : 2 < 3) ⟨rfl, rfl⟩ rfl hlink d (fun H H1 hP h1 h2 => FX.2 _ _ _ _ _ _ _ _ H H1 hP ⟨h1, (FX.1 _ _ _ _ H hP).2.1.kept (h2 _ (by show b + 31 ≠ b; omega)), fun k hk => stT_kept ((FX.1 _ _ _ _ H hP).2.2 k hk) (fun q _ hi => h2 q (fun z => (sao_b hk).1 (z ▸ hi)))⟩ (k_size h2 h1.lt) (fun q _ hq => h2 q (fun z => hq (by rw [z]; exact ⟨Nat.le_refl _, by omega⟩)))) k
theorem xp_cur (C : CallFix p m c cc nL s args Ts own) (FX : FocX E b P) (hA : ∀ q, inX b q → A q) (hK : va_K E.1 vwCl (tyE E) s) (hin : ∀ w ∈ u_ws RX4 TX4 3, w ∈ Ts) {v : Nat} {index : Nat} (hlink : (Cond.fieldLink own index "IdleDispatcher" "state" "LIdleDispatcher$State;").before args s = true) (d : decode cc pc = .ok (.putfield index, 3)) (k : KJ p l e R s m args below meth c nL A cells slots Q (P v sav cnt ST) (pc + 3) lv st) : KJ p l e R s m args below meth c nL A cells slots Q (P cur sav cnt ST) pc lv (.ref (sa b v) :: .ref b :: st) :=
  k_put C hK (fun H hP => (FX.1 _ _ _ _ H hP).1) (hA _ ⟨Nat.le_refl _, by omega⟩) rfl hin tyX4_ok nmX4 0 (by decide) rfl rfl rfl (by decide : 0 < 3) ⟨rfl, rfl⟩ rfl hlink d (fun H H1 hP h1 h2 => FX.2 _ _ _ _ _ _ _ _ H H1 hP ⟨h1, (FX.1 _ _ _ _ H hP).2.1.kept (h2 _ (by show b + 31 ≠ b; omega)), fun k hk => stT_kept ((FX.1 _ _ _ _ H hP).2.2 k hk) (fun q _ hi => h2 q (fun z => (sao_b hk).1 (z ▸ hi)))⟩ (k_size h2 h1.lt) (fun q _ hq => h2 q (fun z => hq (by rw [z]; exact ⟨Nat.le_refl _, by omega⟩)))) k
theorem x_aald (C : CallFix p m c cc nL s args Ts own) (O : ∀ H, Pw H → xP E b cur sav cnt ST H) (hK : va_K E.1 vwCl (tyE E) s) {i : Int32} (hin : vp_in i 3) (d : decode cc pc = .ok (.aaload, 1)) (k : KJ p l e R s m args below meth c nL A cells slots Q Pw (pc + 1) lv (.ref (sa b (sav i.toNatClampNeg)) :: st)) : KJ p l e R s m args below meth c nL A cells slots Q Pw pc lv (.int i :: .ref (b + (31)) :: st) := k_aald C hK (fun H hP => (O H hP).2.1) 3 rfl hin rfl d k
theorem k_aast (C : CallFix p m c cc nL s args Ts own) {D : va_G} {tys : List (ClassId × FieldType)} {P2 : Heap → Prop} (hK : va_K D vwCl tys s) {a n : Nat} {cA : ClassId} {f : Nat → Option Nat} (hg : ∀ H, Pw H → va_at D vwCl (a, .inl (cA, n, .inr (.inr (.inr (.inr f))))) H) (hA : A a) (t0 ci : Nat) {r : vw_C} (ht : tys[t0]? = some (cA, .object r.1)) {v : Nat} {vs : List Value} (hv : ∀ H, Pw H → va_at D vwCl (v, .inr (ci, vs)) H) (hc : vwCl[ci]? = some r) {i : Int32} (hin : vp_in i n) (d : decode cc pc = .ok (.aastore, 1))
    (hset : ∀ H H1, Pw H → va_at D vwCl (a, .inl (cA, n, .inr (.inr (.inr (.inr (va_up f i.toNatClampNeg (some v))))))) H1 → (∀ q : Nat, q ≠ a → H1[q]? = H[q]?) → P2 H1)
    (kk : KJ p l e R s m args below meth c nL A cells slots Q P2 (pc + 1) lv st) : KJ p l e R s m args below meth c nL A cells slots Q Pw pc lv (.ref v :: .int i :: .ref a :: st) := by
  intro H locs ls hP hS hl
  have hlt : i.toNatClampNeg < n := Nat.not_le.mp fun q => hin (Or.inr q)
  have h0 : ¬ i < 0 := fun q => hin (Or.inl q)
  obtain ⟨r', hr', cellV, g1, g2, g3, -⟩ := hv H hP
  have hcls := (hK.1 ci r hc).2
  obtain ⟨kA, comp, k1, k2, k3, -⟩ := (hK.2 t0 _ ht).2
  have hcomp : comp = D.1 ci := Option.some.inj (k3.symm.trans hcls.1)
  subst hcomp
  obtain ⟨kC, hkC, -⟩ := hcls.2
  refine W.aast C.1 C.2.1 (hg H hP) (fun q h => by cases h) (fun h => by cases h) k1 k2 rfl hkC ⟨h0, by show _ < (arrV _ _ _).slots.size; rw [arrV_size]; exact hlt⟩ g1 (fun q h => by rw [g3] at h; cases h) (by rw [g2]; exact hkC) (by rw [g2]; exact va_assign hcls) rfl rfl d fun H1 e z oq => ?_
  refine kk H1 _ ls (hset H H1 hP ?_ oq) (hS.put z oq hA) hl
  show H1[a]? = some (vp_cell _ _)
  rw [e, vp_cell_q, vp_cell_q, arrV_store]
  congr 2
  funext q
  by_cases hq : q = i.toNatClampNeg
  · subst hq
    simp [updV, va_up, va_rf]
  · simp [updV, va_up, hq]
theorem sav_up {b k v : Nat} {sav : Nat → Nat} : va_up (fun i => some (sa b (sav i))) k (some (sa b v)) = fun j => some (sa b (va_up sav k v j)) := by
  funext j
  by_cases h : j = k
  · simp [va_up, h]
  · simp [va_up, h]
theorem x_aast (C : CallFix p m c cc nL s args Ts own) (FX : FocX E b P) (hA : ∀ q, inX b q → A q) (hK : va_K E.1 vwCl (tyE E) s) {i : Int32} (hin : vp_in i 3) {v : Nat} (hv : v < 4) {sav2 : Nat → Nat} (hw : sav2 = va_up sav i.toNatClampNeg v) (d : decode cc pc = .ok (.aastore, 1)) (k : KJ p l e R s m args below meth c nL A cells slots Q (P cur sav2 cnt ST) (pc + 1) lv st) : KJ p l e R s m args below meth c nL A cells slots Q (P cur sav cnt ST) pc lv (.ref (sa b v) :: .int i :: .ref (b + (31)) :: st) :=
  k_aast (Pw := P cur sav cnt ST) (P2 := P cur sav2 cnt ST) C hK (fun H hP => (FX.1 _ _ _ _ H hP).2.1) (hA _ ⟨Nat.le_add_right _ _, by omega⟩) 3 3 (r := (RX3, TX3, 11)) rfl (fun H hP => st_St ((FX.1 _ _ _ _ H hP).2.2 v hv)) rfl hin d (fun H H1 hP h1 h2 => FX.2 _ _ _ _ _ _ _ _ H H1 hP ⟨(FX.1 _ _ _ _ H hP).1.kept (h2 _ (by show b ≠ b + 31; omega)), by rw [sav_up, ← hw] at h1; exact h1, fun k hk => stT_kept ((FX.1 _ _ _ _ H hP).2.2 k hk) (fun q _ hi => h2 q (fun z => (sao_b hk).2 (z ▸ hi)))⟩ (k_size h2 h1.lt) (fun q _ hq => h2 q (fun z => hq (by rw [z]; exact ⟨Nat.le_add_right _ _, by omega⟩)))) k
end XR
/-! What a throw needs: its texts, its classes, the two statics of Throwable. -/
def XS (U : State) : Prop := (∃ a, vk_R RX4 29 "there are 8 servers" a U) ∧ (∃ a, vk_R RX4 196 "an argument is out of range" a U) ∧ (∃ a, vk_R RX4 48 "there are 4 dispatchers" a U) ∧ (∃ a, vk_R RX4 189 "there is no such dispatcher" a U) ∧ (∃ a, vk_R RX4 186 "there is no such server" a U) ∧ (∃ a, vk_R RX4 194 "no server is up" a U) ∧ (∃ a, vk_R RX4 97 "200 jobs have been submitted" a U) ∧ (∃ a, vk_R RX4 200 "there is no such index" a U) ∧ (∃ a, vk_R RX4 165 "there is no saved state" a U)
def XV (U : State) : Prop := va_Nw (.castable "java/lang/IllegalStateException" "java/lang/IllegalStateException") U ∧ va_Nw (.castable "java/lang/IllegalArgumentException" "java/lang/IllegalArgumentException") U ∧ va_Nw (.castable "java/lang/IndexOutOfBoundsException" "java/lang/IndexOutOfBoundsException") U ∧ va_Nw (.declares (Bundle.initS "java/lang/RuntimeException")) U ∧ va_Nw (.declares (Bundle.initS "java/lang/Exception")) U ∧ va_Nw (.declares (Bundle.initS Bundle.tN)) U
def XZ (A : Nat → Prop) (U : State) : Prop := vx_Zq Bundle.tN "UNASSIGNED_STACK" Bundle.steD A U U.heap ∧ vx_Zq Bundle.tN "SUPPRESSED_SENTINEL" Bundle.listD A U U.heap
def XT (E : EV) (A : Nat → Prop) (U : State) : Prop := XE E U ∧ XS U ∧ XV U ∧ XZ A U
theorem XS.warm {s U : State} (hW : s.WarmedH U.vm) (h : XS s) : XS U := ⟨h.1.imp (fun _ z => vk_R.warm hW z), h.2.1.imp (fun _ z => vk_R.warm hW z), h.2.2.1.imp (fun _ z => vk_R.warm hW z), h.2.2.2.1.imp (fun _ z => vk_R.warm hW z), h.2.2.2.2.1.imp (fun _ z => vk_R.warm hW z), h.2.2.2.2.2.1.imp (fun _ z => vk_R.warm hW z), h.2.2.2.2.2.2.1.imp (fun _ z => vk_R.warm hW z), h.2.2.2.2.2.2.2.1.imp (fun _ z => vk_R.warm hW z), h.2.2.2.2.2.2.2.2.imp (fun _ z => vk_R.warm hW z)⟩
theorem XS.same {s U : State} (hW : U.vm = s.vm) (h : XS s) : XS U := ⟨h.1.imp (fun _ z => vk_R.same hW z), h.2.1.imp (fun _ z => vk_R.same hW z), h.2.2.1.imp (fun _ z => vk_R.same hW z), h.2.2.2.1.imp (fun _ z => vk_R.same hW z), h.2.2.2.2.1.imp (fun _ z => vk_R.same hW z), h.2.2.2.2.2.1.imp (fun _ z => vk_R.same hW z), h.2.2.2.2.2.2.1.imp (fun _ z => vk_R.same hW z), h.2.2.2.2.2.2.2.1.imp (fun _ z => vk_R.same hW z), h.2.2.2.2.2.2.2.2.imp (fun _ z => vk_R.same hW z)⟩
theorem XV.warm {s U : State} (hW : s.WarmedH U.vm) (h : XV s) : XV U := ⟨va_Nw.warmC hW h.1, va_Nw.warmC hW h.2.1, va_Nw.warmC hW h.2.2.1, va_Nw.warmD hW h.2.2.2.1, va_Nw.warmD hW h.2.2.2.2.1, va_Nw.warmD hW h.2.2.2.2.2⟩
theorem XV.same {s U : State} (hW : s.vm = U.vm) (h : XV s) : XV U := ⟨va_Nw.same rfl hW h.1, va_Nw.same rfl hW h.2.1, va_Nw.same rfl hW h.2.2.1, va_Nw.same rfl hW h.2.2.2.1, va_Nw.same rfl hW h.2.2.2.2.1, va_Nw.same rfl hW h.2.2.2.2.2⟩
theorem XT.moved {E : EV} {A : Nat → Prop} {s U : State} {H : Heap} {locs : List Loc} (hW : s.WarmedH U.vm) (hU : U.heap = H) (hS : va_S A s.heap H locs) (h : XT E A s) : XT E A U := ⟨XE.moved hW h.1, XS.warm hW h.2.1, XV.warm hW h.2.2.1, by
  unfold XZ
  rw [hU]
  exact ⟨vx_Zq.moved hW.alike (h.2.2.2.1.kept hS.2.1), vx_Zq.moved hW.alike (h.2.2.2.2.kept hS.2.1)⟩⟩
theorem XT.blind {E : EV} {A : Nat → Prop} (U : State) (g : JFrame) (mk : MethodId) (a : Array Value) (h : XT E A U) : XT E A (U.calling g mk a) := ⟨XE.blind U g mk a h.1, XS.same rfl h.2.1, XV.same rfl h.2.2.1, ⟨vx_Zq.moved (u := U) (U := U.calling g mk a) (Vm.Alike.refl U.vm) h.2.2.2.1, vx_Zq.moved (u := U) (U := U.calling g mk a) (Vm.Alike.refl U.vm) h.2.2.2.2⟩⟩
def kXC (px : String → Heap → Prop) (A : Nat → Prop) : String → State → State → Prop := fun E st t => px E t.heap ∧ va_F A st t
section XC
variable {p : Program} {l : Launch} {e : Env} {R : Room} {s : State} {m : MethodId} {args : Array Value} {below : List Frame} {meth : Method} {c : Code} {cells slots : Nat} {Q : State → Prop} {nL : Nat} {A : Nat → Prop} {P : Heap → Prop} {pc : Nat} {lv : List (Nat × Value)} {st : List Value} {cc : ByteArray} {Ts : List Cond} {own : String} {E : EV} {px px2 : String → Heap → Prop} {mc ms mc2 ms2 : Nat} {Qc : Array Value → State → Outcome → State → Prop}
variable {y : MethodName} {ws : List Cond} {rm : Room} {As : List Value} {b n index maxL : Nat} {Cn host : String} {bytes : ByteArray} {ret : Option FieldType} {st0 : List Value}
theorem kx_body {ws ws' : List Cond} {av : List Value} {X : State → Prop} {XC : String → State → State → Prop} {lv0 : List (Nat × Value)}
    (hy : plainName y.cls = true) (ho : y.cls = own) (hw : ws = Cond.code y cc maxL ret :: ws') (hle : (lg_sl av).length ≤ maxL) (hlv : lv_args 0 av = lv0)
    (body : ∀ p e s m below meth c, CallFix p m c cc maxL s av.toArray ws own → meth.sig.returnType = ret → meth.locks = false → (∀ x ∈ c.exceptionTable.toList, False) → P s.heap → X s → KJ p l e (headSpec ws rm).room s m av.toArray below meth c maxL A 0 0 (vx_MQ below Qc XC av.toArray s mc ms A) P 0 lv0 []) :
    vx_Met l y ws rm (va_Pc av (fun U => P U.heap ∧ X U)) Qc XC mc ms A := by
  refine vx_ofW (cc := cc) (maxL := maxL) (ret := ret) hy hw ?_
  intro p e s m args below meth c s₁ B hml ht hv
  obtain ⟨rfl, hP, hX⟩ := hv
  have hl := lv_entry av (n := maxL) hle
  rw [hlv] at hl
  rw [lg_entry_eq]
  exact body p e s m below meth c ⟨B.exec, B.bytes, hml, ho ▸ findClass_of_methodNamed B.named, atoms_spec (ws := ws) B.pre⟩ B.returns B.notSynchronized ht hP hX s.heap [] _ hP va_S.rf hl
theorem kx_ret (h1 : cells ≤ mc) (h2 : slots ≤ ms) {XC : String → State → State → Prop} (k : KJ p l e R s m args below meth c nL A mc ms (MQ below Qc args s mc ms A) P pc lv st) : KJ p l e R s m args below meth c nL A cells slots (vx_MQ below Qc XC args s mc ms A) P pc lv st := fun H locs ls hP hS hl => W.widen h1 h2 (vx_ret (k H locs ls hP hS hl))
theorem kx_throw (C : CallFix p m c cc nL s args Ts own) (hl : l.stackTraces = false) (hX : XT E A s) {cls text : String} {ik is ic : Nat} (hstr : ∃ a, vk_R own is text a s) (hcls : Bundle.fit cls = true) (hk : (Cond.classLink own ik cls).before args s = true) (hini : (Cond.initialized cls).before args s = true)
    (hat : ∀ w ∈ vx_atS own ic cls ["java/lang/RuntimeException", "java/lang/Exception"], w.before args s = true) (hgood : ∀ w ∈ Cond.classLink own ik cls :: Cond.initialized cls :: vx_atS own ic cls ["java/lang/RuntimeException", "java/lang/Exception"], vx_ot w = true)
    (d0 : decode cc pc = .ok (.new ik, 3)) (d3 : decode cc (pc + 3) = .ok (.dup, 1)) (d4 : decode cc (pc + 4) = .ok (.ldc is, 2)) (d6 : decode cc (pc + 6) = .ok (.invokespecial ic, 3)) (d9 : decode cc (pc + 9) = .ok (.athrow, 1))
    (htab : ∀ x ∈ c.exceptionTable.toList, False) (hf : 5 < R.frames) (hlo : (st.map fun v => v.category).sum + 82 ≤ R.locals) (hc : cells + 1 ≤ R.cells) (hs : slots + 6 ≤ R.slots) (hlk : meth.locks = false) (hc2 : cells + 1 ≤ mc) (hs2 : slots + 6 ≤ ms)
    (hpx : ∀ H H1 : Heap, P H → H.size ≤ H1.size → (∀ q : Nat, q < H.size → H1[q]? = H[q]?) → px cls H1) :
    KJ p l e R s m args below meth c nL A cells slots (vx_MQ below Qc (kXC px A) args s mc ms A) P pc lv st := by
  intro H locs ls hP hS hl9
  obtain ⟨sa9, hst9⟩ := hstr
  refine vx_throwS C.1 C.2.1 hl C.2.2.2.1 hcls (by decide) hk hini hst9 hat hgood hX.2.2.2.1 hX.2.2.2.2 hS (hl9.1.trans C.2.2.1.symm) d0 d3 d4 d6 d9 (fun x hx => (htab x hx).elim) hf (by simpa using hlo) hc hs hlk (fun t ht hz hk9 => ⟨hpx H t.heap hP hz hk9, Nat.le_trans hS.1 hz, fun q h1 h2 => ?_⟩) hS.2.2 hc2 hs2
  rw [hk9 q (Nat.lt_of_lt_of_le h1 hS.1)]
  exact hS.2.1 q h1 h2
theorem kx_runi {post : Int32 → Heap → Prop} {a : Array Value}
    (hr : ∀ H locs ls, P H → va_S A s.heap H locs → lv_has ls nL lv → vx_Run p l e R s m args below meth c H locs cells slots mc ms (F0 m pc ls st0) st (kQi post A a) (kXC px A) A)
    (kx : ∀ (X9 : String) (ce : Cell) (q9 : Addr) (H1 : Heap) (locs1 : List Loc) (ls : Array Slot), px X9 H1 → va_S A s.heap H1 locs1 → lv_has ls nL lv → H1[q9]? = some ce → ce.vm = .none → s.vm.findClass X9 = some ce.cls → vx_W p l e R s m args below meth c H1 locs1 (cells + mc) (slots + ms) Q (F0 m pc ls st) q9)
    (k : ∀ (r : Int32), KJ p l e R s m args below meth c nL A (cells + mc) (slots + ms) Q (post r) (pc + 3) lv (.int r :: st)) : KJ p l e R s m args below meth c nL A cells slots Q P pc lv st0 := by
  intro H locs ls hP hS hl T hT X
  rcases hr H locs ls hP hS hl T hT X with ⟨v, st₀, t, T', L, h0, X', hL, e1, e2, ⟨⟨r, hv, hp⟩, hF⟩, stp⟩ | ⟨q, st₀, t, T', L, E9, ce, h0, X', hL, e1, e2, ⟨hp, hF⟩, hce, hcv, hcl, stp⟩
  · cases hv
    obtain ⟨k1, k2, k3⟩ := vx_keep h0 e1 hS (fun _ _ z => z) (fun _ z => z) hL hF
    obtain ⟨t2, a1, b1⟩ := k r T'.heap (locs ++ L) ls (by rw [e1]; exact hp) k3 hl T' rfl X'
    exact ⟨t2, stp t2 a1, b1⟩
  · obtain ⟨k1, k2, k3⟩ := vx_keep h0 e1 hS (fun _ _ z => z) (fun _ z => z) hL hF
    obtain ⟨t2, a1, b1⟩ := kx E9 ce q T'.heap (locs ++ L) ls (by rw [e1]; exact hp) k3 hl (by rw [e1]; exact hce) hcv hcl T' rfl X'
    exact ⟨t2, stp.trans a1, b1⟩
theorem kx_callVi (C : CallFix p m c cc nL s args Ts own) (hX : XT E A s) {post : Int32 → Heap → Prop} (hM : vx_Met l y ws rm (va_Pc (.ref b :: As) (fun U => P U.heap ∧ XT E A U)) (kQi post A) (kXC px A) mc ms A) (cw : CallW R s args own Cn index y bytes maxL ret ws rm mc ms n) (hrecv : ∀ H, P H → ∃ cellB : Cell, H[b]? = some cellB ∧ cellB.vm.isStatics = false ∧ s.vm.findClass Cn = some cellB.cls) (hn : As.length = n) (hst : st0 = As.reverse ++ .ref b :: st) (hroom : (st.map fun v => v.category).sum ≤ 8) (d : decode cc pc = .ok (.invokevirtual index, 3)) (hf : cells + mc ≤ R.cells ∧ slots + ms ≤ R.slots)
    (htab : ∀ x ∈ c.exceptionTable.toList, False) (hlk : meth.locks = false) (hc2 : cells + mc ≤ mc2) (hs2 : slots + ms ≤ ms2) (hpx : ∀ X9 H, px X9 H → px2 X9 H)
    (k : ∀ (r : Int32), KJ p l e R s m args below meth c nL A (cells + mc) (slots + ms) (vx_MQ below Qc (kXC px2 A) args s mc2 ms2 A) (post r) (pc + 3) lv (.int r :: st)) : KJ p l e R s m args below meth c nL A cells slots (vx_MQ below Qc (kXC px2 A) args s mc2 ms2 A) P pc lv st0 :=
  kx_runi (fun H locs ls hP hS hl => vx_runV (As := As) (rest := st) C hM cw ⟨k_blind XT.blind, hrecv H hP, fun U hU hW => ⟨rfl, by rw [hU]; exact hP, XT.moved hW hU hS hX⟩⟩ rfl hn hl.1 hst (lv_room hroom) d hf) (fun X9 ce q9 H1 locs1 ls hp hS hl h1 h2 h3 => vx_out (fun x hx => (htab x hx).elim) hlk h1 h2 h3 (fun t ht _ => ⟨by rw [ht]; exact hpx X9 H1 hp, hS.F ht⟩) hS.2.2 hc2 hs2) k
theorem kx_callSi (C : CallFix p m c cc nL s args Ts own) (hX : XT E A s) {post : Int32 → Heap → Prop} (hM : vx_Met l y ws rm (va_Pc As (fun U => P U.heap ∧ XT E A U)) (kQi post A) (kXC px A) mc ms A) (cw : CallB R s args own index y bytes maxL ret ws rm mc ms n ∧ (Cond.static y).before args s = true) (hn : As.length = n) (hst : st0 = As.reverse ++ st) (hroom : (st.map fun v => v.category).sum ≤ 8) (d : decode cc pc = .ok (.invokestatic index, 3)) (hf : cells + mc ≤ R.cells ∧ slots + ms ≤ R.slots)
    (htab : ∀ x ∈ c.exceptionTable.toList, False) (hlk : meth.locks = false) (hc2 : cells + mc ≤ mc2) (hs2 : slots + ms ≤ ms2) (hpx : ∀ X9 H, px X9 H → px2 X9 H)
    (k : ∀ (r : Int32), KJ p l e R s m args below meth c nL A (cells + mc) (slots + ms) (vx_MQ below Qc (kXC px2 A) args s mc2 ms2 A) (post r) (pc + 3) lv (.int r :: st)) : KJ p l e R s m args below meth c nL A cells slots (vx_MQ below Qc (kXC px2 A) args s mc2 ms2 A) P pc lv st0 :=
  kx_runi (fun H locs ls hP hS hl => vx_runS (As := As) (rest := st) C hM cw ⟨k_blind XT.blind, fun U hU hW => ⟨rfl, by rw [hU]; exact hP, XT.moved hW hU hS hX⟩⟩ rfl hn hl.1 hst (lv_room hroom) d hf) (fun X9 ce q9 H1 locs1 ls hp hS hl h1 h2 h3 => vx_out (fun x hx => (htab x hx).elim) hlk h1 h2 h3 (fun t ht _ => ⟨by rw [ht]; exact hpx X9 H1 hp, hS.F ht⟩) hS.2.2 hc2 hs2) k
theorem kx_runl {post : Int64 → Heap → Prop} {a : Array Value}
    (hr : ∀ H locs ls, P H → va_S A s.heap H locs → lv_has ls nL lv → vx_Run p l e R s m args below meth c H locs cells slots mc ms (F0 m pc ls st0) st (kQl post A a) (kXC px A) A)
    (kx : ∀ (X9 : String) (ce : Cell) (q9 : Addr) (H1 : Heap) (locs1 : List Loc) (ls : Array Slot), px X9 H1 → va_S A s.heap H1 locs1 → lv_has ls nL lv → H1[q9]? = some ce → ce.vm = .none → s.vm.findClass X9 = some ce.cls → vx_W p l e R s m args below meth c H1 locs1 (cells + mc) (slots + ms) Q (F0 m pc ls st) q9)
    (k : ∀ (r : Int64), KJ p l e R s m args below meth c nL A (cells + mc) (slots + ms) Q (post r) (pc + 3) lv (.long r :: st)) : KJ p l e R s m args below meth c nL A cells slots Q P pc lv st0 := by
  intro H locs ls hP hS hl T hT X
  rcases hr H locs ls hP hS hl T hT X with ⟨v, st₀, t, T', L, h0, X', hL, e1, e2, ⟨⟨r, hv, hp⟩, hF⟩, stp⟩ | ⟨q, st₀, t, T', L, E9, ce, h0, X', hL, e1, e2, ⟨hp, hF⟩, hce, hcv, hcl, stp⟩
  · cases hv
    obtain ⟨k1, k2, k3⟩ := vx_keep h0 e1 hS (fun _ _ z => z) (fun _ z => z) hL hF
    obtain ⟨t2, a1, b1⟩ := k r T'.heap (locs ++ L) ls (by rw [e1]; exact hp) k3 hl T' rfl X'
    exact ⟨t2, stp t2 a1, b1⟩
  · obtain ⟨k1, k2, k3⟩ := vx_keep h0 e1 hS (fun _ _ z => z) (fun _ z => z) hL hF
    obtain ⟨t2, a1, b1⟩ := kx E9 ce q T'.heap (locs ++ L) ls (by rw [e1]; exact hp) k3 hl (by rw [e1]; exact hce) hcv hcl T' rfl X'
    exact ⟨t2, stp.trans a1, b1⟩
theorem kx_callVl (C : CallFix p m c cc nL s args Ts own) (hX : XT E A s) {post : Int64 → Heap → Prop} (hM : vx_Met l y ws rm (va_Pc (.ref b :: As) (fun U => P U.heap ∧ XT E A U)) (kQl post A) (kXC px A) mc ms A) (cw : CallW R s args own Cn index y bytes maxL ret ws rm mc ms n) (hrecv : ∀ H, P H → ∃ cellB : Cell, H[b]? = some cellB ∧ cellB.vm.isStatics = false ∧ s.vm.findClass Cn = some cellB.cls) (hn : As.length = n) (hst : st0 = As.reverse ++ .ref b :: st) (hroom : (st.map fun v => v.category).sum ≤ 8) (d : decode cc pc = .ok (.invokevirtual index, 3)) (hf : cells + mc ≤ R.cells ∧ slots + ms ≤ R.slots)
    (htab : ∀ x ∈ c.exceptionTable.toList, False) (hlk : meth.locks = false) (hc2 : cells + mc ≤ mc2) (hs2 : slots + ms ≤ ms2) (hpx : ∀ X9 H, px X9 H → px2 X9 H)
    (k : ∀ (r : Int64), KJ p l e R s m args below meth c nL A (cells + mc) (slots + ms) (vx_MQ below Qc (kXC px2 A) args s mc2 ms2 A) (post r) (pc + 3) lv (.long r :: st)) : KJ p l e R s m args below meth c nL A cells slots (vx_MQ below Qc (kXC px2 A) args s mc2 ms2 A) P pc lv st0 :=
  kx_runl (fun H locs ls hP hS hl => vx_runV (As := As) (rest := st) C hM cw ⟨k_blind XT.blind, hrecv H hP, fun U hU hW => ⟨rfl, by rw [hU]; exact hP, XT.moved hW hU hS hX⟩⟩ rfl hn hl.1 hst (lv_room hroom) d hf) (fun X9 ce q9 H1 locs1 ls hp hS hl h1 h2 h3 => vx_out (fun x hx => (htab x hx).elim) hlk h1 h2 h3 (fun t ht _ => ⟨by rw [ht]; exact hpx X9 H1 hp, hS.F ht⟩) hS.2.2 hc2 hs2) k
theorem kx_callSl (C : CallFix p m c cc nL s args Ts own) (hX : XT E A s) {post : Int64 → Heap → Prop} (hM : vx_Met l y ws rm (va_Pc As (fun U => P U.heap ∧ XT E A U)) (kQl post A) (kXC px A) mc ms A) (cw : CallB R s args own index y bytes maxL ret ws rm mc ms n ∧ (Cond.static y).before args s = true) (hn : As.length = n) (hst : st0 = As.reverse ++ st) (hroom : (st.map fun v => v.category).sum ≤ 8) (d : decode cc pc = .ok (.invokestatic index, 3)) (hf : cells + mc ≤ R.cells ∧ slots + ms ≤ R.slots)
    (htab : ∀ x ∈ c.exceptionTable.toList, False) (hlk : meth.locks = false) (hc2 : cells + mc ≤ mc2) (hs2 : slots + ms ≤ ms2) (hpx : ∀ X9 H, px X9 H → px2 X9 H)
    (k : ∀ (r : Int64), KJ p l e R s m args below meth c nL A (cells + mc) (slots + ms) (vx_MQ below Qc (kXC px2 A) args s mc2 ms2 A) (post r) (pc + 3) lv (.long r :: st)) : KJ p l e R s m args below meth c nL A cells slots (vx_MQ below Qc (kXC px2 A) args s mc2 ms2 A) P pc lv st0 :=
  kx_runl (fun H locs ls hP hS hl => vx_runS (As := As) (rest := st) C hM cw ⟨k_blind XT.blind, fun U hU hW => ⟨rfl, by rw [hU]; exact hP, XT.moved hW hU hS hX⟩⟩ rfl hn hl.1 hst (lv_room hroom) d hf) (fun X9 ce q9 H1 locs1 ls hp hS hl h1 h2 h3 => vx_out (fun x hx => (htab x hx).elim) hlk h1 h2 h3 (fun t ht _ => ⟨by rw [ht]; exact hpx X9 H1 hp, hS.F ht⟩) hS.2.2 hc2 hs2) k
theorem kx_rund {post : UInt64 → Heap → Prop} {a : Array Value}
    (hr : ∀ H locs ls, P H → va_S A s.heap H locs → lv_has ls nL lv → vx_Run p l e R s m args below meth c H locs cells slots mc ms (F0 m pc ls st0) st (kQd post A a) (kXC px A) A)
    (kx : ∀ (X9 : String) (ce : Cell) (q9 : Addr) (H1 : Heap) (locs1 : List Loc) (ls : Array Slot), px X9 H1 → va_S A s.heap H1 locs1 → lv_has ls nL lv → H1[q9]? = some ce → ce.vm = .none → s.vm.findClass X9 = some ce.cls → vx_W p l e R s m args below meth c H1 locs1 (cells + mc) (slots + ms) Q (F0 m pc ls st) q9)
    (k : ∀ (r : UInt64), KJ p l e R s m args below meth c nL A (cells + mc) (slots + ms) Q (post r) (pc + 3) lv (.double r :: st)) : KJ p l e R s m args below meth c nL A cells slots Q P pc lv st0 := by
  intro H locs ls hP hS hl T hT X
  rcases hr H locs ls hP hS hl T hT X with ⟨v, st₀, t, T', L, h0, X', hL, e1, e2, ⟨⟨r, hv, hp⟩, hF⟩, stp⟩ | ⟨q, st₀, t, T', L, E9, ce, h0, X', hL, e1, e2, ⟨hp, hF⟩, hce, hcv, hcl, stp⟩
  · cases hv
    obtain ⟨k1, k2, k3⟩ := vx_keep h0 e1 hS (fun _ _ z => z) (fun _ z => z) hL hF
    obtain ⟨t2, a1, b1⟩ := k r T'.heap (locs ++ L) ls (by rw [e1]; exact hp) k3 hl T' rfl X'
    exact ⟨t2, stp t2 a1, b1⟩
  · obtain ⟨k1, k2, k3⟩ := vx_keep h0 e1 hS (fun _ _ z => z) (fun _ z => z) hL hF
    obtain ⟨t2, a1, b1⟩ := kx E9 ce q T'.heap (locs ++ L) ls (by rw [e1]; exact hp) k3 hl (by rw [e1]; exact hce) hcv hcl T' rfl X'
    exact ⟨t2, stp.trans a1, b1⟩
theorem kx_callVd (C : CallFix p m c cc nL s args Ts own) (hX : XT E A s) {post : UInt64 → Heap → Prop} (hM : vx_Met l y ws rm (va_Pc (.ref b :: As) (fun U => P U.heap ∧ XT E A U)) (kQd post A) (kXC px A) mc ms A) (cw : CallW R s args own Cn index y bytes maxL ret ws rm mc ms n) (hrecv : ∀ H, P H → ∃ cellB : Cell, H[b]? = some cellB ∧ cellB.vm.isStatics = false ∧ s.vm.findClass Cn = some cellB.cls) (hn : As.length = n) (hst : st0 = As.reverse ++ .ref b :: st) (hroom : (st.map fun v => v.category).sum ≤ 8) (d : decode cc pc = .ok (.invokevirtual index, 3)) (hf : cells + mc ≤ R.cells ∧ slots + ms ≤ R.slots)
    (htab : ∀ x ∈ c.exceptionTable.toList, False) (hlk : meth.locks = false) (hc2 : cells + mc ≤ mc2) (hs2 : slots + ms ≤ ms2) (hpx : ∀ X9 H, px X9 H → px2 X9 H)
    (k : ∀ (r : UInt64), KJ p l e R s m args below meth c nL A (cells + mc) (slots + ms) (vx_MQ below Qc (kXC px2 A) args s mc2 ms2 A) (post r) (pc + 3) lv (.double r :: st)) : KJ p l e R s m args below meth c nL A cells slots (vx_MQ below Qc (kXC px2 A) args s mc2 ms2 A) P pc lv st0 :=
  kx_rund (fun H locs ls hP hS hl => vx_runV (As := As) (rest := st) C hM cw ⟨k_blind XT.blind, hrecv H hP, fun U hU hW => ⟨rfl, by rw [hU]; exact hP, XT.moved hW hU hS hX⟩⟩ rfl hn hl.1 hst (lv_room hroom) d hf) (fun X9 ce q9 H1 locs1 ls hp hS hl h1 h2 h3 => vx_out (fun x hx => (htab x hx).elim) hlk h1 h2 h3 (fun t ht _ => ⟨by rw [ht]; exact hpx X9 H1 hp, hS.F ht⟩) hS.2.2 hc2 hs2) k
theorem kx_callSd (C : CallFix p m c cc nL s args Ts own) (hX : XT E A s) {post : UInt64 → Heap → Prop} (hM : vx_Met l y ws rm (va_Pc As (fun U => P U.heap ∧ XT E A U)) (kQd post A) (kXC px A) mc ms A) (cw : CallB R s args own index y bytes maxL ret ws rm mc ms n ∧ (Cond.static y).before args s = true) (hn : As.length = n) (hst : st0 = As.reverse ++ st) (hroom : (st.map fun v => v.category).sum ≤ 8) (d : decode cc pc = .ok (.invokestatic index, 3)) (hf : cells + mc ≤ R.cells ∧ slots + ms ≤ R.slots)
    (htab : ∀ x ∈ c.exceptionTable.toList, False) (hlk : meth.locks = false) (hc2 : cells + mc ≤ mc2) (hs2 : slots + ms ≤ ms2) (hpx : ∀ X9 H, px X9 H → px2 X9 H)
    (k : ∀ (r : UInt64), KJ p l e R s m args below meth c nL A (cells + mc) (slots + ms) (vx_MQ below Qc (kXC px2 A) args s mc2 ms2 A) (post r) (pc + 3) lv (.double r :: st)) : KJ p l e R s m args below meth c nL A cells slots (vx_MQ below Qc (kXC px2 A) args s mc2 ms2 A) P pc lv st0 :=
  kx_rund (fun H locs ls hP hS hl => vx_runS (As := As) (rest := st) C hM cw ⟨k_blind XT.blind, fun U hU hW => ⟨rfl, by rw [hU]; exact hP, XT.moved hW hU hS hX⟩⟩ rfl hn hl.1 hst (lv_room hroom) d hf) (fun X9 ce q9 H1 locs1 ls hp hS hl h1 h2 h3 => vx_out (fun x hx => (htab x hx).elim) hlk h1 h2 h3 (fun t ht _ => ⟨by rw [ht]; exact hpx X9 H1 hp, hS.F ht⟩) hS.2.2 hc2 hs2) k
theorem kx_runv {post : Heap → Prop} {a : Array Value}
    (hr : ∀ H locs ls, P H → va_S A s.heap H locs → lv_has ls nL lv → vx_Run p l e R s m args below meth c H locs cells slots mc ms (F0 m pc ls st0) st (kQv post A a) (kXC px A) A)
    (kx : ∀ (X9 : String) (ce : Cell) (q9 : Addr) (H1 : Heap) (locs1 : List Loc) (ls : Array Slot), px X9 H1 → va_S A s.heap H1 locs1 → lv_has ls nL lv → H1[q9]? = some ce → ce.vm = .none → s.vm.findClass X9 = some ce.cls → vx_W p l e R s m args below meth c H1 locs1 (cells + mc) (slots + ms) Q (F0 m pc ls st) q9)
    (k : ∀ (_ : Unit), KJ p l e R s m args below meth c nL A (cells + mc) (slots + ms) Q (post) (pc + 3) lv (st)) : KJ p l e R s m args below meth c nL A cells slots Q P pc lv st0 := by
  intro H locs ls hP hS hl T hT X
  rcases hr H locs ls hP hS hl T hT X with ⟨v, st₀, t, T', L, h0, X', hL, e1, e2, ⟨⟨hv, hp⟩, hF⟩, stp⟩ | ⟨q, st₀, t, T', L, E9, ce, h0, X', hL, e1, e2, ⟨hp, hF⟩, hce, hcv, hcl, stp⟩
  · cases hv
    obtain ⟨k1, k2, k3⟩ := vx_keep h0 e1 hS (fun _ _ z => z) (fun _ z => z) hL hF
    obtain ⟨t2, a1, b1⟩ := k () T'.heap (locs ++ L) ls (by rw [e1]; exact hp) k3 hl T' rfl X'
    exact ⟨t2, stp t2 a1, b1⟩
  · obtain ⟨k1, k2, k3⟩ := vx_keep h0 e1 hS (fun _ _ z => z) (fun _ z => z) hL hF
    obtain ⟨t2, a1, b1⟩ := kx E9 ce q T'.heap (locs ++ L) ls (by rw [e1]; exact hp) k3 hl (by rw [e1]; exact hce) hcv hcl T' rfl X'
    exact ⟨t2, stp.trans a1, b1⟩
theorem kx_callVv (C : CallFix p m c cc nL s args Ts own) (hX : XT E A s) {post : Heap → Prop} (hM : vx_Met l y ws rm (va_Pc (.ref b :: As) (fun U => P U.heap ∧ XT E A U)) (kQv post A) (kXC px A) mc ms A) (cw : CallW R s args own Cn index y bytes maxL ret ws rm mc ms n) (hrecv : ∀ H, P H → ∃ cellB : Cell, H[b]? = some cellB ∧ cellB.vm.isStatics = false ∧ s.vm.findClass Cn = some cellB.cls) (hn : As.length = n) (hst : st0 = As.reverse ++ .ref b :: st) (hroom : (st.map fun v => v.category).sum ≤ 8) (d : decode cc pc = .ok (.invokevirtual index, 3)) (hf : cells + mc ≤ R.cells ∧ slots + ms ≤ R.slots)
    (htab : ∀ x ∈ c.exceptionTable.toList, False) (hlk : meth.locks = false) (hc2 : cells + mc ≤ mc2) (hs2 : slots + ms ≤ ms2) (hpx : ∀ X9 H, px X9 H → px2 X9 H)
    (k : ∀ (_ : Unit), KJ p l e R s m args below meth c nL A (cells + mc) (slots + ms) (vx_MQ below Qc (kXC px2 A) args s mc2 ms2 A) (post) (pc + 3) lv (st)) : KJ p l e R s m args below meth c nL A cells slots (vx_MQ below Qc (kXC px2 A) args s mc2 ms2 A) P pc lv st0 :=
  kx_runv (fun H locs ls hP hS hl => vx_runV (As := As) (rest := st) C hM cw ⟨k_blind XT.blind, hrecv H hP, fun U hU hW => ⟨rfl, by rw [hU]; exact hP, XT.moved hW hU hS hX⟩⟩ rfl hn hl.1 hst (lv_room hroom) d hf) (fun X9 ce q9 H1 locs1 ls hp hS hl h1 h2 h3 => vx_out (fun x hx => (htab x hx).elim) hlk h1 h2 h3 (fun t ht _ => ⟨by rw [ht]; exact hpx X9 H1 hp, hS.F ht⟩) hS.2.2 hc2 hs2) k
theorem kx_callSv (C : CallFix p m c cc nL s args Ts own) (hX : XT E A s) {post : Heap → Prop} (hM : vx_Met l y ws rm (va_Pc As (fun U => P U.heap ∧ XT E A U)) (kQv post A) (kXC px A) mc ms A) (cw : CallB R s args own index y bytes maxL ret ws rm mc ms n ∧ (Cond.static y).before args s = true) (hn : As.length = n) (hst : st0 = As.reverse ++ st) (hroom : (st.map fun v => v.category).sum ≤ 8) (d : decode cc pc = .ok (.invokestatic index, 3)) (hf : cells + mc ≤ R.cells ∧ slots + ms ≤ R.slots)
    (htab : ∀ x ∈ c.exceptionTable.toList, False) (hlk : meth.locks = false) (hc2 : cells + mc ≤ mc2) (hs2 : slots + ms ≤ ms2) (hpx : ∀ X9 H, px X9 H → px2 X9 H)
    (k : ∀ (_ : Unit), KJ p l e R s m args below meth c nL A (cells + mc) (slots + ms) (vx_MQ below Qc (kXC px2 A) args s mc2 ms2 A) (post) (pc + 3) lv (st)) : KJ p l e R s m args below meth c nL A cells slots (vx_MQ below Qc (kXC px2 A) args s mc2 ms2 A) P pc lv st0 :=
  kx_runv (fun H locs ls hP hS hl => vx_runS (As := As) (rest := st) C hM cw ⟨k_blind XT.blind, fun U hU hW => ⟨rfl, by rw [hU]; exact hP, XT.moved hW hU hS hX⟩⟩ rfl hn hl.1 hst (lv_room hroom) d hf) (fun X9 ce q9 H1 locs1 ls hp hS hl h1 h2 h3 => vx_out (fun x hx => (htab x hx).elim) hlk h1 h2 h3 (fun t ht _ => ⟨by rw [ht]; exact hpx X9 H1 hp, hS.F ht⟩) hS.2.2 hc2 hs2) k
end XC
