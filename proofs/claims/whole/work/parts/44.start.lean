/-! The start: the classes, and what the tables and the Statement give of the start. -/
theorem st_cls {args : Array Value} {s : State} (hts : ∀ w ∈ lw_tbl, w.before args s = true) : ∃ E : EV, va_K E.1 vwCl (tyE E) s := by
  obtain ⟨c0, i0, h0⟩ := u_known (C := RX0) (T := TX0) (N := 5) (n := 5) hts inX0 (hts (.instantiable RX0 5) (by decide +kernel))
  obtain ⟨c1, i1, h1⟩ := u_known (C := RX1) (T := TX1) (N := 10) (n := 10) hts inX1 (hts (.instantiable RX1 10) (by decide +kernel))
  obtain ⟨c2, i2, h2⟩ := u_known (C := RX2) (T := TX2) (N := 6) (n := 6) hts inX2 (hts (.instantiable RX2 6) (by decide +kernel))
  obtain ⟨c3, i3, h3⟩ := u_known (C := RX3) (T := TX3) (N := 11) (n := 11) hts inX3 (hts (.instantiable RX3 11) (by decide +kernel))
  obtain ⟨c4, i4, h4⟩ := u_known (C := RX4) (T := TX4) (N := 3) (n := 3) hts inX4 (hts (.instantiable RX4 3) (by decide +kernel))
  obtain ⟨c5, i5, h5⟩ := u_known (C := RX5) (T := TX5) (N := 6) (n := 6) hts inX5 (hts (.instantiable RX5 6) (by decide +kernel))
  obtain ⟨a0, k0, p0, f0, g0, d0⟩ := Cond.arrayClass_spec (args := args) (first := s) (o := none) (s := s) (idx := []) (type := .int) (hts (.arrayClass .int) (by decide +kernel))
  obtain ⟨a4, k4, p4, f4, g4, d4⟩ := Cond.arrayClass_spec (args := args) (first := s) (o := none) (s := s) (idx := []) (type := .long) (hts (.arrayClass .long) (by decide +kernel))
  obtain ⟨p1, a1, k1, e1, -, g1, d1, f1⟩ := Cond.arrayOver_spec (args := args) (first := s) (o := none) (s := s) (idx := []) (n := RX0) (hts (.arrayOver (.object RX0)) (by decide +kernel))
  obtain ⟨p2, a2, k2, e2, -, g2, d2, f2⟩ := Cond.arrayOver_spec (args := args) (first := s) (o := none) (s := s) (idx := []) (n := RX2) (hts (.arrayOver (.object RX2)) (by decide +kernel))
  obtain ⟨p3, a3, k3, e3, -, g3, d3, f3⟩ := Cond.arrayOver_spec (args := args) (first := s) (o := none) (s := s) (idx := []) (n := RX3) (hts (.arrayOver (.object RX3)) (by decide +kernel))
  refine ⟨((fun k => if k = 0 then c0 else if k = 1 then c1 else if k = 2 then c2 else if k = 3 then c3 else if k = 4 then c4 else c5, fun k => if k = 0 then i0 else if k = 1 then i1 else if k = 2 then i2 else if k = 3 then i3 else if k = 4 then i4 else i5), fun k => if k = 0 then a0 else if k = 1 then a1 else if k = 2 then a2 else if k = 3 then a3 else a4), fun k q hq => ?_, fun k q hq => ?_⟩
  · match k, hq with
    | 0, hq => cases hq; exact h0
    | 1, hq => cases hq; exact h1
    | 2, hq => cases hq; exact h2
    | 3, hq => cases hq; exact h3
    | 4, hq => cases hq; exact h4
    | 5, hq => cases hq; exact h5
    | k + 6, hq => simp at hq
  · match k, hq with
    | 0, hq => cases hq; exact ⟨fun n z => ⟨fun k h => (by cases h), k0, g0, p0, d0⟩, f0⟩
    | 1, hq => cases hq; exact ⟨fun n z => ⟨fun k h => (by cases h), k1, g1, p1, d1⟩, k1, p1, g1, d1, e1, f1⟩
    | 2, hq => cases hq; exact ⟨fun n z => ⟨fun k h => (by cases h), k2, g2, p2, d2⟩, k2, p2, g2, d2, e2, f2⟩
    | 3, hq => cases hq; exact ⟨fun n z => ⟨fun k h => (by cases h), k3, g3, p3, d3⟩, k3, p3, g3, d3, e3, f3⟩
    | 4, hq => cases hq; exact ⟨fun n z => ⟨fun k h => (by cases h), k4, g4, p4, d4⟩, f4⟩
    | k + 5, hq => simp [tyE] at hq
theorem st_XE {args : Array Value} {s : State} {E : EV} (hts : ∀ w ∈ lw_tbl, w.before args s = true) (hK : va_K E.1 vwCl (tyE E) s) : XE E s := ⟨hK, va_Nw.of rfl (hts _ (by decide +kernel)), va_Nw.of rfl (hts _ (by decide +kernel)), va_Nw.of rfl (hts _ (by decide +kernel))⟩
theorem st_XI {args : Array Value} {s : State} {E : EV} (hts : ∀ w ∈ lw_tbl, w.before args s = true) (hE : XE E s) : XI E s := ⟨hE, va_AO.of (hts _ (by decide +kernel)), va_AO.of (hts _ (by decide +kernel)), va_AO.of (hts _ (by decide +kernel))⟩
theorem st_XV {args : Array Value} {s : State} (hts : ∀ w ∈ lw_tbl, w.before args s = true) : XV s := ⟨va_Nw.of rfl (hts _ (by decide +kernel)), va_Nw.of rfl (hts _ (by decide +kernel)), va_Nw.of rfl (hts _ (by decide +kernel)), va_Nw.of rfl (hts _ (by decide +kernel)), va_Nw.of rfl (hts _ (by decide +kernel)), va_Nw.of rfl (hts _ (by decide +kernel))⟩
theorem st_str {args : Array Value} {s : State} {k : Nat} {tx : String} (h1 : (Cond.stringRef RX4 k tx).before args s = true) (h2 : (Cond.exactly (.string RX4 k) "java/lang/String").before args s = true) : ∃ a, vk_R RX4 k tx a s := by
  obtain ⟨a, c, cA, kA, q1, -⟩ := Cond.exactly_spec (args := args) (first := s) (o := none) (s := s) (idx := []) (t := .string RX4 k) (cls := "java/lang/String") h2
  exact ⟨a, vk_R.of h1 q1⟩
set_option maxRecDepth 100000 in
theorem st_XS {args : Array Value} {s : State} (hts : ∀ w ∈ lw_tbl, w.before args s = true) (hg : ∀ w ∈ flatC (Jvm.Cond.and given_1 narrow_1), w.before args s = true) : XS s := ⟨st_str (hts _ (by decide +kernel)) (hg _ (by decide +kernel)), st_str (hts _ (by decide +kernel)) (hg _ (by decide +kernel)), st_str (hts _ (by decide +kernel)) (hg _ (by decide +kernel)), st_str (hts _ (by decide +kernel)) (hg _ (by decide +kernel)), st_str (hts _ (by decide +kernel)) (hg _ (by decide +kernel)), st_str (hts _ (by decide +kernel)) (hg _ (by decide +kernel)), st_str (hts _ (by decide +kernel)) (hg _ (by decide +kernel)), st_str (hts _ (by decide +kernel)) (hg _ (by decide +kernel)), st_str (hts _ (by decide +kernel)) (hg _ (by decide +kernel))⟩
set_option maxRecDepth 100000 in
theorem st_XZ {args : Array Value} {s : State} {A : Nat → Prop} (hts : ∀ w ∈ lw_tbl, w.before args s = true) (hg : ∀ w ∈ flatC (Jvm.Cond.and given_1 narrow_1), w.before args s = true) (hA : ∀ a : Nat, a < s.heap.size → ¬ A a) : XZ A s := ⟨vx_Zqof (hts _ (by decide +kernel)) (hts (.initialized "java/lang/Throwable") (by decide +kernel)) (hg _ (by decide +kernel)) hA, vx_Zqof (hts _ (by decide +kernel)) (hts (.initialized "java/lang/Throwable") (by decide +kernel)) (hg _ (by decide +kernel)) hA⟩
theorem st_lt {l : Launch} (h : l.flags = flags0) : l.stackTraces = false := by
  unfold Launch.stackTraces
  rw [h]
  decide +kernel
theorem arrL_congr {cA : ClassId} {N : Nat} {F G : Nat → Value} (hh : ∀ j, j < N → F j = G j) : arrV cA N F = arrV cA N G := by
  unfold arrV
  congr 1
  apply Array.ext
  · simp
  · intro i h1 h2
    simp at h1
    simp [hh i h1]
