/-! THE WORLD: every cell that the law makes, in the order of making, at base, base + 1 ..; its contents are one memory:
    σ = (how many cells, ints by cell and place, longs by cell and place, references by cell and place) -/
abbrev Sg : Type := Nat × (Nat → Nat → Int32) × (Nat → Nat → Int64) × (Nat → Nat → Option Nat)
/-- the kind of each cell: 0 to 5 an object of that number in vwCl, 6 an int[], 7 a long[] -/
def kdL : List Nat := [4, 1, 6, 6, 6, 6, 6, 6, 6, 6, 6, 6, 3, 6, 0, 6, 6, 6, 6, 6, 6, 6, 6, 7, 6, 6, 0, 6, 6, 6, 6, 6, 6, 6, 6, 7, 6, 6, 2, 6, 6, 2, 6, 6, 5, 6, 6, 6, 6, 6, 6, 6, 6, 6, 6, 6, 6, 6, 6, 6, 6, 6, 6, 6, 6, 6, 6, 6, 6, 6, 6, 6, 6]
def lnL : List Nat := [0, 0, 10, 10, 10, 5, 8, 8, 8, 10, 10, 10, 0, 40, 0, 80, 80, 80, 80, 80, 80, 80, 10, 10, 10, 8, 0, 80, 80, 80, 80, 80, 80, 80, 10, 10, 10, 8, 0, 10, 10, 0, 10, 10, 0, 9, 9, 9, 8, 8, 8, 5, 11, 11, 11, 40, 10, 10, 80, 80, 80, 80, 80, 80, 80, 80, 9, 9, 9, 8, 8, 10, 10]
def kd (k : Nat) : Nat := kdL.getD k 9
def ln (k : Nat) : Nat := lnL.getD k 0
/-- a field's kind: 0 a reference, 1 an int or boolean, 2 a long -/
def fkL : List (List Nat) := [[0, 0, 0, 0, 0, 0, 0, 0, 0, 0, 2, 1, 0, 1, 1], [0, 0, 0, 0, 0, 0, 0, 1, 0, 0, 0, 1], [0, 0, 1], [0, 1, 1, 1], [0, 0, 0, 0, 0, 0, 1, 1, 1, 1], [0, 0, 0, 1, 0, 0, 0, 0, 1, 0, 0, 0, 1, 0, 1, 0, 0, 0, 0, 0, 0, 0, 0, 0, 0, 0, 0, 0, 0, 1, 1, 1, 1, 0, 1, 0, 0]]
def fk (ci : Nat) : List Nat := fkL.getD ci []
def fv (base : Nat) (σ : Sg) (k j t : Nat) : Value := if t = 0 then va_rf ((σ.2.2.2 k j).map (fun q => base + q)) else if t = 1 then .int (σ.2.1 k j) else .long (σ.2.2.1 k j)
def fl (base : Nat) (σ : Sg) (k : Nat) : List Value := (fk (kd k)).mapIdx (fun j t => fv base σ k j t)
def ce (cI cJ : ClassId) (base : Nat) (σ : Sg) (k : Nat) : va_E := if kd k = 6 then .inl (cI, ln k, .inl (σ.2.1 k)) else if kd k = 7 then .inl (cJ, ln k, .inr (.inl (σ.2.2.1 k))) else .inr (kd k, fl base σ k)
def wo (cI cJ : ClassId) (base : Nat) (σ : Sg) : va_W := (List.range σ.1).map (fun k => (base + k, ce cI cJ base σ k))
-- the memory's writes
def sI (σ : Sg) (k j : Nat) (v : Int32) : Sg := (σ.1, va_up σ.2.1 k (upd (σ.2.1 k) j v), σ.2.2.1, σ.2.2.2)
def sJ (σ : Sg) (k j : Nat) (v : Int64) : Sg := (σ.1, σ.2.1, va_up σ.2.2.1 k (vp_updL (σ.2.2.1 k) j v), σ.2.2.2)
def sR (σ : Sg) (k j : Nat) (q : Nat) : Sg := (σ.1, σ.2.1, σ.2.2.1, va_up σ.2.2.2 k (va_up (σ.2.2.2 k) j (some q)))
def sN (σ : Sg) : Sg := (σ.1 + 1, va_up σ.2.1 σ.1 (fun _ => 0), va_up σ.2.2.1 σ.1 (fun _ => 0), va_up σ.2.2.2 σ.1 (fun _ => none))
-- what an instruction asks of the memory, and gives: none where the machine could not go on
def ck (ci k : Nat) (σ : Sg) : Option Unit := if kd k = ci ∧ k < σ.1 then some () else none
def gI (ci k j : Nat) (σ : Sg) : Option Int32 := if kd k = ci ∧ k < σ.1 then some (σ.2.1 k j) else none
def gJ (ci k j : Nat) (σ : Sg) : Option Int64 := if kd k = ci ∧ k < σ.1 then some (σ.2.2.1 k j) else none
def gR (ci k j : Nat) (σ : Sg) : Option Nat := if kd k = ci ∧ k < σ.1 then σ.2.2.2 k j else none
def pI (ci k j : Nat) (v : Int32) (σ : Sg) : Option Sg := if kd k = ci ∧ k < σ.1 then some (sI σ k j v) else none
def pJ (ci k j : Nat) (v : Int64) (σ : Sg) : Option Sg := if kd k = ci ∧ k < σ.1 then some (sJ σ k j v) else none
def pR (ci k j : Nat) (q : Nat) (σ : Sg) : Option Sg := if kd k = ci ∧ k < σ.1 then some (sR σ k j q) else none
def aI (k : Nat) (i : Int32) (σ : Sg) : Option Int32 := if kd k = 6 ∧ k < σ.1 ∧ ¬ (i < 0 ∨ ln k ≤ i.toNatClampNeg) then some (σ.2.1 k i.toNatClampNeg) else none
def aJ (k : Nat) (i : Int32) (σ : Sg) : Option Int64 := if kd k = 7 ∧ k < σ.1 ∧ ¬ (i < 0 ∨ ln k ≤ i.toNatClampNeg) then some (σ.2.2.1 k i.toNatClampNeg) else none
def xI (k : Nat) (i : Int32) (v : Int32) (σ : Sg) : Option Sg := if kd k = 6 ∧ k < σ.1 ∧ ¬ (i < 0 ∨ ln k ≤ i.toNatClampNeg) then some (sI σ k i.toNatClampNeg v) else none
def xJ (k : Nat) (i : Int32) (v : Int64) (σ : Sg) : Option Sg := if kd k = 7 ∧ k < σ.1 ∧ ¬ (i < 0 ∨ ln k ≤ i.toNatClampNeg) then some (sJ σ k i.toNatClampNeg v) else none
def al (k : Nat) (σ : Sg) : Option Int32 := if (kd k = 6 ∨ kd k = 7) ∧ k < σ.1 then some (Int32.ofNat (ln k)) else none
def nO (ci : Nat) (σ : Sg) : Option (Nat × Sg) := if kd σ.1 = ci then some (σ.1, sN σ) else none
def nA (t : Nat) (i : Int32) (σ : Sg) : Option (Nat × Sg) := if kd σ.1 = t ∧ ¬ i < 0 ∧ i.toNatClampNeg = ln σ.1 then some (σ.1, sN σ) else none
def mosT (j : Nat) : Int32 := ([60, 10, 10, 1, 600] : List Int32).getD j 0
/-- MOST_OF_SETTING[i] -/
def mo (i : Int32) : Option Int32 := if ¬ (i < 0 ∨ 5 ≤ i.toNatClampNeg) then some (mosT i.toNatClampNeg) else none
/-- the script's own places -/
def sx (L : Nat) (xs : Nat → Int32) (i : Int32) : Option Int32 := if ¬ (i < 0 ∨ L ≤ i.toNatClampNeg) then some (xs i.toNatClampNeg) else none
/-- a boolean's answer -/
def rz (v : Int32) (σ : Sg) : Option (Int32 × Sg) := if v = 0 ∨ v = 1 then some (v, σ) else none
/-- a division's divisor -/
def dv (y : Int32) : Option Unit := if ¬ y = 0 then some () else none
def dvJ (y : Int64) : Option Unit := if ¬ y = 0 then some () else none
theorem obn {α β : Type} {o : Option α} {f : α → Option β} {b : β} (h : o.bind f = some b) : ∃ a, o = some a ∧ f a = some b := by
  cases o with
  | none => cases h
  | some a => exact ⟨a, rfl, h⟩
theorem ifn {α : Type} {c : Prop} [Decidable c] {a b : α} (h : (if c then some a else none) = some b) : c ∧ a = b := by
  by_cases hc : c
  · rw [if_pos hc] at h; exact ⟨hc, Option.some.inj h⟩
  · rw [if_neg hc] at h; cases h
theorem ifo {α : Type} {c : Prop} [Decidable c] {a : Option α} {b : α} (h : (if c then a else none) = some b) : c ∧ a = some b := by
  by_cases hc : c
  · rw [if_pos hc] at h; exact ⟨hc, h⟩
  · rw [if_neg hc] at h; cases h
section
variable {cI cJ : ClassId} {base : Nat} {σ : Sg}
theorem wo_get {k : Nat} (hk : k < σ.1) : (wo cI cJ base σ)[k]? = some (base + k, ce cI cJ base σ k) := by simp [wo, hk]
theorem wo_at {k : Nat} {q : Nat × va_E} (h : (wo cI cJ base σ)[k]? = some q) : k < σ.1 ∧ q = (base + k, ce cI cJ base σ k) := by
  have hk : k < σ.1 := by
    have h1 := (List.getElem?_eq_some_iff.mp h).1
    simpa [wo] using h1
  rw [wo_get hk] at h
  exact ⟨hk, (Option.some.inj h).symm⟩
theorem wo_D : va_D (fun q => base ≤ q) (wo cI cJ base σ) := by
  refine ⟨fun i j p q hi hj e => ?_, fun k q h => ?_⟩
  · obtain ⟨-, rfl⟩ := wo_at hi
    obtain ⟨-, rfl⟩ := wo_at hj
    have e2 : base + i = base + j := e
    omega
  · obtain ⟨-, rfl⟩ := wo_at h
    show base ≤ base + k
    omega
theorem wo_set {τ : Sg} {k : Nat} (h1 : τ.1 = σ.1) (h : ∀ q, q ≠ k → ce cI cJ base τ q = ce cI cJ base σ q) : wo cI cJ base τ = (wo cI cJ base σ).set k (base + k, ce cI cJ base τ k) := by
  apply List.ext_getElem?
  intro q
  rw [List.getElem?_set]
  by_cases hq : q < σ.1
  · rw [wo_get (by rw [h1]; exact hq)]
    by_cases e : k = q
    · subst e
      have hl : k < (wo cI cJ base σ).length := by simpa [wo] using hq
      simp [hl]
    · rw [if_neg e, wo_get hq, h q (fun z => e z.symm)]
  · have hn : (wo cI cJ base τ)[q]? = none := by
      apply List.getElem?_eq_none
      simp [wo, h1]; omega
    have hn2 : (wo cI cJ base σ)[q]? = none := by
      apply List.getElem?_eq_none
      simp [wo]; omega
    rw [hn]
    by_cases e : k = q
    · subst e
      have hl : ¬ k < (wo cI cJ base σ).length := by simpa [wo] using hq
      simp [hl]
    · rw [if_neg e, hn2]
theorem wo_push {τ : Sg} (h1 : τ.1 = σ.1 + 1) (h : ∀ q, q < σ.1 → ce cI cJ base τ q = ce cI cJ base σ q) : wo cI cJ base τ = wo cI cJ base σ ++ [(base + σ.1, ce cI cJ base τ σ.1)] := by
  unfold wo
  rw [h1, List.range_succ, List.map_append]
  congr 1
  apply List.map_congr_left
  intro q hq
  rw [h q (List.mem_range.mp hq)]
theorem ce_o {k ci : Nat} (h : kd k = ci) (hci : ci < 6) : ce cI cJ base σ k = .inr (ci, fl base σ k) := by
  unfold ce
  rw [if_neg (by omega), if_neg (by omega), h]
theorem ce_i {k : Nat} (h : kd k = 6) : ce cI cJ base σ k = .inl (cI, ln k, .inl (σ.2.1 k)) := by
  unfold ce
  rw [if_pos h]
theorem ce_j {k : Nat} (h : kd k = 7) : ce cI cJ base σ k = .inl (cJ, ln k, .inr (.inl (σ.2.2.1 k))) := by
  unfold ce
  rw [if_neg (by omega), if_pos h]
theorem fl_get (k j : Nat) : (fl base σ k)[j]? = ((fk (kd k))[j]?).map (fun t => fv base σ k j t) := by
  unfold fl
  rw [List.getElem?_mapIdx]
theorem fl_len (k : Nat) : (fl base σ k).length = (fk (kd k)).length := by
  unfold fl
  rw [List.length_mapIdx]
theorem fl_set {τ : Sg} {k j t : Nat} (ht : (fk (kd k))[j]? = some t) (h : ∀ i u, i ≠ j → fv base τ k i u = fv base σ k i u) : fl base τ k = (fl base σ k).set j (fv base τ k j t) := by
  apply List.ext_getElem?
  intro i
  rw [List.getElem?_set, fl_get]
  by_cases e : j = i
  · subst e
    have hl : j < (fl base σ k).length := by rw [fl_len]; exact (List.getElem?_eq_some_iff.mp ht).1
    simp [hl, ht]
  · rw [if_neg e, fl_get]
    congr 1
    funext u
    exact h i u (fun z => e z.symm)
theorem ce_ne_I {k j q : Nat} {v : Int32} (h : q ≠ k) : ce cI cJ base (sI σ k j v) q = ce cI cJ base σ q := by
  have e : (sI σ k j v).2.1 q = σ.2.1 q := va_up_ne _ _ h
  have e3 : fl base (sI σ k j v) q = fl base σ q := by
    unfold fl
    congr 1
    funext i t
    unfold fv
    rw [e]
    rfl
  unfold ce
  rw [e, e3]
  rfl
theorem ce_ne_J {k j q : Nat} {v : Int64} (h : q ≠ k) : ce cI cJ base (sJ σ k j v) q = ce cI cJ base σ q := by
  have e : (sJ σ k j v).2.2.1 q = σ.2.2.1 q := va_up_ne _ _ h
  have e3 : fl base (sJ σ k j v) q = fl base σ q := by
    unfold fl
    congr 1
    funext i t
    unfold fv
    rw [e]
    rfl
  unfold ce
  rw [e, e3]
  rfl
theorem ce_ne_R {k j q a : Nat} (h : q ≠ k) : ce cI cJ base (sR σ k j a) q = ce cI cJ base σ q := by
  have e : (sR σ k j a).2.2.2 q = σ.2.2.2 q := va_up_ne _ _ h
  have e3 : fl base (sR σ k j a) q = fl base σ q := by
    unfold fl
    congr 1
    funext i t
    unfold fv
    rw [e]
    rfl
  unfold ce
  rw [e3]
  rfl
theorem ce_ne_N {q : Nat} (h : q < σ.1) : ce cI cJ base (sN σ) q = ce cI cJ base σ q := by
  have h' : q ≠ σ.1 := by omega
  have e : (sN σ).2.1 q = σ.2.1 q := va_up_ne _ _ h'
  have e1 : (sN σ).2.2.1 q = σ.2.2.1 q := va_up_ne _ _ h'
  have e2 : (sN σ).2.2.2 q = σ.2.2.2 q := va_up_ne _ _ h'
  have e3 : fl base (sN σ) q = fl base σ q := by
    unfold fl
    congr 1
    funext i t
    unfold fv
    rw [e, e1, e2]
  unfold ce
  rw [e, e1, e3]
end
/-- the world's dynamic part: what the heap holds -/
def Dy (base : Nat) (D : va_G) (cI cJ : ClassId) (σ : Sg) (H : Heap) : Prop := va_P D vwCl (wo cI cJ base σ) H ∧ H.size = base + σ.1
/-- its fixed part: classes, nest mates, the one static table -/
def St (base : Nat) (D : va_G) (cI cJ : ClassId) (tS : Nat) (U : State) : Prop :=
  va_K D vwCl [(cI, .int), (cJ, .long)] U ∧ (va_Nw (.methodLinkNest RX4 18 yX3_init "BusThrees") U ∧ va_Nw (.methodLinkNest RX4 25 yX0_init "BusThrees") U ∧ va_Nw (.methodLinkNest RX4 35 yX2_init "BusThrees") U ∧ va_Nw (.methodLinkNest RX0 64 yX4_cell "BusThrees") U) ∧
  va_Z "BusThrees" "MOST_OF_SETTING" "[I" (.ref tS) (fun q => base ≤ q) U U.heap ∧ va_T .int tS 5 (fun j => .int (mosT j)) (fun q => base ≤ q) U U.heap
theorem St.to {base : Nat} {D : va_G} {cI cJ : ClassId} {tS : Nat} {s U : State} {locs : List Loc} (h : St base D cI cJ tS s) (hW : s.WarmedH U.vm) (hS : va_S (fun q => base ≤ q) s.heap U.heap locs) : St base D cI cJ tS U :=
  ⟨va_K.moved hW.alike h.1, ⟨va_Nw.warmM hW h.2.1.1, va_Nw.warmM hW h.2.1.2.1, va_Nw.warmM hW h.2.1.2.2.1, va_Nw.warmM hW h.2.1.2.2.2⟩,
    (h.2.2.1.moved hW.alike).kept (fun a h1 h2 => hS.2.1 a h1 h2), (h.2.2.2.moved hW.alike).kept (fun a h1 h2 => hS.2.1 a h1 h2)⟩
theorem St.calling {base : Nat} {D : va_G} {cI cJ : ClassId} {tS : Nat} {U : State} {g : JFrame} {mk : MethodId} {a : Array Value} (h : St base D cI cJ tS U) : St base D cI cJ tS (U.calling g mk a) :=
  ⟨va_K.moved (u := U) (U := U.calling g mk a) (Vm.Alike.refl U.vm) h.1, ⟨va_Nw.same rfl rfl h.2.1.1, va_Nw.same rfl rfl h.2.1.2.1, va_Nw.same rfl rfl h.2.1.2.2.1, va_Nw.same rfl rfl h.2.1.2.2.2⟩,
    va_Z.moved (u := U) (U := U.calling g mk a) (Vm.Alike.refl U.vm) h.2.2.1, va_T.moved (u := U) (U := U.calling g mk a) (Vm.Alike.refl U.vm) h.2.2.2⟩
/-- a method's own fix -/
def Cx (p : Program) (m : MethodId) (c : Code) (cc : ByteArray) (nL : Nat) (s : State) (args : Array Value) (own : String) (base : Nat) (D : va_G) (cI cJ : ClassId) (tS : Nat) : Prop :=
  CallFix p m c cc nL s args wsL_law own ∧ St base D cI cJ tS s
/-- what a contract begins with -/
abbrev Pw (base : Nat) (D : va_G) (cI cJ : ClassId) (tS : Nat) (σ : Sg) (av : List Value) : Array Value → State → Prop := va_Pc av (fun U => St base D cI cJ tS U ∧ Dy base D cI cJ σ U.heap)
abbrev QwI (base : Nat) (D : va_G) (cI cJ : ClassId) (r : Int32) (τ : Sg) : Array Value → State → Outcome → State → Prop := va_Qi (fun (r' : Int32) (_ : Unit) => r' = r) (fun _ t => Dy base D cI cJ τ t.heap) (fun q => base ≤ q)
abbrev QwJ (base : Nat) (D : va_G) (cI cJ : ClassId) (r : Int64) (τ : Sg) : Array Value → State → Outcome → State → Prop := va_Ql (fun (r' : Int64) (_ : Unit) => r' = r) (fun _ t => Dy base D cI cJ τ t.heap) (fun q => base ≤ q)
abbrev QwV (base : Nat) (D : va_G) (cI cJ : ClassId) (τ : Sg) : Array Value → State → Outcome → State → Prop := va_Qv (fun (_ : Unit) => True) (fun _ t => Dy base D cI cJ τ t.heap) (fun q => base ≤ q)
abbrev QwA (base : Nat) (D : va_G) (cI cJ : ClassId) (r : Nat) (τ : Sg) : Array Value → State → Outcome → State → Prop := va_Qr (fun (_ : Unit) => True) (fun _ a t => a = base + r ∧ Dy base D cI cJ τ t.heap) (fun q => base ≤ q)
theorem Pw.blind {base : Nat} {D : va_G} {cI cJ : ClassId} {tS : Nat} {σ : Sg} {av : List Value} : FrameBlind (Pw base D cI cJ tS σ av) := fun _ _ _ _ q => ⟨q.1, q.2.1.calling, q.2.2⟩
section
variable {p : Program} {l : Launch} {e : Env} {R : Room} {s : State} {m : MethodId} {args : Array Value} {below : List Frame} {meth : Method} {c : Code} {H : Heap} {locs : List Loc} {cells slots : Nat} {Q : State → Prop}
variable {cc : ByteArray} {nL pc : Nat} {ls : Array Slot} {rest : List Value} {own : String} {base : Nat} {D : va_G} {cI cJ : ClassId} {tS : Nat} {σ τ : Sg}
theorem w_getI (hC : Cx p m c cc nL s args own base D cI cJ tS) (hP : Dy base D cI cJ σ H) {ci k j N index : Nat} {C : String} {T : u_T} {v : Int32} (hc : vwCl[ci]? = some (C, T, N)) (hin : ∀ w ∈ u_ws C T N, w ∈ wsL_law) (hj : j < N) (hci : ci < 6) (hf : (fk ci)[j]? = some 1) (hg : gI ci k j σ = some v) (hlink : Cond.fieldLink own index (T j).1 (T j).2.1 (T j).2.2.1 ∈ wsL_law) (hdg : decode cc pc = .ok (.getfield index, 3))
    (kk : W p l e R s m args below meth c H locs cells slots Q (F0 m (pc + 3) ls (.int v :: rest))) : W p l e R s m args below meth c H locs cells slots Q (F0 m pc ls (.ref (base + k) :: rest)) := by
  obtain ⟨hk, hv⟩ := ifn hg
  obtain ⟨⟨hx, hb, hml, hown, hts⟩, hSt⟩ := hC
  refine va_get hx hb hts hin hown hSt.1 hP.1 k (by rw [wo_get hk.2, ce_o hk.1 hci]) hc j hj (hts _ hlink) (fun _ h9 => h9) (v := .int v) ?_ hdg kk
  rw [fl_get, hk.1, hf, ← hv]
  rfl
theorem w_getJ (hC : Cx p m c cc nL s args own base D cI cJ tS) (hP : Dy base D cI cJ σ H) {ci k j N index : Nat} {C : String} {T : u_T} {v : Int64} (hc : vwCl[ci]? = some (C, T, N)) (hin : ∀ w ∈ u_ws C T N, w ∈ wsL_law) (hj : j < N) (hci : ci < 6) (hf : (fk ci)[j]? = some 2) (hg : gJ ci k j σ = some v) (hlink : Cond.fieldLink own index (T j).1 (T j).2.1 (T j).2.2.1 ∈ wsL_law) (hdg : decode cc pc = .ok (.getfield index, 3))
    (kk : W p l e R s m args below meth c H locs cells slots Q (F0 m (pc + 3) ls (.long v :: rest))) : W p l e R s m args below meth c H locs cells slots Q (F0 m pc ls (.ref (base + k) :: rest)) := by
  obtain ⟨hk, hv⟩ := ifn hg
  obtain ⟨⟨hx, hb, hml, hown, hts⟩, hSt⟩ := hC
  refine va_get hx hb hts hin hown hSt.1 hP.1 k (by rw [wo_get hk.2, ce_o hk.1 hci]) hc j hj (hts _ hlink) (fun _ h9 => h9) (v := .long v) ?_ hdg kk
  rw [fl_get, hk.1, hf, ← hv]
  rfl
theorem w_getR (hC : Cx p m c cc nL s args own base D cI cJ tS) (hP : Dy base D cI cJ σ H) {ci k j N index : Nat} {C : String} {T : u_T} {v : Nat} (hc : vwCl[ci]? = some (C, T, N)) (hin : ∀ w ∈ u_ws C T N, w ∈ wsL_law) (hj : j < N) (hci : ci < 6) (hf : (fk ci)[j]? = some 0) (hg : gR ci k j σ = some v) (hlink : Cond.fieldLink own index (T j).1 (T j).2.1 (T j).2.2.1 ∈ wsL_law) (hdg : decode cc pc = .ok (.getfield index, 3))
    (kk : W p l e R s m args below meth c H locs cells slots Q (F0 m (pc + 3) ls (.ref (base + v) :: rest))) : W p l e R s m args below meth c H locs cells slots Q (F0 m pc ls (.ref (base + k) :: rest)) := by
  obtain ⟨hk, hv⟩ := ifo hg
  obtain ⟨⟨hx, hb, hml, hown, hts⟩, hSt⟩ := hC
  refine va_get hx hb hts hin hown hSt.1 hP.1 k (by rw [wo_get hk.2, ce_o hk.1 hci]) hc j hj (hts _ hlink) (fun _ h9 => h9) (v := .ref (base + v)) ?_ hdg kk
  rw [fl_get, hk.1, hf]
  show some (fv base σ k j 0) = _
  unfold fv
  rw [if_pos rfl, hv]
  rfl
theorem Dy.set {k : Nat} {H1 : Heap} {ci : Nat} {fs : List Value} (h1 : τ.1 = σ.1) (h : ∀ q, q ≠ k → ce cI cJ base τ q = ce cI cJ base σ q) (hk : ce cI cJ base τ k = .inr (ci, fs)) (hz : H1.size = base + σ.1) (hP : va_P D vwCl ((wo cI cJ base σ).set k (base + k, .inr (ci, fs))) H1) : Dy base D cI cJ τ H1 :=
  ⟨by rw [wo_set h1 h, hk]; exact hP, by rw [h1]; exact hz⟩
theorem Dy.setA {k : Nat} {H1 : Heap} {x : ClassId × vp_A} (h1 : τ.1 = σ.1) (h : ∀ q, q ≠ k → ce cI cJ base τ q = ce cI cJ base σ q) (hk : ce cI cJ base τ k = .inl x) (hz : H1.size = base + σ.1) (hP : va_P D vwCl ((wo cI cJ base σ).set k (base + k, .inl x)) H1) : Dy base D cI cJ τ H1 :=
  ⟨by rw [wo_set h1 h, hk]; exact hP, by rw [h1]; exact hz⟩
theorem w_putI (hC : Cx p m c cc nL s args own base D cI cJ tS) (hP : Dy base D cI cJ σ H) (hS : va_S (fun q => base ≤ q) s.heap H locs) {ci k j N index : Nat} {C : String} {T : u_T} {v : Int32} (hc : vwCl[ci]? = some (C, T, N)) (hin : ∀ w ∈ u_ws C T N, w ∈ wsL_law) (ty : Nat → FieldType) (hty : ∀ k, k < N → parseFieldDescriptor (T k).2.2.1 = some (ty k)) (hnm : ∀ a, a < N → ∀ b, b < N → a ≠ b → (T a).2.1 ≠ (T b).2.1) (hj : j < N) (hci : ci < 6) (hf : (fk ci)[j]? = some 1) (hfin : (T j).2.2.2 = false) (hn : narrow (ty j) (.int v) = .int v) (hfit : fits (ty j) (.int v) = true) (hg : pI ci k j v σ = some τ) (hlink : Cond.fieldLink own index (T j).1 (T j).2.1 (T j).2.2.1 ∈ wsL_law) (hdg : decode cc pc = .ok (.putfield index, 3))
    (kk : ∀ (H1 : Heap) (locs1 : List Loc), Dy base D cI cJ τ H1 → va_S (fun q => base ≤ q) s.heap H1 locs1 → W p l e R s m args below meth c H1 locs1 cells slots Q (F0 m (pc + 3) ls rest)) : W p l e R s m args below meth c H locs cells slots Q (F0 m pc ls (.int v :: .ref (base + k) :: rest)) := by
  obtain ⟨hk, rfl⟩ := ifn hg
  obtain ⟨⟨hx, hb, hml, hown, hts⟩, hSt⟩ := hC
  have he : (wo cI cJ base σ)[k]? = some (base + k, .inr (ci, fl base σ k)) := by rw [wo_get hk.2, ce_o hk.1 hci]
  have hD : va_D (fun q => base ≤ q) (wo cI cJ base σ) := wo_D
  have hap := va_apart (own := own) hts hin ty hty hnm hSt.1 hc
  obtain ⟨r, h1, cell, q1, q2, q3, q4⟩ := hP.1 k _ he
  have hr : r = (C, T, N) := Option.some.inj (h1.symm.trans hc)
  subst hr
  obtain ⟨hSl, hfc, kC, hkC, hkind⟩ := hSt.1.1 ci _ hc
  obtain ⟨cf, kf, fi, f, hi, hsl⟩ := hSl j hj
  have hlay := hts _ (hin _ (u_in_lay hj))
  unfold u_lay at hlay
  rw [if_neg (by rw [hfin]; decide)] at hlay
  have hst := (u_facts hfc hkC (u_lays hts hin hj) hi).1
  have h6 := u_store hfc hkC hkind hlay hi (hty j hj) hn hfit
  have hfl : fl base (sI σ k j v) k = (fl base σ k).set j (.int v) := by
    rw [fl_set (τ := sI σ k j v) (σ := σ) (t := 1) (by rw [hk.1]; exact hf) (fun i u hu => ?_)]
    · show _ = _
      congr 1
      show (if (1 : Nat) = 0 then _ else if (1 : Nat) = 1 then Value.int ((sI σ k j v).2.1 k j) else _) = _
      rw [if_neg (by decide), if_pos rfl]
      simp [sI, va_up, upd]
    · unfold fv
      have e1 : (sI σ k j v).2.1 k i = σ.2.1 k i := by simp [sI, va_up, upd, hu]
      rw [e1]
      rfl
  refine W.putK hx hb (f := f) ⟨hown, hts _ hlink, ⟨_, _, _, hi⟩, hst⟩ (by rw [q2]; exact h6) q1 q3 (by rw [hsl]; exact k2_hasslot (q4 j hj)) rfl rfl hdg fun H' e1 e2 e3 => ?_
  rw [hsl] at e1 ⊢
  have hl : j < (fl base σ k).length := by rw [fl_len, hk.1]; exact (List.getElem?_eq_some_iff.mp hf).1
  refine kk H' _ (Dy.set (σ := σ) (k := k) (ci := ci) (fs := (fl base σ k).set j (.int v)) rfl (fun q hq => ce_ne_I hq) (by rw [ce_o hk.1 hci, hfl]) (by rw [e2]; exact hP.2) (hP.1.set hD he ⟨_, hc, t_OB.to (V := updV (vp_V (fl base σ k)) j (.int v)) ⟨_, e1, q2, q3, t_set q4 hap hj (.int v)⟩ (fun i _ => vp_updV_set hl (.int v) i)⟩ e3)) (hS.put e2 e3 (hD.2 k _ he))
theorem w_putJ (hC : Cx p m c cc nL s args own base D cI cJ tS) (hP : Dy base D cI cJ σ H) (hS : va_S (fun q => base ≤ q) s.heap H locs) {ci k j N index : Nat} {C : String} {T : u_T} {v : Int64} (hc : vwCl[ci]? = some (C, T, N)) (hin : ∀ w ∈ u_ws C T N, w ∈ wsL_law) (ty : Nat → FieldType) (hty : ∀ k, k < N → parseFieldDescriptor (T k).2.2.1 = some (ty k)) (hnm : ∀ a, a < N → ∀ b, b < N → a ≠ b → (T a).2.1 ≠ (T b).2.1) (hj : j < N) (hci : ci < 6) (hf : (fk ci)[j]? = some 2) (hfin : (T j).2.2.2 = false) (hn : narrow (ty j) (.long v) = .long v) (hfit : fits (ty j) (.long v) = true) (hg : pJ ci k j v σ = some τ) (hlink : Cond.fieldLink own index (T j).1 (T j).2.1 (T j).2.2.1 ∈ wsL_law) (hdg : decode cc pc = .ok (.putfield index, 3))
    (kk : ∀ (H1 : Heap) (locs1 : List Loc), Dy base D cI cJ τ H1 → va_S (fun q => base ≤ q) s.heap H1 locs1 → W p l e R s m args below meth c H1 locs1 cells slots Q (F0 m (pc + 3) ls rest)) : W p l e R s m args below meth c H locs cells slots Q (F0 m pc ls (.long v :: .ref (base + k) :: rest)) := by
  obtain ⟨hk, rfl⟩ := ifn hg
  obtain ⟨⟨hx, hb, hml, hown, hts⟩, hSt⟩ := hC
  have he : (wo cI cJ base σ)[k]? = some (base + k, .inr (ci, fl base σ k)) := by rw [wo_get hk.2, ce_o hk.1 hci]
  have hD : va_D (fun q => base ≤ q) (wo cI cJ base σ) := wo_D
  have hap := va_apart (own := own) hts hin ty hty hnm hSt.1 hc
  obtain ⟨r, h1, cell, q1, q2, q3, q4⟩ := hP.1 k _ he
  have hr : r = (C, T, N) := Option.some.inj (h1.symm.trans hc)
  subst hr
  obtain ⟨hSl, hfc, kC, hkC, hkind⟩ := hSt.1.1 ci _ hc
  obtain ⟨cf, kf, fi, f, hi, hsl⟩ := hSl j hj
  have hlay := hts _ (hin _ (u_in_lay hj))
  unfold u_lay at hlay
  rw [if_neg (by rw [hfin]; decide)] at hlay
  have hst := (u_facts hfc hkC (u_lays hts hin hj) hi).1
  have h6 := u_store hfc hkC hkind hlay hi (hty j hj) hn hfit
  have hfl : fl base (sJ σ k j v) k = (fl base σ k).set j (.long v) := by
    rw [fl_set (τ := sJ σ k j v) (σ := σ) (t := 2) (by rw [hk.1]; exact hf) (fun i u hu => ?_)]
    · congr 1
      show (if (2 : Nat) = 0 then _ else if (2 : Nat) = 1 then _ else Value.long ((sJ σ k j v).2.2.1 k j)) = _
      rw [if_neg (by decide), if_neg (by decide)]
      simp [sJ, va_up, vp_updL]
    · unfold fv
      have e1 : (sJ σ k j v).2.2.1 k i = σ.2.2.1 k i := by simp [sJ, va_up, vp_updL, hu]
      rw [e1]
      rfl
  refine W.putK hx hb (f := f) ⟨hown, hts _ hlink, ⟨_, _, _, hi⟩, hst⟩ (by rw [q2]; exact h6) q1 q3 (by rw [hsl]; exact k2_hasslot (q4 j hj)) rfl rfl hdg fun H' e1 e2 e3 => ?_
  rw [hsl] at e1 ⊢
  have hl : j < (fl base σ k).length := by rw [fl_len, hk.1]; exact (List.getElem?_eq_some_iff.mp hf).1
  refine kk H' _ (Dy.set (σ := σ) (k := k) (ci := ci) (fs := (fl base σ k).set j (.long v)) rfl (fun q hq => ce_ne_J hq) (by rw [ce_o hk.1 hci, hfl]) (by rw [e2]; exact hP.2) (hP.1.set hD he ⟨_, hc, t_OB.to (V := updV (vp_V (fl base σ k)) j (.long v)) ⟨_, e1, q2, q3, t_set q4 hap hj (.long v)⟩ (fun i _ => vp_updV_set hl (.long v) i)⟩ e3)) (hS.put e2 e3 (hD.2 k _ he))
theorem fl_R {k j a ci : Nat} (hk : kd k = ci) (hf : (fk ci)[j]? = some 0) : fl base (sR σ k j a) k = (fl base σ k).set j (.ref (base + a)) := by
  rw [fl_set (τ := sR σ k j a) (σ := σ) (t := 0) (by rw [hk]; exact hf) (fun i u hu => ?_)]
  · congr 1
    show (if (0 : Nat) = 0 then va_rf (((sR σ k j a).2.2.2 k j).map (fun q => base + q)) else _) = _
    rw [if_pos rfl]
    simp [sR, va_up, va_rf]
  · unfold fv
    have e1 : (sR σ k j a).2.2.2 k i = σ.2.2.2 k i := by simp [sR, va_up, hu]
    rw [e1]
    rfl
theorem w_putR (hC : Cx p m c cc nL s args own base D cI cJ tS) (hP : Dy base D cI cJ σ H) (hS : va_S (fun q => base ≤ q) s.heap H locs) {ci k j N index a : Nat} {C : String} {T : u_T} (hc : vwCl[ci]? = some (C, T, N)) (hin : ∀ w ∈ u_ws C T N, w ∈ wsL_law) (ty : Nat → FieldType) (hty : ∀ k, k < N → parseFieldDescriptor (T k).2.2.1 = some (ty k)) (hnm : ∀ a, a < N → ∀ b, b < N → a ≠ b → (T a).2.1 ≠ (T b).2.1) (hj : j < N) (hci : ci < 6) (hf : (fk ci)[j]? = some 0) (hfin : (T j).2.2.2 = false) (hn : ∀ z : Nat, narrow (ty j) (.ref z) = .ref z) (hfit : ∀ z : Nat, fits (ty j) (.ref z) = true) (hg : pR ci k j a σ = some τ) (hlink : Cond.fieldLink own index (T j).1 (T j).2.1 (T j).2.2.1 ∈ wsL_law) (hdg : decode cc pc = .ok (.putfield index, 3))
    (kk : ∀ (H1 : Heap) (locs1 : List Loc), Dy base D cI cJ τ H1 → va_S (fun q => base ≤ q) s.heap H1 locs1 → W p l e R s m args below meth c H1 locs1 cells slots Q (F0 m (pc + 3) ls rest)) : W p l e R s m args below meth c H locs cells slots Q (F0 m pc ls (.ref (base + a) :: .ref (base + k) :: rest)) := by
  obtain ⟨hk, rfl⟩ := ifn hg
  obtain ⟨⟨hx, hb, hml, hown, hts⟩, hSt⟩ := hC
  have he : (wo cI cJ base σ)[k]? = some (base + k, .inr (ci, fl base σ k)) := by rw [wo_get hk.2, ce_o hk.1 hci]
  have hD : va_D (fun q => base ≤ q) (wo cI cJ base σ) := wo_D
  have hap := va_apart (own := own) hts hin ty hty hnm hSt.1 hc
  obtain ⟨r, h1, cell, q1, q2, q3, q4⟩ := hP.1 k _ he
  have hr : r = (C, T, N) := Option.some.inj (h1.symm.trans hc)
  subst hr
  obtain ⟨hSl, hfc, kC, hkC, hkind⟩ := hSt.1.1 ci _ hc
  obtain ⟨cf, kf, fi, f, hi, hsl⟩ := hSl j hj
  have hlay := hts _ (hin _ (u_in_lay hj))
  unfold u_lay at hlay
  rw [if_neg (by rw [hfin]; decide)] at hlay
  have hst := (u_facts hfc hkC (u_lays hts hin hj) hi).1
  have h6 := u_store hfc hkC hkind hlay hi (hty j hj) (hn (base + a)) (hfit (base + a))
  refine W.putK hx hb (f := f) ⟨hown, hts _ hlink, ⟨_, _, _, hi⟩, hst⟩ (by rw [q2]; exact h6) q1 q3 (by rw [hsl]; exact k2_hasslot (q4 j hj)) rfl rfl hdg fun H' e1 e2 e3 => ?_
  rw [hsl] at e1 ⊢
  have hl : j < (fl base σ k).length := by rw [fl_len, hk.1]; exact (List.getElem?_eq_some_iff.mp hf).1
  refine kk H' _ (Dy.set (σ := σ) (k := k) (ci := ci) (fs := (fl base σ k).set j (.ref (base + a))) rfl (fun q hq => ce_ne_R hq) (by rw [ce_o hk.1 hci, fl_R hk.1 hf]) (by rw [e2]; exact hP.2) (hP.1.set hD he ⟨_, hc, t_OB.to (V := updV (vp_V (fl base σ k)) j (.ref (base + a))) ⟨_, e1, q2, q3, t_set q4 hap hj (.ref (base + a))⟩ (fun i _ => vp_updV_set hl (.ref (base + a)) i)⟩ e3)) (hS.put e2 e3 (hD.2 k _ he))
/-- a final field, in its class's constructor -/
theorem w_putF (hC : Cx p m c cc nL s args own base D cI cJ tS) (hP : Dy base D cI cJ σ H) (hS : va_S (fun q => base ≤ q) s.heap H locs) (hnm0 : meth.name = "<init>") {ci k j N index a : Nat} {C : String} {T : u_T} (hc : vwCl[ci]? = some (C, T, N)) (hin : ∀ w ∈ u_ws C T N, w ∈ wsL_law) (ty : Nat → FieldType) (hty : ∀ k, k < N → parseFieldDescriptor (T k).2.2.1 = some (ty k)) (hnm : ∀ a, a < N → ∀ b, b < N → a ≠ b → (T a).2.1 ≠ (T b).2.1) (hj : j < N) (hci : ci < 6) (hf : (fk ci)[j]? = some 0) (hfin : (T j).2.2.2 = true) (hdecl : (T j).1 = own) (hn : ∀ z : Nat, narrow (ty j) (.ref z) = .ref z) (hfit : ∀ z : Nat, fits (ty j) (.ref z) = true) (hg : pR ci k j a σ = some τ) (hlink : Cond.fieldLink own index (T j).1 (T j).2.1 (T j).2.2.1 ∈ wsL_law) (hdg : decode cc pc = .ok (.putfield index, 3))
    (kk : ∀ (H1 : Heap) (locs1 : List Loc), Dy base D cI cJ τ H1 → va_S (fun q => base ≤ q) s.heap H1 locs1 → W p l e R s m args below meth c H1 locs1 cells slots Q (F0 m (pc + 3) ls rest)) : W p l e R s m args below meth c H locs cells slots Q (F0 m pc ls (.ref (base + a) :: .ref (base + k) :: rest)) := by
  obtain ⟨hk, rfl⟩ := ifn hg
  obtain ⟨⟨hx, hb, hml, hown, hts⟩, hSt⟩ := hC
  have he : (wo cI cJ base σ)[k]? = some (base + k, .inr (ci, fl base σ k)) := by rw [wo_get hk.2, ce_o hk.1 hci]
  have hD : va_D (fun q => base ≤ q) (wo cI cJ base σ) := wo_D
  have hap := va_apart (own := own) hts hin ty hty hnm hSt.1 hc
  obtain ⟨r, h1, cell, q1, q2, q3, q4⟩ := hP.1 k _ he
  have hr : r = (C, T, N) := Option.some.inj (h1.symm.trans hc)
  subst hr
  obtain ⟨hSl, hfc, kC, hkC, hkind⟩ := hSt.1.1 ci _ hc
  obtain ⟨cf, kf, fi, f, hi, hsl⟩ := hSl j hj
  have hlay := hts _ (hin _ (u_in_lay hj))
  unfold u_lay at hlay
  rw [if_pos hfin] at hlay
  have hst := (u_facts hfc hkC (u_lays hts hin hj) hi).1
  have hcf : m.cls = cf := by
    obtain ⟨_, _, c', _, _, _, -, -, hf', -, -, -, hown2, -⟩ := Cond.laysFinal_spec hlay
    have e1 : c' = cf := by have := hi.symm.trans hf'; simp at this; exact this.1.symm
    rw [hdecl] at hown2
    rw [← e1]; exact Option.some.inj (hown.symm.trans hown2)
  have h6 := u_fits hfc hkC hkind (Or.inr hlay) hi (hty j hj) (hn (base + a)) (hfit (base + a))
  refine W.putFinK hx hb hown (hts _ hlink) hi hst hcf hnm0 (by rw [q2]; exact h6) q1 q3 (by rw [hsl]; exact k2_hasslot (q4 j hj)) rfl rfl hdg fun H' e1 e2 e3 => ?_
  rw [hsl] at e1 ⊢
  have hl : j < (fl base σ k).length := by rw [fl_len, hk.1]; exact (List.getElem?_eq_some_iff.mp hf).1
  refine kk H' _ (Dy.set (σ := σ) (k := k) (ci := ci) (fs := (fl base σ k).set j (.ref (base + a))) rfl (fun q hq => ce_ne_R hq) (by rw [ce_o hk.1 hci, fl_R hk.1 hf]) (by rw [e2]; exact hP.2) (hP.1.set hD he ⟨_, hc, t_OB.to (V := updV (vp_V (fl base σ k)) j (.ref (base + a))) ⟨_, e1, q2, q3, t_set q4 hap hj (.ref (base + a))⟩ (fun i _ => vp_updV_set hl (.ref (base + a)) i)⟩ e3)) (hS.put e2 e3 (hD.2 k _ he))
theorem w_iald (hC : Cx p m c cc nL s args own base D cI cJ tS) (hP : Dy base D cI cJ σ H) {k : Nat} {i v : Int32} (hg : aI k i σ = some v) (hdg : decode cc pc = .ok (.iaload, 1))
    (kk : W p l e R s m args below meth c H locs cells slots Q (F0 m (pc + 1) ls (.int v :: rest))) : W p l e R s m args below meth c H locs cells slots Q (F0 m pc ls (.int i :: .ref (base + k) :: rest)) := by
  obtain ⟨⟨h1, h2, h3⟩, hv⟩ := ifn hg
  obtain ⟨⟨hx, hb, hml, hown, hts⟩, hSt⟩ := hC
  refine va_iald hx hb hSt.1 hP.1 k 0 (by rw [wo_get h2, ce_i h1]) rfl h3 hdg ?_
  rw [hv]
  exact kk
theorem w_lald (hC : Cx p m c cc nL s args own base D cI cJ tS) (hP : Dy base D cI cJ σ H) {k : Nat} {i : Int32} {v : Int64} (hg : aJ k i σ = some v) (hdg : decode cc pc = .ok (.laload, 1))
    (kk : W p l e R s m args below meth c H locs cells slots Q (F0 m (pc + 1) ls (.long v :: rest))) : W p l e R s m args below meth c H locs cells slots Q (F0 m pc ls (.int i :: .ref (base + k) :: rest)) := by
  obtain ⟨⟨h1, h2, h3⟩, hv⟩ := ifn hg
  obtain ⟨⟨hx, hb, hml, hown, hts⟩, hSt⟩ := hC
  refine va_lald hx hb hSt.1 hP.1 k 1 (by rw [wo_get h2, ce_j h1]) rfl h3 hdg ?_
  rw [hv]
  exact kk
theorem w_alen (hC : Cx p m c cc nL s args own base D cI cJ tS) (hP : Dy base D cI cJ σ H) {k : Nat} {v : Int32} (hg : al k σ = some v) (hdg : decode cc pc = .ok (.arraylength, 1))
    (kk : W p l e R s m args below meth c H locs cells slots Q (F0 m (pc + 1) ls (.int v :: rest))) : W p l e R s m args below meth c H locs cells slots Q (F0 m pc ls (.ref (base + k) :: rest)) := by
  obtain ⟨⟨h1, h2⟩, hv⟩ := ifn hg
  obtain ⟨⟨hx, hb, hml, hown, hts⟩, hSt⟩ := hC
  rcases h1 with h1 | h1
  · exact va_alen hx hb hSt.1 hP.1 k 0 (by rw [wo_get h2, ce_i h1]) rfl hv hdg kk
  · exact va_alen hx hb hSt.1 hP.1 k 1 (by rw [wo_get h2, ce_j h1]) rfl hv hdg kk
theorem w_iast (hC : Cx p m c cc nL s args own base D cI cJ tS) (hP : Dy base D cI cJ σ H) (hS : va_S (fun q => base ≤ q) s.heap H locs) {k : Nat} {i x : Int32} (hg : xI k i x σ = some τ) (hdg : decode cc pc = .ok (.iastore, 1))
    (kk : ∀ (H1 : Heap) (locs1 : List Loc), Dy base D cI cJ τ H1 → va_S (fun q => base ≤ q) s.heap H1 locs1 → W p l e R s m args below meth c H1 locs1 cells slots Q (F0 m (pc + 1) ls rest)) : W p l e R s m args below meth c H locs cells slots Q (F0 m pc ls (.int x :: .int i :: .ref (base + k) :: rest)) := by
  obtain ⟨⟨h1, h2, h3⟩, rfl⟩ := ifn hg
  obtain ⟨⟨hx, hb, hml, hown, hts⟩, hSt⟩ := hC
  have hD : va_D (fun q => base ≤ q) (wo cI cJ base σ) := wo_D
  have ha : (wo cI cJ base σ)[k]? = some (base + k, .inl (cI, ln k, .inl (σ.2.1 k))) := by rw [wo_get h2, ce_i h1]
  refine W.iast hx hb (hP.1 k _ ha) ((hSt.1.2 0 (cI, .int) rfl).1 (ln k) (fun j => .int (σ.2.1 k j))) (fun q => by cases q) (by show ¬ (i < 0 ∨ (arrV _ _ _).slots.size ≤ _); rw [arrV_size]; exact h3) rfl rfl hdg fun H1 e1 z oq => ?_
  refine kk H1 _ (Dy.setA (σ := σ) (k := k) (x := (cI, ln k, .inl (upd (σ.2.1 k) i.toNatClampNeg x))) rfl (fun q hq => ce_ne_I hq) (by rw [ce_i h1]; simp [sI, va_up]) (by rw [z]; exact hP.2) (hP.1.set hD ha ?_ oq)) (hS.put z oq (hD.2 k _ ha))
  show H1[base + k]? = some (vp_cell _ _)
  rw [e1]
  rw [vp_cell_i, vp_cell_i, arrV_store]
  congr 2
  funext q
  by_cases hq : q = i.toNatClampNeg
  · subst hq
    simp [updV, upd]
  · simp [updV, upd, hq]
theorem w_last (hC : Cx p m c cc nL s args own base D cI cJ tS) (hP : Dy base D cI cJ σ H) (hS : va_S (fun q => base ≤ q) s.heap H locs) {k : Nat} {i : Int32} {x : Int64} (hg : xJ k i x σ = some τ) (hdg : decode cc pc = .ok (.lastore, 1))
    (kk : ∀ (H1 : Heap) (locs1 : List Loc), Dy base D cI cJ τ H1 → va_S (fun q => base ≤ q) s.heap H1 locs1 → W p l e R s m args below meth c H1 locs1 cells slots Q (F0 m (pc + 1) ls rest)) : W p l e R s m args below meth c H locs cells slots Q (F0 m pc ls (.long x :: .int i :: .ref (base + k) :: rest)) := by
  obtain ⟨⟨h1, h2, h3⟩, rfl⟩ := ifn hg
  obtain ⟨⟨hx, hb, hml, hown, hts⟩, hSt⟩ := hC
  have hD : va_D (fun q => base ≤ q) (wo cI cJ base σ) := wo_D
  have ha : (wo cI cJ base σ)[k]? = some (base + k, .inl (cJ, ln k, .inr (.inl (σ.2.2.1 k)))) := by rw [wo_get h2, ce_j h1]
  refine W.last hx hb (hP.1 k _ ha) ((hSt.1.2 1 (cJ, .long) rfl).1 (ln k) (fun j => .long (σ.2.2.1 k j))) (fun q => by cases q) (by show ¬ (i < 0 ∨ (arrV _ _ _).slots.size ≤ _); rw [arrV_size]; exact h3) rfl rfl hdg fun H1 e1 z oq => ?_
  refine kk H1 _ (Dy.setA (σ := σ) (k := k) (x := (cJ, ln k, .inr (.inl (vp_updL (σ.2.2.1 k) i.toNatClampNeg x)))) rfl (fun q hq => ce_ne_J hq) (by rw [ce_j h1]; simp [sJ, va_up]) (by rw [z]; exact hP.2) (hP.1.set hD ha ?_ oq)) (hS.put z oq (hD.2 k _ ha))
  show H1[base + k]? = some (vp_cell _ _)
  rw [e1]
  rw [vp_cell_l, vp_cell_l, arrV_store]
  congr 2
  funext q
  by_cases hq : q = i.toNatClampNeg
  · subst hq
    simp [updV, vp_updL]
  · simp [updV, vp_updL, hq]
end
