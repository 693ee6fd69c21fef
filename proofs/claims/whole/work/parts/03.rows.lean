def dfl (ci : Nat) : List Value := (fk ci).map (fun t => if t = 0 then .null else if t = 1 then .int 0 else .long 0)
theorem fl_new {base : Nat} {σ : Sg} {ci : Nat} (h : kd σ.1 = ci) : fl base (sN σ) σ.1 = dfl ci := by
  unfold fl dfl
  rw [h]
  apply List.ext_getElem?
  intro i
  rw [List.getElem?_mapIdx, List.getElem?_map]
  congr 1
  funext t
  unfold fv
  simp [sN, va_up, va_rf]
theorem gdL : wsL_law.all goodWord = true := by decide +kernel
theorem gdIn {ws : List Cond} (h : ∀ w ∈ ws, w ∈ wsL_law) : GoodIn wsL_law ws := fun w hw => ⟨h w hw, good_of_word (List.all_eq_true.mp gdL w (h w hw))⟩
section
variable {p : Program} {l : Launch} {e : Env} {R : Room} {s : State} {m : MethodId} {args : Array Value} {below : List Frame} {meth : Method} {c : Code} {H : Heap} {locs : List Loc} {cells slots : Nat} {Q : State → Prop}
variable {cc : ByteArray} {nL pc : Nat} {ls : Array Slot} {rest : List Value} {own : String} {base : Nat} {D : va_G} {cI cJ : ClassId} {tS : Nat} {σ τ : Sg}
theorem w_new (hC : Cx p m c cc nL s args own base D cI cJ tS) (hP : Dy base D cI cJ σ H) (hS : va_S (fun q => base ≤ q) s.heap H locs) {ci N index k : Nat} {C : String} {T : u_T} (hc : vwCl[ci]? = some (C, T, N)) (hin : ∀ w ∈ u_ws C T N, w ∈ wsL_law) (ty : Nat → FieldType) (hty : ∀ k, k < N → parseFieldDescriptor (T k).2.2.1 = some (ty k)) (hci : ci < 6) (hdef : ∀ j, j < N → defaultValue (ty j) = vp_V (dfl ci) j) (hcl : Cond.classLink own index C ∈ wsL_law) (hinst : Cond.instantiable C N ∈ wsL_law) (hini : Cond.initialized C ∈ wsL_law) (hcells : cells + 1 ≤ R.cells) (hslots : slots + N ≤ R.slots) (hg : nO ci σ = some (k, τ)) (hdg : decode cc pc = .ok (.new index, 3))
    (kk : ∀ (H1 : Heap), Dy base D cI cJ τ H1 → va_S (fun q => base ≤ q) s.heap H1 locs → W p l e R s m args below meth c H1 locs (cells + 1) (slots + N) Q (F0 m (pc + 3) ls (.ref (base + k) :: rest))) : W p l e R s m args below meth c H locs cells slots Q (F0 m pc ls rest) := by
  obtain ⟨hk, he⟩ := ifn hg
  cases he
  obtain ⟨⟨hx, hb, hml, hown, hts⟩, hSt⟩ := hC
  have hKn := hSt.1.1 ci _ hc
  have hz := hP.2
  have hs1 := hS.1
  refine W.newcK hx hb hown (hts _ hcl) (hts _ hinst) (hts _ hini) rfl hdg hcells hslots hKn.2.1 hP.2 fun H1 kC hkC e1 z1 o1 => ?_
  refine kk H1 ⟨?_, by show H1.size = base + (σ.1 + 1); omega⟩ ⟨by omega, fun x h1 h2 => (o1 x (by omega)).trans (hS.2.1 x h1 h2), hS.2.2⟩
  rw [wo_push (τ := sN σ) (σ := σ) rfl (fun q hq => ce_ne_N hq), ce_o hk hci, fl_new hk]
  refine (hP.1.kept (fun k x hx => ?_)).app (fun k x hx => ?_)
  · obtain ⟨h1, rfl⟩ := wo_at hx
    exact o1 (base + k) (by omega)
  · have hz : k < 1 := (List.getElem?_eq_some_iff.mp hx).1
    rw [show k = 0 by omega] at hx
    cases hx
    exact ⟨_, hc, (u_born ty hts hin hKn hkC e1 hty).to hdef⟩
theorem w_newI (hC : Cx p m c cc nL s args own base D cI cJ tS) (hP : Dy base D cI cJ σ H) (hS : va_S (fun q => base ≤ q) s.heap H locs) {k N : Nat} {n : Int32} (hN : n.toNatClampNeg = N) (hbytes : N * 4 ≤ 536870912) (harr : Cond.arrayClass .int ∈ wsL_law) (hcells : cells + 1 ≤ R.cells) (hslots : slots + N ≤ R.slots) (hg : nA 6 n σ = some (k, τ)) (hdg : decode cc pc = .ok (.newarray .int, 2))
    (kk : ∀ (H1 : Heap), Dy base D cI cJ τ H1 → va_S (fun q => base ≤ q) s.heap H1 locs → W p l e R s m args below meth c H1 locs (cells + 1) (slots + N) Q (F0 m (pc + 2) ls (.ref (base + k) :: rest))) : W p l e R s m args below meth c H locs cells slots Q (F0 m pc ls (.int n :: rest)) := by
  obtain ⟨⟨hk, hn0, hnl⟩, he⟩ := ifn hg
  cases he
  obtain ⟨⟨hx, hb, hml, hown, hts⟩, hSt⟩ := hC
  have hz := hP.2
  have hs1 := hS.1
  refine va_newaK hx hb (atype := .int) (hts _ harr) rfl hdg rfl hn0 hN hbytes hcells hslots hP.2 fun H1 cA e1 z1 o1 hAr hNm => ?_
  have hcA : cA = cI := Option.some.inj (hNm.symm.trans (hSt.1.2 0 (cI, .int) rfl).2)
  subst hcA
  refine kk H1 ⟨?_, by show H1.size = base + (σ.1 + 1); omega⟩ ⟨by omega, fun x h1 h2 => (o1 x (by omega)).trans (hS.2.1 x h1 h2), hS.2.2⟩
  rw [wo_push (τ := sN σ) (σ := σ) rfl (fun q hq => ce_ne_N hq), ce_i hk]
  refine (hP.1.kept (fun k x hx => ?_)).app (fun k x hx => ?_)
  · obtain ⟨h1, rfl⟩ := wo_at hx
    exact o1 (base + k) (by omega)
  · have hz : k < 1 := (List.getElem?_eq_some_iff.mp hx).1
    rw [show k = 0 by omega] at hx
    cases hx
    show H1[base + σ.1]? = some (vp_cell _ _)
    rw [vp_cell_i, e1, ← hN, hnl]
    have e2 : (sN σ).2.1 σ.1 = fun _ => 0 := by simp [sN, va_up]
    rw [e2]
    rfl
theorem w_newJ (hC : Cx p m c cc nL s args own base D cI cJ tS) (hP : Dy base D cI cJ σ H) (hS : va_S (fun q => base ≤ q) s.heap H locs) {k N : Nat} {n : Int32} (hN : n.toNatClampNeg = N) (hbytes : N * 8 ≤ 536870912) (harr : Cond.arrayClass .long ∈ wsL_law) (hcells : cells + 1 ≤ R.cells) (hslots : slots + N ≤ R.slots) (hg : nA 7 n σ = some (k, τ)) (hdg : decode cc pc = .ok (.newarray .long, 2))
    (kk : ∀ (H1 : Heap), Dy base D cI cJ τ H1 → va_S (fun q => base ≤ q) s.heap H1 locs → W p l e R s m args below meth c H1 locs (cells + 1) (slots + N) Q (F0 m (pc + 2) ls (.ref (base + k) :: rest))) : W p l e R s m args below meth c H locs cells slots Q (F0 m pc ls (.int n :: rest)) := by
  obtain ⟨⟨hk, hn0, hnl⟩, he⟩ := ifn hg
  cases he
  obtain ⟨⟨hx, hb, hml, hown, hts⟩, hSt⟩ := hC
  have hz := hP.2
  have hs1 := hS.1
  refine va_newaK hx hb (atype := .long) (hts _ harr) rfl hdg rfl hn0 hN hbytes hcells hslots hP.2 fun H1 cA e1 z1 o1 hAr hNm => ?_
  have hcA : cA = cJ := Option.some.inj (hNm.symm.trans (hSt.1.2 1 (cJ, .long) rfl).2)
  subst hcA
  refine kk H1 ⟨?_, by show H1.size = base + (σ.1 + 1); omega⟩ ⟨by omega, fun x h1 h2 => (o1 x (by omega)).trans (hS.2.1 x h1 h2), hS.2.2⟩
  rw [wo_push (τ := sN σ) (σ := σ) rfl (fun q hq => ce_ne_N hq), ce_j hk]
  refine (hP.1.kept (fun k x hx => ?_)).app (fun k x hx => ?_)
  · obtain ⟨h1, rfl⟩ := wo_at hx
    exact o1 (base + k) (by omega)
  · have hz : k < 1 := (List.getElem?_eq_some_iff.mp hx).1
    rw [show k = 0 by omega] at hx
    cases hx
    show H1[base + σ.1]? = some (vp_cell _ _)
    rw [vp_cell_l, e1, ← hN, hnl]
    have e2 : (sN σ).2.2.1 σ.1 = fun _ => 0 := by simp [sN, va_up]
    rw [e2]
    rfl
theorem w_gets (hC : Cx p m c cc nL s args own base D cI cJ tS) (hS : va_S (fun q => base ≤ q) s.heap H locs) {index : Nat} (hlink : Cond.fieldLink own index "BusThrees" "MOST_OF_SETTING" "[I" ∈ wsL_law) (hdg : decode cc pc = .ok (.getstatic index, 3))
    (kk : W p l e R s m args below meth c H locs cells slots Q (F0 m (pc + 3) ls (.ref tS :: rest))) : W p l e R s m args below meth c H locs cells slots Q (F0 m pc ls rest) :=
  va_gets hC.1.1 hC.1.2.1 hC.2.2.2.1 hS hC.1.2.2.2.1 (hC.1.2.2.2.2 _ hlink) (fun _ h => h) hdg kk
theorem w_mo (hC : Cx p m c cc nL s args own base D cI cJ tS) (hS : va_S (fun q => base ≤ q) s.heap H locs) {i v : Int32} (hg : mo i = some v) (hdg : decode cc pc = .ok (.iaload, 1))
    (kk : W p l e R s m args below meth c H locs cells slots Q (F0 m (pc + 1) ls (.int v :: rest))) : W p l e R s m args below meth c H locs cells slots Q (F0 m pc ls (.int i :: .ref tS :: rest)) := by
  obtain ⟨h3, hv⟩ := ifn hg
  exact va_ti hC.1.1 hC.1.2.1 hC.2.2.2.2 hS h3 (by rw [hv]) hdg kk
variable {y : MethodName} {bytes : ByteArray} {maxL mc ms n index : Nat} {ret : Option FieldType} {rm : Room} {Qc : Array Value → State → Outcome → State → Prop} {As st : List Value} {k : Nat}
theorem r_virt (hC : Cx p m c cc nL s args own base D cI cJ tS) (hP : Dy base D cI cJ σ H) (hS : va_S (fun q => base ≤ q) s.heap H locs) {ci N : Nat} {C : String} {T : u_T} (hc : vwCl[ci]? = some (C, T, N)) (hci : ci < 6) (hg : ck ci k σ = some ()) (hM : Met l y (.code y bytes maxL ret :: wsL_law) rm (Pw base D cI cJ tS σ (.ref (base + k) :: As)) Qc mc ms (fun q => base ≤ q))
    (h1 : Cond.methodLink own index y ∈ wsL_law) (h2 : Cond.instanceMethod y ∈ wsL_law) (h3 : Cond.selects C y y ∈ wsL_law) (h4 : Cond.initialized C ∈ wsL_law) (h5 : Cond.code y bytes maxL ret ∈ wsL_law) (hrc : rm.cells = mc) (hrs : rm.slots = ms) (hd : y.cls = C ∧ y.cls ≠ "java/lang/invoke/MethodHandle" ∧ y.cls ≠ "java/lang/invoke/VarHandle" ∧ (parseMethodDescriptor y.desc).map (fun d => d.parameters.length) = some n) (hR : rm.frames + 1 ≤ R.frames ∧ 8 + (maxL + 11) + rm.locals ≤ R.locals)
    (hn : As.length = n) (hsz : ls.size = nL) (hst : st = As.reverse ++ .ref (base + k) :: rest) (hrest : (rest.map fun v => v.category).sum ≤ 8) (hdg : decode cc pc = .ok (.invokevirtual index, 3)) (hf : cells + mc ≤ R.cells ∧ slots + ms ≤ R.slots) :
    va_Run p l e R s m args below meth c H locs cells slots mc ms (F0 m pc ls st) rest (Qc (Value.ref (base + k) :: As).toArray) (fun q => base ≤ q) := by
  obtain ⟨hk, -⟩ := ifn hg
  have hG : GoodIn wsL_law (wsV own index C y (.code y bytes maxL ret :: wsL_law)) := gdIn (fun w hw => by
    unfold wsV at hw
    rcases List.mem_append.mp hw with h | h
    · simp only [List.mem_cons, List.not_mem_nil, or_false] at h
      rcases h with rfl | rfl | rfl | rfl
      · exact h1
      · exact h2
      · exact h3
      · exact h4
    · rcases List.mem_cons.mp h with rfl | h
      · exact h5
      · exact h)
  exact va_runV hC.1 hM (cwV n hC.1.2.2.2.2 hG rfl hrc hrs hd hR) ⟨Pw.blind, va_recv hC.2.1 hP.1 hc (q0 := k) (fs := fl base σ k) (by rw [wo_get hk.2, ce_o hk.1 hci]), fun U hU hW => ⟨rfl, hC.2.to hW (by rw [hU]; exact hS), by rw [hU]; exact hP⟩⟩ rfl hn hsz hst (lv_room hrest) hdg hf
theorem r_stat (hC : Cx p m c cc nL s args own base D cI cJ tS) (hP : Dy base D cI cJ σ H) (hS : va_S (fun q => base ≤ q) s.heap H locs) (hM : Met l y (.code y bytes maxL ret :: wsL_law) rm (Pw base D cI cJ tS σ As) Qc mc ms (fun q => base ≤ q))
    (h1 : Cond.methodLink own index y ∈ wsL_law) (h2 : Cond.static y ∈ wsL_law) (h4 : Cond.initialized y.cls ∈ wsL_law) (h5 : Cond.code y bytes maxL ret ∈ wsL_law) (hrc : rm.cells = mc) (hrs : rm.slots = ms) (hd : y.cls ≠ "java/lang/invoke/MethodHandle" ∧ y.cls ≠ "java/lang/invoke/VarHandle" ∧ (parseMethodDescriptor y.desc).map (fun d => d.parameters.length) = some n) (hR : rm.frames + 1 ≤ R.frames ∧ 8 + (maxL + 11) + rm.locals ≤ R.locals)
    (hn : As.length = n) (hsz : ls.size = nL) (hst : st = As.reverse ++ rest) (hrest : (rest.map fun v => v.category).sum ≤ 8) (hdg : decode cc pc = .ok (.invokestatic index, 3)) (hf : cells + mc ≤ R.cells ∧ slots + ms ≤ R.slots) :
    va_Run p l e R s m args below meth c H locs cells slots mc ms (F0 m pc ls st) rest (Qc As.toArray) (fun q => base ≤ q) := by
  have hG : GoodIn wsL_law (va_wsS own index y (.code y bytes maxL ret :: wsL_law)) := gdIn (fun w hw => by
    unfold va_wsS at hw
    rcases List.mem_append.mp hw with h | h
    · simp only [List.mem_cons, List.not_mem_nil, or_false] at h
      rcases h with rfl | rfl | rfl
      · exact h1
      · exact h2
      · exact h4
    · rcases List.mem_cons.mp h with rfl | h
      · exact h5
      · exact h)
  exact va_runS hC.1 hM (va_cwS n hC.1.2.2.2.2 hG rfl hrc hrs hd hR) ⟨Pw.blind, fun U hU hW => ⟨rfl, hC.2.to hW (by rw [hU]; exact hS), by rw [hU]; exact hP⟩⟩ rfl hn hsz hst (lv_room hrest) hdg hf
theorem r_ctor (hC : Cx p m c cc nL s args own base D cI cJ tS) (hP : Dy base D cI cJ σ H) (hS : va_S (fun q => base ≤ q) s.heap H locs) (hM : Met l y (.code y bytes maxL none :: wsL_law) rm (Pw base D cI cJ tS σ (.ref (base + k) :: As)) Qc mc ms (fun q => base ≤ q))
    (h1 : Cond.methodLink own index y ∈ wsL_law) (h2 : Cond.instanceMethod y ∈ wsL_law) (h4 : Cond.initialized y.cls ∈ wsL_law) (h5 : Cond.code y bytes maxL none ∈ wsL_law) (hrc : rm.cells = mc) (hrs : rm.slots = ms) (hy : y.name = "<init>") (hd : y.cls ≠ "java/lang/invoke/MethodHandle" ∧ y.cls ≠ "java/lang/invoke/VarHandle" ∧ (parseMethodDescriptor y.desc).map (fun d => d.parameters.length) = some n) (hR : rm.frames + 1 ≤ R.frames ∧ 8 + (maxL + 11) + rm.locals ≤ R.locals)
    (hn : As.length = n) (hsz : ls.size = nL) (hst : st = As.reverse ++ .ref (base + k) :: rest) (hrest : (rest.map fun v => v.category).sum ≤ 8) (hdg : decode cc pc = .ok (.invokespecial index, 3)) (hf : cells + mc ≤ R.cells ∧ slots + ms ≤ R.slots) :
    va_Run p l e R s m args below meth c H locs cells slots mc ms (F0 m pc ls st) rest (Qc (Value.ref (base + k) :: As).toArray) (fun q => base ≤ q) := by
  have hG : GoodIn wsL_law (.code y bytes maxL none :: wsL_law) := gdIn (fun w hw => by
    rcases List.mem_cons.mp hw with rfl | h
    · exact h5
    · exact h)
  exact va_runI hC.1 hM (cwI n hC.1.2.2.2.2 hG rfl hrc hrs (hC.1.2.2.2.2 _ h4) (hC.1.2.2.2.2 _ h1) (hC.1.2.2.2.2 _ h2) hy hd hR) ⟨Pw.blind, fun U hU hW => ⟨rfl, hC.2.to hW (by rw [hU]; exact hS), by rw [hU]; exact hP⟩⟩ rfl hn hsz hst (lv_room hrest) hdg hf
theorem r_statN (hC : Cx p m c cc nL s args own base D cI cJ tS) (hP : Dy base D cI cJ σ H) (hS : va_S (fun q => base ≤ q) s.heap H locs) {host : String} (hM : Met l y (.code y bytes maxL ret :: wsL_law) rm (Pw base D cI cJ tS σ As) Qc mc ms (fun q => base ≤ q))
    (h1 : va_Nw (.methodLinkNest own index y host) s) (h2 : Cond.static y ∈ wsL_law) (h4 : Cond.initialized y.cls ∈ wsL_law) (h5 : Cond.code y bytes maxL ret ∈ wsL_law) (hrc : rm.cells = mc) (hrs : rm.slots = ms) (hd : y.cls ≠ "java/lang/invoke/MethodHandle" ∧ y.cls ≠ "java/lang/invoke/VarHandle" ∧ (parseMethodDescriptor y.desc).map (fun d => d.parameters.length) = some n) (hR : rm.frames + 1 ≤ R.frames ∧ 8 + (maxL + 11) + rm.locals ≤ R.locals)
    (hn : As.length = n) (hsz : ls.size = nL) (hst : st = As.reverse ++ rest) (hrest : (rest.map fun v => v.category).sum ≤ 8) (hdg : decode cc pc = .ok (.invokestatic index, 3)) (hf : cells + mc ≤ R.cells ∧ slots + ms ≤ R.slots) :
    va_Run p l e R s m args below meth c H locs cells slots mc ms (F0 m pc ls st) rest (Qc As.toArray) (fun q => base ≤ q) := by
  have hG : GoodIn wsL_law (.code y bytes maxL ret :: wsL_law) := gdIn (fun w hw => by
    rcases List.mem_cons.mp hw with rfl | h
    · exact h5
    · exact h)
  exact va_runSN hC.1 hM ⟨va_cnB n hC.1.2.2.2.2 hG rfl hrc hrs h1 (hC.1.2.2.2.2 _ h4) hd hR, hC.1.2.2.2.2 _ h2, trivial⟩ ⟨Pw.blind, fun U hU hW => ⟨rfl, hC.2.to hW (by rw [hU]; exact hS), by rw [hU]; exact hP⟩⟩ rfl hn hsz hst (lv_room hrest) hdg hf
theorem r_ctorN (hC : Cx p m c cc nL s args own base D cI cJ tS) (hP : Dy base D cI cJ σ H) (hS : va_S (fun q => base ≤ q) s.heap H locs) {host : String} (hM : Met l y (.code y bytes maxL none :: wsL_law) rm (Pw base D cI cJ tS σ (.ref (base + k) :: As)) Qc mc ms (fun q => base ≤ q))
    (h1 : va_Nw (.methodLinkNest own index y host) s) (h2 : Cond.instanceMethod y ∈ wsL_law) (h4 : Cond.initialized y.cls ∈ wsL_law) (h5 : Cond.code y bytes maxL none ∈ wsL_law) (hrc : rm.cells = mc) (hrs : rm.slots = ms) (hy : y.name = "<init>") (hd : y.cls ≠ "java/lang/invoke/MethodHandle" ∧ y.cls ≠ "java/lang/invoke/VarHandle" ∧ (parseMethodDescriptor y.desc).map (fun d => d.parameters.length) = some n) (hR : rm.frames + 1 ≤ R.frames ∧ 8 + (maxL + 11) + rm.locals ≤ R.locals)
    (hn : As.length = n) (hsz : ls.size = nL) (hst : st = As.reverse ++ .ref (base + k) :: rest) (hrest : (rest.map fun v => v.category).sum ≤ 8) (hdg : decode cc pc = .ok (.invokespecial index, 3)) (hf : cells + mc ≤ R.cells ∧ slots + ms ≤ R.slots) :
    va_Run p l e R s m args below meth c H locs cells slots mc ms (F0 m pc ls st) rest (Qc (Value.ref (base + k) :: As).toArray) (fun q => base ≤ q) := by
  have hG : GoodIn wsL_law (.code y bytes maxL none :: wsL_law) := gdIn (fun w hw => by
    rcases List.mem_cons.mp hw with rfl | h
    · exact h5
    · exact h)
  exact va_runIN hC.1 hM ⟨va_cnB n hC.1.2.2.2.2 hG rfl hrc hrs h1 (hC.1.2.2.2.2 _ h4) hd hR, hy, hC.1.2.2.2.2 _ h2⟩ ⟨Pw.blind, fun U hU hW => ⟨rfl, hC.2.to hW (by rw [hU]; exact hS), by rw [hU]; exact hP⟩⟩ rfl hn hsz hst (lv_room hrest) hdg hf
-- behind a call
variable {a : Array Value}
theorem k_I {r : Int32} (hr : va_Run p l e R s m args below meth c H locs cells slots mc ms (F0 m pc ls st) rest (QwI base D cI cJ r τ a) (fun q => base ≤ q)) (hS : va_S (fun q => base ≤ q) s.heap H locs)
    (kk : ∀ (H1 : Heap) (locs1 : List Loc), Dy base D cI cJ τ H1 → va_S (fun q => base ≤ q) s.heap H1 locs1 → W p l e R s m args below meth c H1 locs1 (cells + mc) (slots + ms) Q (F0 m (pc + 3) ls (.int r :: rest))) : W p l e R s m args below meth c H locs cells slots Q (F0 m pc ls st) :=
  va_calli hr hS (fun _ _ h => h) (fun _ h => h) (fun r' u t H1 locs1 ht hvm hp hB hz hk hS1 => by subst hp; rw [ht] at hB; exact kk H1 locs1 hB hS1)
theorem k_J {r : Int64} (hr : va_Run p l e R s m args below meth c H locs cells slots mc ms (F0 m pc ls st) rest (QwJ base D cI cJ r τ a) (fun q => base ≤ q)) (hS : va_S (fun q => base ≤ q) s.heap H locs)
    (kk : ∀ (H1 : Heap) (locs1 : List Loc), Dy base D cI cJ τ H1 → va_S (fun q => base ≤ q) s.heap H1 locs1 → W p l e R s m args below meth c H1 locs1 (cells + mc) (slots + ms) Q (F0 m (pc + 3) ls (.long r :: rest))) : W p l e R s m args below meth c H locs cells slots Q (F0 m pc ls st) :=
  va_calll hr hS (fun _ _ h => h) (fun _ h => h) (fun r' u t H1 locs1 ht hvm hp hB hz hk hS1 => by subst hp; rw [ht] at hB; exact kk H1 locs1 hB hS1)
theorem k_V (hr : va_Run p l e R s m args below meth c H locs cells slots mc ms (F0 m pc ls st) rest (QwV base D cI cJ τ a) (fun q => base ≤ q)) (hS : va_S (fun q => base ≤ q) s.heap H locs)
    (kk : ∀ (H1 : Heap) (locs1 : List Loc), Dy base D cI cJ τ H1 → va_S (fun q => base ≤ q) s.heap H1 locs1 → W p l e R s m args below meth c H1 locs1 (cells + mc) (slots + ms) Q (F0 m (pc + 3) ls rest)) : W p l e R s m args below meth c H locs cells slots Q (F0 m pc ls st) :=
  va_callv hr hS (fun _ _ h => h) (fun _ h => h) (fun u t H1 locs1 ht hvm hp hB hz hk hS1 => by rw [ht] at hB; exact kk H1 locs1 hB hS1)
theorem k_A {r : Nat} (hr : va_Run p l e R s m args below meth c H locs cells slots mc ms (F0 m pc ls st) rest (QwA base D cI cJ r τ a) (fun q => base ≤ q)) (hS : va_S (fun q => base ≤ q) s.heap H locs)
    (kk : ∀ (H1 : Heap) (locs1 : List Loc), Dy base D cI cJ τ H1 → va_S (fun q => base ≤ q) s.heap H1 locs1 → W p l e R s m args below meth c H1 locs1 (cells + mc) (slots + ms) Q (F0 m (pc + 3) ls (.ref (base + r) :: rest))) : W p l e R s m args below meth c H locs cells slots Q (F0 m pc ls st) :=
  va_callr hr hS (fun _ _ h => h) (fun _ h => h) (fun u ra t H1 locs1 ht hvm hp hB hz hk hS1 => by obtain ⟨rfl, hB⟩ := hB; rw [ht] at hB; exact kk H1 locs1 hB hS1)
-- the ends
theorem w_iret (hC : Cx p m c cc nL s args own base D cI cJ tS) (hr : meth.sig.returnType = some .int) (hlocks : meth.locks = false) (hP : Dy base D cI cJ τ H) (hS : va_S (fun q => base ≤ q) s.heap H locs) {r : Int32} (hdg : decode cc pc = .ok (.ireturn, 1)) :
    W p l e R s m args below meth c H locs cells slots (MQ below (QwI base D cI cJ r τ) args s cells slots (fun q => base ≤ q)) (F0 m pc ls [.int r]) :=
  W.iret hC.1.1 hC.1.2.1 hr (fun t ht hW => ⟨⟨r, (), rfl, rfl, by subst ht; exact hP⟩, hS.F ht⟩) hS.2.2 hdg hlocks
theorem w_zret (hC : Cx p m c cc nL s args own base D cI cJ tS) (hr : meth.sig.returnType = some .boolean) (hlocks : meth.locks = false) (hP : Dy base D cI cJ σ H) (hS : va_S (fun q => base ≤ q) s.heap H locs) {v r : Int32} (hz : rz v σ = some (r, τ)) (hdg : decode cc pc = .ok (.ireturn, 1)) :
    W p l e R s m args below meth c H locs cells slots (MQ below (QwI base D cI cJ r τ) args s cells slots (fun q => base ≤ q)) (F0 m pc ls [.int v]) := by
  obtain ⟨hv, h2⟩ := ifn hz
  cases h2
  exact W.zret hC.1.1 hC.1.2.1 hr (by rcases hv with rfl | rfl <;> rfl) (fun t ht hW => ⟨⟨v, (), rfl, rfl, by subst ht; exact hP⟩, hS.F ht⟩) hS.2.2 hdg hlocks
theorem w_lret (hC : Cx p m c cc nL s args own base D cI cJ tS) (hr : meth.sig.returnType = some .long) (hlocks : meth.locks = false) (hP : Dy base D cI cJ τ H) (hS : va_S (fun q => base ≤ q) s.heap H locs) {r : Int64} (hdg : decode cc pc = .ok (.lreturn, 1)) :
    W p l e R s m args below meth c H locs cells slots (MQ below (QwJ base D cI cJ r τ) args s cells slots (fun q => base ≤ q)) (F0 m pc ls [.long r]) :=
  W.lret hC.1.1 hC.1.2.1 hr (fun t ht hW => ⟨⟨r, (), rfl, rfl, by subst ht; exact hP⟩, hS.F ht⟩) hS.2.2 hdg hlocks
theorem w_vret (hC : Cx p m c cc nL s args own base D cI cJ tS) (hr : meth.sig.returnType = none) (hlocks : meth.locks = false) (hP : Dy base D cI cJ τ H) (hS : va_S (fun q => base ≤ q) s.heap H locs) (hdg : decode cc pc = .ok (.return_, 1)) :
    W p l e R s m args below meth c H locs cells slots (MQ below (QwV base D cI cJ τ) args s cells slots (fun q => base ≤ q)) (F0 m pc ls []) :=
  W.vret hC.1.1 hC.1.2.1 hr (fun t ht hW => ⟨⟨(), rfl, trivial, by subst ht; exact hP⟩, hS.F ht⟩) hS.2.2 hdg hlocks
theorem w_aret (hC : Cx p m c cc nL s args own base D cI cJ tS) {rt : String} (hr : meth.sig.returnType = some (.object rt)) (hlocks : meth.locks = false) (hP : Dy base D cI cJ τ H) (hS : va_S (fun q => base ≤ q) s.heap H locs) {r : Nat} (hdg : decode cc pc = .ok (.areturn, 1)) :
    W p l e R s m args below meth c H locs cells slots (MQ below (QwA base D cI cJ r τ) args s cells slots (fun q => base ≤ q)) (F0 m pc ls [.ref (base + r)]) :=
  W.aret hC.1.1 hC.1.2.1 hr (Or.inl ⟨rt, rfl⟩) (Or.inr ⟨_, rfl⟩) (fun t ht hW => ⟨⟨(), base + r, rfl, trivial, rfl, by subst ht; exact hP⟩, hS.F ht⟩) hS.2.2 hdg hlocks
theorem w_eqi {x z : Int32} (h : x = z) (kk : W p l e R s m args below meth c H locs cells slots Q (F0 m pc ls (.int z :: rest))) : W p l e R s m args below meth c H locs cells slots Q (F0 m pc ls (.int x :: rest)) := by
  rw [h]; exact kk
theorem w_eqj {x z : Int64} (h : x = z) (kk : W p l e R s m args below meth c H locs cells slots Q (F0 m pc ls (.long z :: rest))) : W p l e R s m args below meth c H locs cells slots Q (F0 m pc ls (.long x :: rest)) := by
  rw [h]; exact kk
end
abbrev rmD (d mc ms : Nat) : Room := { frames := d, cells := mc, slots := ms, locals := 38 * d }
/-- the law's own script -/
def lw_X (s : State) (base b L : Nat) (xs : Nat → Int32) : Prop := base = s.heap.size ∧ va_X b L xs s s.heap ∧ b < s.heap.size ∧ ¬ base ≤ b
section
variable {p : Program} {l : Launch} {e : Env} {R : Room} {s : State} {m : MethodId} {args : Array Value} {below : List Frame} {meth : Method} {c : Code} {H : Heap} {locs : List Loc} {cells slots : Nat} {Q : State → Prop}
variable {cc : ByteArray} {nL pc : Nat} {ls : Array Slot} {rest : List Value} {own : String} {base : Nat} {D : va_G} {cI cJ : ClassId} {tS b L : Nat} {xs : Nat → Int32}
theorem w_sx (hC : Cx p m c cc nL s args own base D cI cJ tS) (hX : lw_X s base b L xs) (hS : va_S (fun q => base ≤ q) s.heap H locs) {i v : Int32} (hg : sx L xs i = some v) (hdg : decode cc pc = .ok (.iaload, 1))
    (kk : W p l e R s m args below meth c H locs cells slots Q (F0 m (pc + 1) ls (.int v :: rest))) : W p l e R s m args below meth c H locs cells slots Q (F0 m pc ls (.int i :: .ref b :: rest)) := by
  obtain ⟨h3, hv⟩ := ifn hg
  refine va_sld hC.1.1 hC.1.2.1 hX.2.1 hX.2.2.1 hX.2.2.2 hS h3 hdg ?_
  rw [hv]
  exact kk
theorem w_slen (hC : Cx p m c cc nL s args own base D cI cJ tS) (hX : lw_X s base b L xs) (hS : va_S (fun q => base ≤ q) s.heap H locs) (hdg : decode cc pc = .ok (.arraylength, 1))
    (kk : W p l e R s m args below meth c H locs cells slots Q (F0 m (pc + 1) ls (.int (Int32.ofNat L) :: rest))) : W p l e R s m args below meth c H locs cells slots Q (F0 m pc ls (.ref b :: rest)) :=
  va_slen hC.1.1 hC.1.2.1 hX.2.1 hX.2.2.1 hX.2.2.2 hS hdg kk
end
