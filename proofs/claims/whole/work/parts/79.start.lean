/-! THE CLAIM OUT OF ONE WALK OF THE LAW'S BODY. Your part is whole_start (and what it stands on); all else here is the same for every law, but numbers. -/
def R_law : String := "KillingFormsLaw"
def lw_P (b : Addr) (xs : List Int32) (args : Array Value) (s : State) : Prop := args = #[.ref b] ∧ s.IntsAt b xs ∧ xs.length ≤ 2560 ∧ (Jvm.Cond.and given_1 narrow_1).before args s = true
def lw_Q (_ : Array Value) (s : State) (o : Outcome) (t : State) : Prop := o = .returned (some (.int 1)) ∧ Framed s o t [] 600000 7302250
def lw_Z (below : List Frame) (a : Array Value) (s : State) : State → Prop := fun t => ∃ o, t.status = .running ∧ Ended t below o ∧ lw_Q a s o t
/-- the law's own end, with 1 on the stack, nothing written that was there before, its room as the claim has it -/
theorem lw_ret {p : Program} {l : Launch} {e : Env} {s : State} {m : MethodId} {below : List Frame} {meth : Method} {c : Code} {b : Nat} (hx : p.tables.exec = Jvm.exec) (hb : c.code = code) (hr : meth.sig.returnType = ret) (hlocks : meth.locks = false) {pc : Nat} {H : Heap} {ls : Array Slot} (hdg : decode code pc = .ok (.ireturn, 1)) : W p l e room_1 s m #[Value.ref b] below meth c H [] 600000 7302250 (lw_Z below #[Value.ref b] s) (F0 m pc ls [.int 1]) := by
  intro T hT X
  obtain ⟨fs, hret, hrun, hended, hW, hframe⟩ := X.leave (v := some (.int 1)) (hlocks := hlocks) (fun h => by rw [hr] at h; cases h)
  have hmeth' : T.vm.method? m = some meth := X.method'
  refine ⟨T.setFrames fs, ?_, .returned (some (.int 1)), hrun, hended, rfl, ⟨_, rfl⟩, hW, hframe⟩
  jvm_step X.here [X.here.top, hx, hb, hdg, hmeth', hr, ret, narrow_b1]
  (try refine ⟨rfl, ?_⟩); (try refine ⟨rfl, ?_⟩)
  first | (intro acts; rw [hret _ acts rfl rfl rfl]) | rw [hret _ _ rfl rfl rfl]
  exact Steps.refl _
/-- what holds at the law's entry: the machine, the code, the tables' words (any of lw_tbl by 'hts w (by decide +kernel)'), the script of L ints xs at the cell b, what the Statement gives of the start (any of its parts by flat_of_before) -/
def lw_At (p : Program) (s : State) (m : MethodId) (meth : Method) (c : Code) (b L : Nat) (xs : Nat → Int32) : Prop :=
  p.tables.exec = Jvm.exec ∧ c.code = code ∧ meth.sig.returnType = ret ∧ c.maxLocals = 4 ∧ s.vm.findClass R_law = some m.cls ∧ (∀ w ∈ lw_tbl, w.before #[Value.ref b] s = true) ∧ va_X b L xs s s.heap ∧ b < s.heap.size ∧ meth.locks = false ∧ (Jvm.Cond.and given_1 narrow_1).before #[Value.ref b] s = true
-- ===== YOUR PART BEGINS =====
theorem wl_93 : Jvm.Cond.classLink "KillingFormsLaw" (7 : Nat) "KillingForms" ∈ jgt := jgt_in (List.mem_of_getElem? (i := 93) (by decide +kernel)) rfl
theorem wl_1039 : Jvm.Cond.classLink "KillingFormsLaw" (10 : Nat) "KillingFormsModel" ∈ jgt := jgt_in (List.mem_of_getElem? (i := 1039) (by decide +kernel)) rfl
theorem wl_95 : Jvm.Cond.methodLink "KillingFormsLaw" (9 : Nat) ({ cls := "KillingForms", name := "<init>", desc := "()V" } : Jvm.MethodName) ∈ jgt := jgt_in (List.mem_of_getElem? (i := 95) (by decide +kernel)) rfl
theorem wl_1041 : Jvm.Cond.methodLink "KillingFormsLaw" (12 : Nat) ({ cls := "KillingFormsModel", name := "<init>", desc := "()V" } : Jvm.MethodName) ∈ jgt := jgt_in (List.mem_of_getElem? (i := 1041) (by decide +kernel)) rfl
theorem wl_94 : Jvm.Cond.instantiable "KillingForms" (11 : Nat) ∈ jgt := jgt_in (List.mem_of_getElem? (i := 94) (by decide +kernel)) rfl
theorem wl_1040 : Jvm.Cond.instantiable "KillingFormsModel" (46 : Nat) ∈ jgt := jgt_in (List.mem_of_getElem? (i := 1040) (by decide +kernel)) rfl
theorem wl_74 : Jvm.Cond.initialized "KillingForms" ∈ jgt := jgt_in (List.mem_of_getElem? (i := 74) (by decide +kernel)) rfl
theorem wl_85 : Jvm.Cond.initialized "KillingFormsModel" ∈ jgt := jgt_in (List.mem_of_getElem? (i := 85) (by decide +kernel)) rfl
theorem zidx10 : zidx 10 0 = 0 := by decide +kernel
theorem zidx11 : zidx 11 0 = 168 := by decide +kernel
/-- YOUR PART: from the entry, for every script of at most 2560 ints, the law comes to its end with true ('hflags': the launch's flags, for a law that throws: no stack traces) -/
theorem whole_start {p : Program} {e : Env} {s : State} {m : MethodId} {below : List Frame} {meth : Method} {c : Code} (l : Launch) (hflags : l.flags = flags0) {b L : Nat} {xs : Nat → Int32} (hL : L ≤ 2560) (C0 : lw_At p s m meth c b L xs) : W p l e room_1 s m #[Value.ref b] below meth c s.heap [] 0 0 (lw_Z below #[Value.ref b] s) (entryFrame m ([Value.ref b] : List Value).toArray 4) := by
  obtain ⟨hx, hb, hr, hml, hown, hts, hX, hbl, hlocks, hgv⟩ := id C0
  obtain ⟨E, ext, hE, hEL, hEx, hEb, hWd, hZd, hAE⟩ := z_world hL hts hX hbl hgv
  have htj : ∀ w ∈ jgt, w.before #[Value.ref b] s = true := fun w hw => hts w (List.mem_filter.mp hw).1
  have X : zX E p s m #[Value.ref b] meth c code "KillingFormsLaw" 4 false := ⟨hx, hb, hml, hown, htj, hZd, fun h => by cases h⟩
  have hl := lv_entry ([.ref b]) (n := 4) (Nat.le_of_ble_eq_true rfl)
  rw [lg_entry_eq]
  generalize (lg_sl ([.ref b]) ++ List.replicate (4 - (lg_sl ([.ref b])).length) Slot.unset).toArray = ls at hl ⊢
  have hl : lv_has ls 4 [(0, .ref b)] := hl
  have hR0 : zRel E s.heap.size [] s.heap := ⟨rfl, fun k q h => by cases h⟩
  refine zw_new X tyX10_ok (show decode code 0 = .ok (.new 7, 3) from by decide +kernel) icX10 igX10 wl_93 wl_94 wl_74 (fs := [.inr none, .inr none, .inl 0, .inr none, .inr none, .inr none, .inr none, .inr none, .inr none, .inr none, .inr none]) (by decide +kernel) (zfree_eq _ _ rfl) hR0 va_S.rf (Nat.le_of_ble_eq_true rfl) (Nat.le_of_ble_eq_true rfl) fun H1 hR1 hS1 => ?_
  have hR1 : zRel E s.heap.size [zK0] H1 := hR1
  refine lv_dup hx hb (show decode code 3 = .ok (.dup, 1) from by decide +kernel) rfl ?_
  refine zw_init (y := 13) (n := 0) (q := 0) (as := []) (rest := [.ref (s.heap.size + 0)]) X ⟨by decide, by decide⟩ zy_13 rfl (show decode code 4 = .ok (.invokespecial 9, 3) from by decide +kernel) (Or.inl wl_95) (z_met z_all z_plain zR1_ok (by decide)) rfl hl.1 (by show 1 + 0 ≤ 8; decide) (by decide) (by decide) hR1 hS1 rfl fun H2 locs2 hR2 hS2 => ?_
  refine lv_astore_n (i := 1) (nL := 4) hx hb (show decode code 7 = .ok (.astore_n 1, 1) from by decide +kernel) rfl hl (by decide) rfl fun ls1 hl1 => ?_
  have hl1 : lv_has ls1 4 [(1, .ref (s.heap.size + 0)), (0, .ref b)] := hl1
  refine zw_new X tyX11_ok (show decode code 8 = .ok (.new 10, 3) from by decide +kernel) icX11 igX11 wl_1039 wl_1040 wl_85 (fs := [.inr none, .inr none, .inr none, .inr none, .inr none, .inr none, .inr none, .inr none, .inl 0, .inr none, .inl 0, .inr none, .inr none, .inr none, .inl 0, .inr none, .inr none, .inr none, .inr none, .inr none, .inr none, .inl 0, .inr none, .inl 0, .inr none, .inr none, .inr none, .inr none, .inr none, .inl 0, .inr none, .inl 0, .inr none, .inl 0, .inl 0, .inl 0, .inl 0, .inl 0, .inl 0, .inr none, .inr none, .inr none, .inl 0, .inl 0, .inl 0, .inl 0]) (by decide +kernel) (zfree_eq _ _ rfl) hR2 hS2 (by decide) (by decide) fun H3 hR3 hS3 => ?_
  rw [zMa_len]
  have hR3 : zRel E s.heap.size (zMa ++ [zK1]) H3 := hR3
  refine lv_dup hx hb (show decode code 11 = .ok (.dup, 1) from by decide +kernel) rfl ?_
  refine zw_init (y := 14) (n := 0) (q := 168) (as := []) (rest := [.ref (s.heap.size + 168)]) X ⟨by decide, by decide⟩ zy_14 rfl (show decode code 12 = .ok (.invokespecial 12, 3) from by decide +kernel) (Or.inl wl_1041) (z_met z_all z_plain zR2_ok (by decide)) rfl hl1.1 (by show 1 + 0 ≤ 8; decide) (by decide) (by decide) hR3 hS3 rfl fun H4 locs4 hR4 hS4 => ?_
  refine lv_astore_n (i := 2) (nL := 4) hx hb (show decode code 15 = .ok (.astore_n 2, 1) from by decide +kernel) rfl hl1 (by decide) rfl fun ls2 hl2 => ?_
  have hl2 : lv_has ls2 4 [(2, .ref (s.heap.size + 168)), (1, .ref (s.heap.size + 0)), (0, .ref b)] := hl2
  refine lv_iconst (v := 0) hx hb (show decode code 16 = .ok (.iconst 0, 1) from by decide +kernel) rfl ?_
  refine lv_istore_n (i := 3) (nL := 4) hx hb (show decode code 17 = .ok (.istore_n 3, 1) from by decide +kernel) rfl hl2 (by decide) rfl fun ls3 hl3 => ?_
  have hl3 : lv_has ls3 4 [(3, .int 0), (2, .ref (s.heap.size + 168)), (1, .ref (s.heap.size + 0)), (0, .ref b)] := hl3
  obtain ⟨t, ht⟩ := law_loop 600 0 (zs0 L xs) (z_inv L xs) (by show (L : Int) < 5 * 600 + 0; omega) (by show (L : Int) ≤ 2560; omega) (by decide) (by show (0 : Int) ≤ (L : Int); omega)
  obtain ⟨n, hn⟩ := (jev_iff jC_sh).mp ht
  refine va_forget (s := s) (fun q hq => hS4.2.2 q hq) ?_
  have hrel : jRel E (zs0 L xs) H4 := by
    have h := z_rel hE hR4
    rw [hEL, hEx] at h
    exact h
  have hI := z_inj hE
  have e10 : E.2.2.1 10 0 = s.heap.size + 0 := by rw [hE, zAd_lt (by decide), zidx10]
  have e11 : E.2.2.1 11 0 = s.heap.size + 168 := by rw [hE, zAd_lt (by decide), zidx11]
  have hLs : jLs E 4 ls3 [some (.inr (72, 0)), some (.inr (10, 0)), some (.inr (11, 0)), some (.inl ((0 : Nat) : Int))] := by
    refine ⟨rfl, ⟨hl3.1, hl3.2.1, fun q hq => ?_⟩, fun v hv => ?_⟩
    · obtain ⟨v, h1, h2⟩ := jll_mem.mp hq
      obtain ⟨a, w⟩ := q
      have h2 : w = jcv E v := h2
      subst h2
      have h1 : ([some (.inr (72, 0)), some (.inr (10, 0)), some (.inr (11, 0)), some (.inl ((0 : Nat) : Int))] : jS)[a]? = some (some v) := h1
      match a, h1 with
      | 0, h1 => cases h1; have g := hl3.2.2 (0, .ref b) (by simp); rw [← hEb] at g; exact g
      | 1, h1 => cases h1; have g := hl3.2.2 (1, .ref (s.heap.size + 0)) (by simp); rw [← e10] at g; exact g
      | 2, h1 => cases h1; have g := hl3.2.2 (2, .ref (s.heap.size + 168)) (by simp); rw [← e11] at g; exact g
      | 3, h1 => cases h1; exact hl3.2.2 (3, .int 0) (by simp)
      | (_ + 4), h1 => cases h1
    · rcases List.mem_cons.mp hv with h | hv
      · cases h; show 0 < jcnt 72; decide +kernel
      rcases List.mem_cons.mp hv with h | hv
      · cases h; show 0 < jcnt 10; decide +kernel
      rcases List.mem_cons.mp hv with h | hv
      · cases h; show 0 < jcnt 11; decide +kernel
      rcases List.mem_cons.mp hv with h | hv
      · cases h; exact j32_0
      · cases hv
  have hrun := j_sound hI (jC_ok l E) jC_pn n 400 18 _ [] (zs0 L xs) _ hn p e s m #[Value.ref b] below meth c (0 + 1 + zmc 13 + 1 + zmc 14) (0 + 11 + zms 13 + 46 + zms 14) (lw_Z below #[Value.ref b] s) ⟨hx, hb, hml, hown, htj, hWd, hI⟩ (by decide) (by decide) ?_
  · exact hrun H4 [] ls3 hrel ⟨hS4.1, fun q h1 h2 => hS4.2.1 q h1 (fun h3 => Nat.lt_irrefl _ (Nat.lt_of_lt_of_le h1 h3)), fun q h => by cases h⟩ hLs (fun v h => by cases h) (z_rng hL)
  · intro pc H locs lsc hR hS hσ hg hri
    obtain ⟨hd, -⟩ := hri
    exact va_forget (s := s) (fun q hq => hAE _ (hS.2.2 q hq)) (W.widen (k := 600000) (n := 7302250) (by decide) (by decide) (lw_ret hx hb hr hlocks hd))
-- ===== YOUR PART ENDS =====
set_option maxHeartbeats 4000000 in
theorem lw_walk (l : Launch) (hflags : l.flags = flags0) (b : Addr) (xs : List Int32) : MetFree l x (headSpec (Jvm.Cond.code x code maxLocals ret :: tables_1) room_1) (lw_P b xs) (fun _ _ _ _ _ => True) lw_Q := by
  refine MetFree.of_bodyS (code := code) (maxLocals := maxLocals) (ret := ret) (by decide) ?_ ?_
  · intro args s m h hn
    obtain ⟨meth, c, h1, h2, h3, h4, h5, h6, -, -⟩ := Cond.code_spec hn (atoms_spec (ws := Jvm.Cond.code x code maxLocals ret :: tables_1) h _ List.mem_cons_self)
    exact ⟨meth, c, h1, h2, h3, h4, h5, h6⟩
  · intro p e s m args below meth c s₁ B hml0 hP _
    obtain ⟨rfl, hx, hbd, hgv⟩ := hP
    obtain ⟨scr, harrAt, hlist, hof, hsmall⟩ := hx
    obtain ⟨hcb, hkn, -, -⟩ := State.arrayAt?_spec harrAt
    have hown : s.vm.findClass R_law = some m.cls := findClass_of_methodNamed B.named
    have hts0 : ∀ c ∈ (Jvm.Cond.code x code maxLocals ret :: tables_1), c.before #[Value.ref b] s = true := atoms_spec (ws := Jvm.Cond.code x code maxLocals ret :: tables_1) B.pre
    have hts : ∀ w ∈ lw_tbl, w.before #[Value.ref b] s = true := k2_hts_sels lw_privs (fun w hw => hts0 w (List.mem_cons_of_mem _ hw)) lw_privs_ok
    have hml : c.maxLocals = 4 := B.maxLocals_eq (hts0 _ List.mem_cons_self)
    have X₀ : Stand p l e room_1 s m #[Value.ref b] below meth c s₁ [] 0 0 := Stand.of_body B
    have hh0 : s₁.heap = s.heap := by rw [B.state]; rfl
    have hsz : scr.slots.size = xs.length := by rw [← Array.length_toList, hlist, List.length_map]
    have hval : ∀ j : Nat, j < xs.length → scr.slots[j]? = some (.int (xs.getD j 0)) := fun j hj => by
      rw [← Array.getElem?_toList, hlist]
      simp [hj]
    have hbl : b < s.heap.size := (Array.getElem?_eq_some_iff.mp hcb).1
    have hX : va_X b xs.length (fun j => xs.getD j 0) s s.heap := ⟨scr, hcb, hof, hkn, hsz, hval⟩
    have K : W p l e room_1 s m #[Value.ref b] below meth c s₁.heap [] 0 0 (lw_Z below #[Value.ref b] s) (entryFrame m ([Value.ref b] : List Value).toArray 4) := by
      rw [hh0]
      exact whole_start l hflags hbd ⟨B.exec, B.bytes, B.returns, hml, hown, hts, hX, hbl, B.notSynchronized, hgv⟩
    obtain ⟨t, a1, o, b1, b2, b3⟩ := K s₁ rfl X₀
    exact ⟨t, o, a1, b1, b2, b3⟩
theorem lw_pre_spec {args : Array Value} {s : State} (h : (Jvm.Cond.and given_1 narrow_1).before args s = true) (hr : rest_1_c.before args s = true) : ∃ (b : Addr) (xs : List Int32), lw_P b xs args s := by
  have hs := flat_of_before _ h
  have hq := flat_of_before _ hr
  have hc : (Cond.count 1).before args s = true := hs _ (by decide +kernel)
  have harr : (Cond.arrayOf (.arg 0) .int).before args s = true := hs _ (by decide +kernel)
  have hle : (Cond.le (.length (.arg 0)) (.int 2560)).before args s = true := hs _ (by decide +kernel)
  have hlen : (Cond.isInt (.length (.arg 0))).before args s = true := hq _ (by decide +kernel)
  have hall : (Cond.all (.arg 0) (.isInt (.elem (.arg 0) (.index 0)))).before args s = true := hq _ (by decide +kernel)
  obtain ⟨b, xs, hb, hx⟩ := State.ints_of_pre rfl harr hlen hall
  have hsm : xs.length < 2 ^ 31 := hx.choose_spec.2.2.2
  have hev : (Term.length (.arg 0)).eval args s none [] s = some (.int xs.length.toInt32) := hx.length_eval hb
  have hv := Cond.le_ints hev (show (Term.int 2560).eval args s none [] s = some (.int 2560) from rfl)
  have hd : xs.length.toInt32 ≤ 2560 := by
    simpa [Cond.before, Cond.holds, hv] using hle
  have hN : xs.length ≤ 2560 := (Int32.ofNat_le_ofNat hsm (by decide)).mp (show Int32.ofNat xs.length ≤ Int32.ofNat 2560 from hd)
  exact ⟨b, xs, Cond.one_arg hc (show args[0]? = some (.ref b) from hb), hx, hN, h⟩
theorem lw_comes (l : Launch) (hflags : l.flags = flags0) : Comes l x (Jvm.Cond.code x code maxLocals ret :: tables_1) room_1 (fun tb e args s => Calls_1 tb e args s ∧ rest_1 tb e args s ∧ Pre_1 tb e args s)
    (fun _ _ args s o t => lw_Q args s o t) := by
  intro p e ha hc hk s m args below hf hfit hheap happ hpre
  obtain ⟨b, xs, hP⟩ := lw_pre_spec hpre.2.2 hpre.2.1
  obtain ⟨k, o, h1, h2, h3, hQ⟩ := lw_walk l hflags b xs p e ha hc hk s m args below hf ((Spec.applies_iff_loose hf).mp happ).1 hP trivial
  exact ⟨k, o, h1, h2, h3, hQ⟩
theorem lw_frame {s t : State} {o : Outcome} {args : Array Value} (h : Framed s o t [] 600000 7302250) :
    Framed s o t (fieldLocs frame_1_writes args s ++ arrayLocs frame_1_arrays args s ++ staticLocs frame_1_statics s) 600000 7302250 := h
theorem lw_limb (L : Cond) (hL : ∀ (args : Array Value) (s t : State), L.after args s (.returned (some (.int 1))) t = true) :
    ArmFor flags0 classFile x code maxLocals ret World_1 tables_1 room_1 Calls_1 rest_1 Pre_1
      (fun tb e a s o t => postC L tb e a s o t ∧ Framed s o t (fieldLocs frame_1_writes a s ++ arrayLocs frame_1_arrays a s ++ staticLocs frame_1_statics s) 600000 7302250) := by
  intro l hflags _ _ p e ha hc hk s m args below hf hfit hheap happ hpre
  obtain ⟨k, o, h1, h2, h3, rfl, hF⟩ := lw_comes l hflags p e ha hc hk s m args below hf hfit hheap happ hpre
  exact ⟨k, _, h1, h2, h3, hL args s _, lw_frame hF⟩
theorem i_vc : Claimed_1_1 ∧ Claimed_1_2 := ⟨lw_limb limb_1_1 (fun args s t => by simp [limb_1_1, Cond.after, Cond.holds, Cond.value]), lw_limb limb_1_2 (fun args s t => Cond.after_iff.mpr (by
  first | (rw [show limb_1_2 = Cond.eq .result (.int 1) from rfl, Cond.eq_ints (x := 1) (y := 1) rfl rfl]; simp; done) | (simp [limb_1_2, Cond.value, Term.eval]; done)))⟩
