theorem ev_ofWF {l : Launch} {y : MethodName} {ws ws' : List Cond} {rm : Room} {Pc : Array Value → State → Prop} {Qc : Array Value → State → Outcome → State → Prop} {mc ms : Nat} {free : Addr → Prop} {cc : ByteArray} {maxL : Nat} {ret : Option FieldType}
    (hy : plainFor y = true) (hw : ws = Cond.code y cc maxL ret :: ws')
    (body : ∀ p e s m args below meth c s₁, BodyLoose p l y (headSpec ws rm) cc maxL ret e s m args below meth c s₁ → c.maxLocals = maxL → Pc args s →
      W p l e (headSpec ws rm).room s m args below meth c s.heap [] 0 0 (MQ below Qc args s mc ms free) (entryFrame m args maxL)) : Met l y ws rm Pc Qc mc ms free := by
  refine MetFree.of_bodySF (code := cc) (maxLocals := maxL) (ret := ret) hy ?_ ?_
  · intro args s m h hn
    obtain ⟨meth, c, h1, h2, h3, h4, h5, h6, -, -⟩ := Cond.code_spec hn (atoms_spec (ws := ws) h _ (by rw [hw]; exact List.mem_cons_self))
    exact ⟨meth, c, h1, h2, h3, h4, h5, h6⟩
  · intro p e s m args below meth c s₁ B hml hP _
    have hh0 : s₁.heap = s.heap := by rw [B.state]; rfl
    obtain ⟨t, a1, o, b1, b2, b3⟩ := body p e s m args below meth c s₁ B hml hP s₁ hh0 (Stand.of_body B)
    exact ⟨t, o, a1, b1, b2, ⟨b3.1, b3.2⟩⟩
theorem Mk.ofF {l : Launch} {Ln : Nat} {xs : Nat → Int32} {Y : ev_Y} {d kc ks : Nat} {S : ev_S} {m : ev_M} {P : Option Value → ev_S → ev_M → Prop} {av : List Value} (hy : plainFor Y.1 = true) (hcn : Y.1.cls = ev_cn Y.2.2.2.2) (hn : (ev_en av).length ≤ Y.2.2.1) (hk : Wk l Ln xs Y d kc ks 0 (ev_en av) [] S m P) : Mk l Ln xs Y d kc ks av S m P := by
  intro D cA base ext
  refine ev_ofWF (cc := Y.2.1) (maxL := Y.2.2.1) (ret := Y.2.2.2.1) hy rfl ?_
  intro p e s mi args below meth c s₁ B hml hv
  obtain ⟨rfl, hTB, hK, hO, hR⟩ := hv
  rw [lg_entry_eq]
  have hl := lv_entry (av.map (ev_v (ev_al base ext))) (n := Y.2.2.1) (by rw [ev_sl_len]; exact hn)
  have h := hk D cA base ext p e ({ frames := d, cells := kc, slots := ks, locals := 41 * d } : Room) s mi (av.map (ev_v (ev_al base ext))).toArray below meth c s.heap [] 0 0 _ ⟨B.exec, B.bytes, hml, B.returns, B.notSynchronized, by rw [← hcn]; exact findClass_of_methodNamed B.named, (name_of_methodNamed B.named B.method).1, hTB, hK, hO⟩ (Nat.le_refl _) (Nat.le_refl _) (by show 0 + kc ≤ kc; omega) (by show 0 + ks ≤ ks; omega) hR ⟨fun _ _ => rfl, fun _ h => by cases h⟩ ⟨hl.1, hl.2.1, fun i v hv => hl.2.2 _ (by have := ev_en_at (ev_al base ext) av 0 i v hv; rwa [Nat.zero_add] at this)⟩
  rw [Nat.zero_add, Nat.zero_add] at h
  exact h
theorem Mv.ofF {τ : Type} {en : τ → Option Value} {l : Launch} {Ln : Nat} {xs : Nat → Int32} {Y : ev_Y} {d : Nat} {S : ev_S} {m : ev_M} {o : Option (τ × ev_M)} {av : List Value} (hy : plainFor Y.1 = true) (hcn : Y.1.cls = ev_cn Y.2.2.2.2) (hn : (ev_en av).length ≤ Y.2.2.1) (hk : Ev en l Ln xs Y d S 0 (ev_en av) [] m o) : Mv en l Ln xs Y d S av m o := fun r m' h => Mk.ofF hy hcn hn (hk r m' h)
theorem k1_k2 {o : Nat} (h : isK 1 o) : isK 2 (o + 4) := ⟨k1_l4 h, by have := k1_s4 h; show (Sx.2.1 (o + 4)).1 = 2; rw [this]⟩
section EvCalls2
variable {τ τ' : Type} {en : τ → Option Value} {en' : τ' → Option Value} {l : Launch} {Ln : Nat} {xs : Nat → Int32} {Y Y' : ev_Y} {d d' n idx a pc : Nat} {ls : List (Option Value)} {st stk av : List Value} {S : ev_S} {m : ev_M} {host : String} {oc : Option (τ' × ev_M)} {kf : τ' → ev_M → Option (τ × ev_M)}
theorem Ev.cV (hM : Mv en' l Ln xs Y' d' S (.ref a :: av) m oc) (hstk : stk = av.reverse ++ .ref a :: st) (h : ev_is Y pc (.invokevirtual idx) 3 = true) (hw : ev_mw Y' n) (hi : Cond.instanceMethod Y'.1 ∈ lw_tbl) (hse : Cond.selects Y'.1.cls Y'.1 Y'.1 ∈ lw_tbl) (hl : Cond.methodLink (ev_cn Y.2.2.2.2) idx Y'.1 ∈ lw_tbl) (hdd : d' + 1 ≤ d) (ha : a < S.1) (hs : (S.2.1 a).1 = Y'.2.2.2.2) (h13 : Y'.2.2.2.2 < 13) (hcn : Y'.1.cls = ev_cn Y'.2.2.2.2) (hn : av.length = n) (hrm : (st.map fun v => v.category).sum ≤ 8)
    (kk : ∀ (r : τ') (m1 : ev_M), Ev en l Ln xs Y d S (pc + 3) ls ((en' r).toList ++ st) m1 (kf r m1)) : Ev en l Ln xs Y d S pc ls stk m (ev_bd oc kf) := by
  rw [ev_bd_bind]
  exact Ev.callV hM hstk h hw hi hse hl hdd ha hs h13 hcn hn hrm kk
theorem Ev.cVN (hM : Mv en' l Ln xs Y' d' S (.ref a :: av) m oc) (hstk : stk = av.reverse ++ .ref a :: st) (h : ev_is Y pc (.invokevirtual idx) 3 = true) (hw : ev_mw Y' n) (hi : Cond.instanceMethod Y'.1 ∈ lw_tbl) (hse : Cond.selects Y'.1.cls Y'.1 Y'.1 ∈ lw_tbl) (hl : Cond.methodLinkNest (ev_cn Y.2.2.2.2) idx Y'.1 host ∈ lw_tbl) (hdd : d' + 1 ≤ d) (ha : a < S.1) (hs : (S.2.1 a).1 = Y'.2.2.2.2) (h13 : Y'.2.2.2.2 < 13) (hcn : Y'.1.cls = ev_cn Y'.2.2.2.2) (hn : av.length = n) (hrm : (st.map fun v => v.category).sum ≤ 8)
    (kk : ∀ (r : τ') (m1 : ev_M), Ev en l Ln xs Y d S (pc + 3) ls ((en' r).toList ++ st) m1 (kf r m1)) : Ev en l Ln xs Y d S pc ls stk m (ev_bd oc kf) := by
  rw [ev_bd_bind]
  exact Ev.callVN hM hstk h hw hi hse hl hdd ha hs h13 hcn hn hrm kk
theorem Ev.cS (hM : Mv en' l Ln xs Y' d' S av m oc) (hstk : stk = av.reverse ++ st) (h : ev_is Y pc (.invokestatic idx) 3 = true) (hw : ev_mw Y' n) (hst : Cond.static Y'.1 ∈ lw_tbl) (hl : Cond.methodLink (ev_cn Y.2.2.2.2) idx Y'.1 ∈ lw_tbl) (hdd : d' + 1 ≤ d) (hn : av.length = n) (hrm : (st.map fun v => v.category).sum ≤ 8)
    (kk : ∀ (r : τ') (m1 : ev_M), Ev en l Ln xs Y d S (pc + 3) ls ((en' r).toList ++ st) m1 (kf r m1)) : Ev en l Ln xs Y d S pc ls stk m (ev_bd oc kf) := by
  rw [ev_bd_bind]
  exact Ev.callS hM hstk h hw hst hl hdd hn hrm kk
end EvCalls2
