/-! Math.floorMod: its class has natives, so its bytecode is entered by a road of its own -/
theorem tw_metOv {l : Launch} {x : MethodName} {ws ws' : List Cond} {rm : Room} {P : Array Value → State → Prop} {Q : Array Value → State → Outcome → State → Prop} {code : ByteArray} {maxL : Nat} {ret : Option FieldType}
    (hrow : ∀ p : Program, NativeRow.find? p.tables.natives x.cls x.name x.desc = none) (hw : ws = Cond.code x code maxL ret :: ws')
    (body : ∀ p e s m args below meth c s₁, BodyLooseOv p (headSpec ws rm) code maxL ret e s m args below meth c s₁ → P args s →
      ∃ s₂ o, Steps p.tables e below (s₁.setTop (entryFrame m args maxL)) s₂ ∧ s₂.status = .running ∧ Ended s₂ below o ∧ Q args s o s₂) : MetFree l x (headSpec ws rm) P (fun _ _ _ _ _ => True) Q := by
  intro p e ha hc hk s m args below hf happ hP _
  obtain ⟨hrun, hable, halone, hname, hhears, hinit, hroom, hpre⟩ := (Spec.appliesLoose_iff hf).mp happ
  obtain ⟨meth, c, hmeth, hcode, hbytes, hlocals, hret, hlocks, -⟩ := Cond.code_spec hname (atoms_spec (ws := ws) hpre _ (by rw [hw]; exact List.mem_cons_self))
  have hcur := State.cur_lt_of_frames hf
  have hf1 : (s.setFrames (.java (entryFrame m args maxL) :: below)).frames = .java (entryFrame m args maxL) :: below := State.frames_setFrames _ hcur
  have ht1 := State.topJava?_of_frames hf1
  have hown : ∀ f : JFrame, f.method = m → overridden p.tables e ((s.setFrames (.java (entryFrame m args maxL) :: below)).setTop f) f = none := by
    intro f hfm
    obtain ⟨k', hk', hn⟩ := className_of_methodNamed hname
    obtain ⟨hmn, hmd⟩ := name_of_methodNamed hname hmeth
    have hx' : k'.methods[m.idx]? = some meth := by simpa [Vm.method?, hk'] using hmeth
    refine overridden_noRow _ _ (k := k') (x := meth) (by rw [hfm]; exact hk') (by rw [hfm]; exact hx') ?_
    rw [hn, hmn, hmd]
    exact hrow p
  have hAt : AtOv p.tables e (s.setFrames (.java (entryFrame m args maxL) :: below)) m c below :=
    ⟨by rw [ht1]; rfl, ⟨[], by rw [hf1]; rfl⟩, hrun, by simpa using hable, by simpa using halone, by rw [State.code?_eq]; simp [State.setFrames, hmeth, hcode], hown⟩
  obtain ⟨s₂, o, hs, hr, he, hp⟩ := body p e s m args below meth c _ ⟨by cases p <;> rfl, hf, hhears, hpre, hmeth, hret, hlocks, hbytes, rfl, hAt⟩ hP
  have hstep : (stepThread p.tables e s).1 = (s.setFrames (.java (entryFrame m args maxL) :: below)).setTop (entryFrame m args maxL) := by
    have hfull : e.platform.stackFull (s.setFrames below).me (s.setFrames below).frames c.maxLocals = false := by
      obtain ⟨-, h1, -, h2⟩ := State.hasRoom_stack hroom
      rw [hf, List.length_cons] at h1
      rw [State.localsInUse_invoking hf hmeth hcode] at h2
      have hw := stackUse_le_stackWeight below
      rw [State.frames_setFrames _ hcur]
      exact Platform.stackFull_eq_false (by rw [State.stackLimits_setFrames]; omega) (by rw [State.stackLimits_setFrames]; omega)
    rw [stepThread_invoking hf, (doInvoke_java (s := s.setFrames below) (e := e) (meth := meth) (code := c) hmeth hcode hlocks hfull).1, State.setTop_self ht1]
    simp only [State.pushFrame, State.frames_setFrames _ hcur, State.setFrames_setFrames, hlocals, entryFrame]
  obtain ⟨n, hn, hw⟩ := Steps.head (tb := p.tables) (e := e) ⟨hrun, hable, halone⟩ ⟨[.invoking m args], hf, by simp, by simp⟩ (hstep ▸ hs)
  exact ⟨n, o, hw, hn ▸ hr, hn ▸ he, hn ▸ hp⟩
