abbrev nsN : String := "java/util/NoSuchElementException"
abbrev nsL : List Cond := nx_at "BeltRows" 139 nsN 13 prog_28_method_4_code "java/lang/RuntimeException" ["java/lang/Exception"]
theorem xa_Ns : Cond.initialized nsN ∈ TBL ∧ (∀ w ∈ nsL, w ∈ TBL ∨ w ∈ nwl) ∧ (∀ w ∈ nsL, vx_ot w = true) := ⟨m_17, by decide +kernel, by decide +kernel⟩
section BWN
variable {p : Program} {l : Launch} {e : Env} {R : Room} {s : State} {m : MethodId} {args : Array Value} {below : List Frame} {meth : Method} {c : Code} {H : Heap} {locs : List Loc} {cells slots : Nat}
variable {cc : ByteArray} {pc : Nat} {ls : Array Slot} {rest : List Value} {D : va_G} {AC : Nat → ClassId} {A : Nat → Prop} {w : Wd} {e0 mi : Nat} {nL nc ns mc ms : Nat} {y0 : MethodName} {ret0 : Option FieldType} {Q : Option Value → Wd → Prop} {X : String → Wd → Prop}
theorem bw_throwN (C : Cx p l s m args meth c D AC e0 mi A y0 cc nL ret0) (hW : HW D cls8 FTc AC A s.heap H locs w) (ho : y0.cls = "BeltRows") {ik is : Nat} {text : String} (hk : (Cond.classLink y0.cls ik nsN).before args s = true) (hstr : ("BeltRows", is, text) ∈ STRS) (hq : X nsN w) (hls : ls.size = nL) (h1 : 1 ≤ nc) (h2 : 6 ≤ ns) (hc : cells + nc ≤ mc) (hs : slots + ns ≤ ms) (hRc : mc = R.cells) (hRs : ms = R.slots) (hfr : 5 < R.frames) (hlo : (rest.map fun v => v.category).sum + 82 ≤ R.locals)
    (d0 : decode cc pc = .ok (.new ik, 3)) (d3 : decode cc (pc + 3) = .ok (.dup, 1)) (d4 : decode cc (pc + 4) = .ok (.ldc is, 2)) (d6 : decode cc (pc + 6) = .ok (.invokespecial 139, 3)) (d9 : decode cc (pc + 9) = .ok (.athrow, 1)) :
    W p l e R s m args below meth c H locs cells slots (vx_MQ below (QQ D AC A Q) (XX D AC A X) args s mc ms A) (F0 m pc ls rest) := by
  obtain ⟨hl, hx, hb, hr, ht, hown, hlocks, hnm, hml, hex, hK, hA, hZ, hV⟩ := C
  obtain ⟨x2, x3, x4⟩ := xa_Ns
  obtain ⟨sa, hsa⟩ := hV.1 _ hstr
  rw [ho] at hown hk
  have g1 : cells + 1 ≤ mc := Nat.le_trans (Nat.add_le_add_left h1 _) hc
  have g2 : slots + 6 ≤ ms := Nat.le_trans (Nat.add_le_add_left h2 _) hs
  refine nx_throw (rx := prog_28_method_4_code) (ix := 13) (Y0 := "java/lang/RuntimeException") (names := ["java/lang/Exception"]) (sa := sa) (text := text) hx hb hl hown (by decide) (by decide) (by decide) (by decide +kernel) (by decide +kernel) (by decide +kernel) (by decide +kernel) hk (ht _ x2) hsa (fun w hw => (x3 w hw).elim (ht w) (nwl_ok hV w)) ?_ hZ.1 hZ.2.1 hW.2.2 (hls.trans hml.symm) d0 d3 d4 d6 d9 (fun x h => by rw [hex] at h; cases h) hfr hlo (by rw [← hRc]; exact g1) (by rw [← hRs]; exact g2) hlocks (fun t hvm hz hk => ⟨w, hq, ?_, hW.2.1, ?_⟩) hW.2.2.2.2 g1 g2
  · intro w hw
    rcases List.mem_cons.mp hw with rfl | hw
    · rfl
    · rcases List.mem_cons.mp hw with rfl | hw
      · rfl
      · exact x4 w hw
  · intro k q hk2
    exact (hW.1 k q hk2).kept (hk _ (hW.1 k q hk2).lt)
  · exact ⟨Nat.le_trans hW.2.2.1 hz, fun q h3 h4 => (hk q (Nat.lt_of_lt_of_le h3 hW.2.2.1)).trans (hW.2.2.2.1 q h3 h4)⟩
end BWN
