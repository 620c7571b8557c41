/-! TWO WORLDS IN ONE HEAP: what a call in one leaves of the other -/
theorem xW_other {D : va_G} {KA : Nat → ClassId} {lay lay2 : Nat → Nat × Nat} {st st2 : Nat → Nat → Option Nat} {ad ad2 : Nat → Nat} {ids ids2 : List Nat} {A : Nat → Prop} {H0 H H1 : Heap} {ρ : St} {locs locs1 : List Loc} (hW : xW D KA lay2 st2 ad2 ids2 A H0 ρ H locs) (hk : ∀ q : Nat, q < H.size → ¬ xA ad ids H.size q → H1[q]? = H[q]?) (hdis : ∀ c ∈ ids, ∀ o ∈ ids2, ad c ≠ ad2 o) (hS : va_S A H0 H1 locs1) : xW D KA lay2 st2 ad2 ids2 A H0 ρ H1 locs1 := by
  refine ⟨hW.1.kept (fun k q hq => ?_), hW.2.1, hS⟩
  have hlt := (hW.1 k q hq).lt
  obtain ⟨o, ho, rfl⟩ := xws_in hq
  refine hk _ hlt (fun z => ?_)
  rcases z with ⟨c, hc, e⟩ | z
  · exact hdis c hc o (List.mem_of_getElem? ho) e
  · exact absurd z (Nat.not_le.mpr hlt)
theorem xW_lt {D : va_G} {KA : Nat → ClassId} {lay : Nat → Nat × Nat} {st : Nat → Nat → Option Nat} {ad : Nat → Nat} {ids : List Nat} {A : Nat → Prop} {H0 H : Heap} {σ : St} {locs : List Loc} (hW : xW D KA lay st ad ids A H0 σ H locs) : ∀ o ∈ ids, ad o < H.size := by
  intro o ho
  obtain ⟨q, hq⟩ := List.getElem?_of_mem ho
  exact (hW.1 q _ (xws_get hq)).lt
section XT
variable {p : Program} {l : Launch} {e : Env} {R : Room} {s : State} {m : MethodId} {args : Array Value} {below : List Frame} {meth : Method} {c : Code} {H : Heap} {locs : List Loc} {cells slots : Nat} {Q : State → Prop}
variable {cc : ByteArray} {pc : Nat} {ls : Array Slot} {rest st0' : List Value} {a : Array Value} {D : va_G} {KA : Nat → ClassId} {lay : Nat → Nat × Nat} {st st1 : Nat → Nat → Option Nat} {ad ad' : Nat → Nat} {ids ids' : List Nat} {A : Nat → Prop} {H0 : Heap} {σ : St} {k n mc ms : Nat}
theorem x2_calli {post : Int32 → St → Prop} (hr : va_Run p l e R s m args below meth c H locs cells slots 0 0 (F0 m pc ls st0') rest (va_Qi post (xOut D KA lay st ad ids) (xA ad ids H.size) a) (xA ad ids H.size)) (hW : xW D KA lay st ad ids A H0 σ H locs) (hA : ∀ q, H0.size ≤ q → A q)
    (kk : ∀ (r : Int32) (τ : St) (H1 : Heap) (locs1 : List Loc), post r τ → (∀ q : Nat, q < H.size → ¬ xA ad ids H.size q → H1[q]? = H[q]?) → xW D KA lay st ad ids A H0 τ H1 locs1 → W p l e R s m args below meth c H1 locs1 cells slots Q (F0 m (pc + 3) ls (.int r :: rest))) : W p l e R s m args below meth c H locs cells slots Q (F0 m pc ls st0') :=
  va_calli hr hW.2.2 (fun q _ h => xA_le hW hA q h) (xA_le hW hA) (fun r u t H1 locs1 ht _ hp hB _ hk hS => kk r u H1 locs1 hp hk ⟨by rw [← ht]; exact hB.1, xD_le hW.2.1 hB.2, hS⟩)
theorem x2_calll {post : Int64 → St → Prop} (hr : va_Run p l e R s m args below meth c H locs cells slots 0 0 (F0 m pc ls st0') rest (va_Ql post (xOut D KA lay st ad ids) (xA ad ids H.size) a) (xA ad ids H.size)) (hW : xW D KA lay st ad ids A H0 σ H locs) (hA : ∀ q, H0.size ≤ q → A q)
    (kk : ∀ (r : Int64) (τ : St) (H1 : Heap) (locs1 : List Loc), post r τ → (∀ q : Nat, q < H.size → ¬ xA ad ids H.size q → H1[q]? = H[q]?) → xW D KA lay st ad ids A H0 τ H1 locs1 → W p l e R s m args below meth c H1 locs1 cells slots Q (F0 m (pc + 3) ls (.long r :: rest))) : W p l e R s m args below meth c H locs cells slots Q (F0 m pc ls st0') :=
  va_calll hr hW.2.2 (fun q _ h => xA_le hW hA q h) (xA_le hW hA) (fun r u t H1 locs1 ht _ hp hB _ hk hS => kk r u H1 locs1 hp hk ⟨by rw [← ht]; exact hB.1, xD_le hW.2.1 hB.2, hS⟩)
theorem x2_calliA {post : Int32 → St → List Nat → Prop} (hr : va_Run p l e R s m args below meth c H locs cells slots mc ms (F0 m pc ls st0') rest (va_Qi (S := St × (Nat → Nat) × List Nat) (fun r u => post r u.1 u.2.2) (xOutA D KA lay st ad ids H.size) (xA ad ids H.size) a) (xA ad ids H.size)) (hW : xW D KA lay st ad ids A H0 σ H locs) (hA : ∀ q, H0.size ≤ q → A q)
    (kk : ∀ (r : Int32) (τ : St) (ad' : Nat → Nat) (ids' : List Nat) (H1 : Heap) (locs1 : List Loc), post r τ ids' → (∀ q : Nat, q < H.size → ¬ xA ad ids H.size q → H1[q]? = H[q]?) → (∀ c ∈ ids, ad' c = ad c) → (∀ c ∈ ids, c ∈ ids') → (∀ c ∈ ids', xA ad ids H.size (ad' c)) → xW D KA lay st ad' ids' A H0 τ H1 locs1 → W p l e R s m args below meth c H1 locs1 (cells + mc) (slots + ms) Q (F0 m (pc + 3) ls (.int r :: rest))) : W p l e R s m args below meth c H locs cells slots Q (F0 m pc ls st0') :=
  va_calli hr hW.2.2 (fun q _ h => xA_le hW hA q h) (xA_le hW hA) (fun r u t H1 locs1 ht _ hp hB _ hk hS => kk r u.1 u.2.1 u.2.2 H1 locs1 hp hk hB.2.1 hB.2.2.1 hB.2.2.2 (xW_out hW hA hB ht hS))
/-- a constructor; the standing references may be others behind it -/
theorem x2_callvA {post : St → List Nat → Prop} (hr : va_Run p l e R s m args below meth c H locs cells slots mc ms (F0 m pc ls st0') rest (va_Qv (S := St × (Nat → Nat) × List Nat) (fun u => post u.1 u.2.2) (xOutA D KA lay st1 ad ids H.size) (xA ad ids H.size) a) (xA ad ids H.size)) (hW : xW D KA lay st ad ids A H0 σ H locs) (hA : ∀ q, H0.size ≤ q → A q)
    (kk : ∀ (τ : St) (ad' : Nat → Nat) (ids' : List Nat) (H1 : Heap) (locs1 : List Loc), post τ ids' → (∀ q : Nat, q < H.size → ¬ xA ad ids H.size q → H1[q]? = H[q]?) → (∀ c ∈ ids, ad' c = ad c) → (∀ c ∈ ids, c ∈ ids') → (∀ c ∈ ids', xA ad ids H.size (ad' c)) → xW D KA lay st1 ad' ids' A H0 τ H1 locs1 → W p l e R s m args below meth c H1 locs1 (cells + mc) (slots + ms) Q (F0 m (pc + 3) ls rest)) : W p l e R s m args below meth c H locs cells slots Q (F0 m pc ls st0') := by
  refine va_callv hr hW.2.2 (fun q _ h => xA_le hW hA q h) (xA_le hW hA) (fun u t H1 locs1 ht _ hp hB _ hk hS => kk u.1 u.2.1 u.2.2 H1 locs1 hp hk hB.2.1 hB.2.2.1 hB.2.2.2 ?_)
  obtain ⟨⟨h1, h2⟩, -, -, h3⟩ := hB
  refine ⟨by rw [← ht]; exact h1, h2.weaken (fun q e hq _ => ?_), hS⟩
  obtain ⟨c, hc, rfl⟩ := xws_in hq
  exact xA_le hW hA _ (h3 c (List.mem_of_getElem? hc))
end XT
