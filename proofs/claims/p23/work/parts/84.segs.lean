/-! stretches of the law, printed by wip/gen/segs_law.py -/
theorem thr_0 {l : aL} {P : aP} {kc ks : Nat} {M : aM}   (r1 : P (.inl (some (.int (M.1 58 0)))) SHF M) : AW l (pI pg 171) P kc ks 0 [(0, .ref 58)] [] SHF M := by
  refine AW.aload_n (dq rfl) rfl rfl ?_
  show AW l (pI pg 171) P kc ks 1 _ _ SHF _
  refine fw_get (dq rfl) (pg_ok.2.1 171 _ _ _ _ rfl) rfl (v := .int (M.1 58 0)) rfl ?_
  show AW l (pI pg 171) P kc ks 4 _ _ SHF _
  refine AW.iret (dq rfl) rfl ?_
  exact r1

theorem lw_23 {l : aL} {P : aP} {kc ks : Nat} {i L : Nat} {xs : Nat → Int32} {M : aM}  (hG : ∀ G, l.2 G → scOk (some L, fun _ => none, [], []) xs G) (r2 : ∀ (h1 : ((Int32.ofNat L) - ((Int8.ofInt 6).toInt32) : Int32) < (nI i : Int32)), P (.inl (some (.int (Int32.ofInt 1)))) SHF M) (o3 : ∀ (h1 : ¬ (((Int32.ofNat L) - ((Int8.ofInt 6).toInt32) : Int32) < (nI i : Int32))), vp_in (nI i) L) (k4 : ∀ (h1 : ¬ (((Int32.ofNat L) - ((Int8.ofInt 6).toInt32) : Int32) < (nI i : Int32))), AW l (pI pg 248) P (kc + 2) (ks + 12) 40 [(4, .int (nI i)), (0, .retAddr 0), (1, .ref 0), (2, .ref 58), (3, .ref 93)] [.int ((xs (nI i).toNatClampNeg) &&& ((Int8.ofInt 31).toInt32))] SHF M) : AW l (pI pg 248) P (kc + 2) (ks + 12) 23 [(4, .int (nI i)), (0, .retAddr 0), (1, .ref 0), (2, .ref 58), (3, .ref 93)] [] SHF M := by
  refine AW.iload (dq rfl) rfl ?_
  show AW l (pI pg 248) P (kc + 2) (ks + 12) 25 _ _ SHF _
  refine AW.aload_n (dq rfl) rfl rfl ?_
  show AW l (pI pg 248) P (kc + 2) (ks + 12) 26 _ _ SHF _
  refine AW.slen hG (dq rfl) rfl ?_
  show AW l (pI pg 248) P (kc + 2) (ks + 12) 27 _ _ SHF _
  refine AW.bipush (dq rfl) ?_
  show AW l (pI pg 248) P (kc + 2) (ks + 12) 29 _ _ SHF _
  refine AW.isub (dq rfl) ?_
  show AW l (pI pg 248) P (kc + 2) (ks + 12) 30 _ _ SHF _
  refine AW.icmp_gt (dq rfl) (tgt := 1099) (by decide) (fun h1 => ?_) (fun h1 => ?_)
  · have _ := h1
    refine AW.iconst (dq rfl) ?_
    show AW l (pI pg 248) P (kc + 2) (ks + 12) 1100 _ _ SHF _
    refine AW.zret (dq rfl) rfl (by decide) ?_
    exact r2 h1
  · have _ := h1
    refine AW.aload_n (dq rfl) rfl rfl ?_
    show AW l (pI pg 248) P (kc + 2) (ks + 12) 34 _ _ SHF _
    refine AW.iload (dq rfl) rfl ?_
    show AW l (pI pg 248) P (kc + 2) (ks + 12) 36 _ _ SHF _
    refine AW.sld hG (dq rfl) rfl (o3 h1) ?_
    show AW l (pI pg 248) P (kc + 2) (ks + 12) 37 _ _ SHF _
    refine AW.bipush (dq rfl) ?_
    show AW l (pI pg 248) P (kc + 2) (ks + 12) 39 _ _ SHF _
    refine AW.iand (dq rfl) ?_
    show AW l (pI pg 248) P (kc + 2) (ks + 12) 40 _ _ SHF _
    refine AW.drop (lv' := [(4, .int (nI i)), (0, .retAddr 0), (1, .ref 0), (2, .ref 58), (3, .ref 93)]) (List.forall_mem_cons.mpr ⟨List.mem_of_getElem? (i := 0) rfl, List.forall_mem_cons.mpr ⟨List.mem_of_getElem? (i := 1) rfl, List.forall_mem_cons.mpr ⟨List.mem_of_getElem? (i := 2) rfl, List.forall_mem_cons.mpr ⟨List.mem_of_getElem? (i := 3) rfl, List.forall_mem_cons.mpr ⟨List.mem_of_getElem? (i := 4) rfl, fun _ h => absurd h List.not_mem_nil⟩⟩⟩⟩⟩) ?_
    exact k4 h1

theorem lw_c0 {l : aL} {P : aP} {kc ks : Nat} {i L : Nat} {xs : Nat → Int32} {M : aM}  (hG : ∀ G, l.2 G → scOk (some L, fun _ => none, [], []) xs G) (o1 : vp_in ((nI i) + (Int32.ofInt 1)) L) (o2 : vp_in ((nI i) + (Int32.ofInt 2)) L) (o3 : vp_in ((nI i) + (Int32.ofInt 3)) L) (o4 : vp_in ((nI i) + (Int32.ofInt 4)) L) (o5 : vp_in ((nI i) + (Int32.ofInt 5)) L) (Q6 : Int32 → aM → Prop) (c7 : AC l (pI pg 24) (gcI Q6) 2 12 [.ref 0, .int (xs ((nI i) + (Int32.ofInt 1)).toNatClampNeg), .int (xs ((nI i) + (Int32.ofInt 2)).toNatClampNeg), .int (xs ((nI i) + (Int32.ofInt 3)).toNatClampNeg), .int (xs ((nI i) + (Int32.ofInt 4)).toNatClampNeg), .int (xs ((nI i) + (Int32.ofInt 5)).toNatClampNeg)] SHF M) (Q8 : Int32 → aM → Int32 → aM → Prop) (c9 : ∀ (y6 : Int32), ∀ (M6 : aM), ∀ (q6 : Q6 y6 M6), AC l (pI pg 172) (gcI (Q8 y6 M6)) 0 0 [.ref 58, .int (xs ((nI i) + (Int32.ofInt 1)).toNatClampNeg), .int (xs ((nI i) + (Int32.ofInt 2)).toNatClampNeg), .int (xs ((nI i) + (Int32.ofInt 3)).toNatClampNeg), .int (xs ((nI i) + (Int32.ofInt 4)).toNatClampNeg), .int (xs ((nI i) + (Int32.ofInt 5)).toNatClampNeg)] SHF M6) (k10 : ∀ (y6 : Int32), ∀ (M6 : aM), ∀ (q6 : Q6 y6 M6), ∀ (y8 : Int32), ∀ (M8 : aM), ∀ (q8 : (Q8 y6 M6) y8 M8), AW l (pI pg 248) P kc ks 1093 [(4, .int (nI i)), (0, .retAddr 0), (1, .ref 0), (2, .ref 58), (3, .ref 93)] [] SHF M8) : AW l (pI pg 248) P (kc + 2) (ks + 12) 168 [(4, .int (nI i)), (0, .retAddr 0), (1, .ref 0), (2, .ref 58), (3, .ref 93)] [] SHF M := by
  refine AW.aload_n (dq rfl) rfl rfl ?_
  show AW l (pI pg 248) P (kc + 2) (ks + 12) 169 _ _ SHF _
  refine AW.aload_n (dq rfl) rfl rfl ?_
  show AW l (pI pg 248) P (kc + 2) (ks + 12) 170 _ _ SHF _
  refine AW.iload (dq rfl) rfl ?_
  show AW l (pI pg 248) P (kc + 2) (ks + 12) 172 _ _ SHF _
  refine AW.iconst (dq rfl) ?_
  show AW l (pI pg 248) P (kc + 2) (ks + 12) 173 _ _ SHF _
  refine AW.iadd (dq rfl) ?_
  show AW l (pI pg 248) P (kc + 2) (ks + 12) 174 _ _ SHF _
  refine AW.sld hG (dq rfl) rfl (o1) ?_
  show AW l (pI pg 248) P (kc + 2) (ks + 12) 175 _ _ SHF _
  refine AW.aload_n (dq rfl) rfl rfl ?_
  show AW l (pI pg 248) P (kc + 2) (ks + 12) 176 _ _ SHF _
  refine AW.iload (dq rfl) rfl ?_
  show AW l (pI pg 248) P (kc + 2) (ks + 12) 178 _ _ SHF _
  refine AW.iconst (dq rfl) ?_
  show AW l (pI pg 248) P (kc + 2) (ks + 12) 179 _ _ SHF _
  refine AW.iadd (dq rfl) ?_
  show AW l (pI pg 248) P (kc + 2) (ks + 12) 180 _ _ SHF _
  refine AW.sld hG (dq rfl) rfl (o2) ?_
  show AW l (pI pg 248) P (kc + 2) (ks + 12) 181 _ _ SHF _
  refine AW.aload_n (dq rfl) rfl rfl ?_
  show AW l (pI pg 248) P (kc + 2) (ks + 12) 182 _ _ SHF _
  refine AW.iload (dq rfl) rfl ?_
  show AW l (pI pg 248) P (kc + 2) (ks + 12) 184 _ _ SHF _
  refine AW.iconst (dq rfl) ?_
  show AW l (pI pg 248) P (kc + 2) (ks + 12) 185 _ _ SHF _
  refine AW.iadd (dq rfl) ?_
  show AW l (pI pg 248) P (kc + 2) (ks + 12) 186 _ _ SHF _
  refine AW.sld hG (dq rfl) rfl (o3) ?_
  show AW l (pI pg 248) P (kc + 2) (ks + 12) 187 _ _ SHF _
  refine AW.aload_n (dq rfl) rfl rfl ?_
  show AW l (pI pg 248) P (kc + 2) (ks + 12) 188 _ _ SHF _
  refine AW.iload (dq rfl) rfl ?_
  show AW l (pI pg 248) P (kc + 2) (ks + 12) 190 _ _ SHF _
  refine AW.iconst (dq rfl) ?_
  show AW l (pI pg 248) P (kc + 2) (ks + 12) 191 _ _ SHF _
  refine AW.iadd (dq rfl) ?_
  show AW l (pI pg 248) P (kc + 2) (ks + 12) 192 _ _ SHF _
  refine AW.sld hG (dq rfl) rfl (o4) ?_
  show AW l (pI pg 248) P (kc + 2) (ks + 12) 193 _ _ SHF _
  refine AW.aload_n (dq rfl) rfl rfl ?_
  show AW l (pI pg 248) P (kc + 2) (ks + 12) 194 _ _ SHF _
  refine AW.iload (dq rfl) rfl ?_
  show AW l (pI pg 248) P (kc + 2) (ks + 12) 196 _ _ SHF _
  refine AW.iconst (dq rfl) ?_
  show AW l (pI pg 248) P (kc + 2) (ks + 12) 197 _ _ SHF _
  refine AW.iadd (dq rfl) ?_
  show AW l (pI pg 248) P (kc + 2) (ks + 12) 198 _ _ SHF _
  refine AW.sld hG (dq rfl) rfl (o5) ?_
  show AW l (pI pg 248) P (kc + 2) (ks + 12) 199 _ _ SHF _
  refine gl_callVI (as := [.int (xs ((nI i) + (Int32.ofInt 1)).toNatClampNeg), .int (xs ((nI i) + (Int32.ofInt 2)).toNatClampNeg), .int (xs ((nI i) + (Int32.ofInt 3)).toNatClampNeg), .int (xs ((nI i) + (Int32.ofInt 4)).toNatClampNeg), .int (xs ((nI i) + (Int32.ofInt 5)).toNatClampNeg)]) (dq rfl) (pg_ok.2.2.1 248 _ _ _ _ rfl) rfl (by decide +kernel) rfl rfl (c7) (fun y6 M6 q6 => ?_)
  show AW l (pI pg 248) P kc ks 202 [(4, .int (nI i)), (0, .retAddr 0), (1, .ref 0), (2, .ref 58), (3, .ref 93)] [.int (y6)] SHF _
  refine AW.pop (dq rfl) rfl ?_
  show AW l (pI pg 248) P kc ks 203 _ _ SHF _
  refine AW.aload_n (dq rfl) rfl rfl ?_
  show AW l (pI pg 248) P kc ks 204 _ _ SHF _
  refine AW.aload_n (dq rfl) rfl rfl ?_
  show AW l (pI pg 248) P kc ks 205 _ _ SHF _
  refine AW.iload (dq rfl) rfl ?_
  show AW l (pI pg 248) P kc ks 207 _ _ SHF _
  refine AW.iconst (dq rfl) ?_
  show AW l (pI pg 248) P kc ks 208 _ _ SHF _
  refine AW.iadd (dq rfl) ?_
  show AW l (pI pg 248) P kc ks 209 _ _ SHF _
  refine AW.sld hG (dq rfl) rfl (o1) ?_
  show AW l (pI pg 248) P kc ks 210 _ _ SHF _
  refine AW.aload_n (dq rfl) rfl rfl ?_
  show AW l (pI pg 248) P kc ks 211 _ _ SHF _
  refine AW.iload (dq rfl) rfl ?_
  show AW l (pI pg 248) P kc ks 213 _ _ SHF _
  refine AW.iconst (dq rfl) ?_
  show AW l (pI pg 248) P kc ks 214 _ _ SHF _
  refine AW.iadd (dq rfl) ?_
  show AW l (pI pg 248) P kc ks 215 _ _ SHF _
  refine AW.sld hG (dq rfl) rfl (o2) ?_
  show AW l (pI pg 248) P kc ks 216 _ _ SHF _
  refine AW.aload_n (dq rfl) rfl rfl ?_
  show AW l (pI pg 248) P kc ks 217 _ _ SHF _
  refine AW.iload (dq rfl) rfl ?_
  show AW l (pI pg 248) P kc ks 219 _ _ SHF _
  refine AW.iconst (dq rfl) ?_
  show AW l (pI pg 248) P kc ks 220 _ _ SHF _
  refine AW.iadd (dq rfl) ?_
  show AW l (pI pg 248) P kc ks 221 _ _ SHF _
  refine AW.sld hG (dq rfl) rfl (o3) ?_
  show AW l (pI pg 248) P kc ks 222 _ _ SHF _
  refine AW.aload_n (dq rfl) rfl rfl ?_
  show AW l (pI pg 248) P kc ks 223 _ _ SHF _
  refine AW.iload (dq rfl) rfl ?_
  show AW l (pI pg 248) P kc ks 225 _ _ SHF _
  refine AW.iconst (dq rfl) ?_
  show AW l (pI pg 248) P kc ks 226 _ _ SHF _
  refine AW.iadd (dq rfl) ?_
  show AW l (pI pg 248) P kc ks 227 _ _ SHF _
  refine AW.sld hG (dq rfl) rfl (o4) ?_
  show AW l (pI pg 248) P kc ks 228 _ _ SHF _
  refine AW.aload_n (dq rfl) rfl rfl ?_
  show AW l (pI pg 248) P kc ks 229 _ _ SHF _
  refine AW.iload (dq rfl) rfl ?_
  show AW l (pI pg 248) P kc ks 231 _ _ SHF _
  refine AW.iconst (dq rfl) ?_
  show AW l (pI pg 248) P kc ks 232 _ _ SHF _
  refine AW.iadd (dq rfl) ?_
  show AW l (pI pg 248) P kc ks 233 _ _ SHF _
  refine AW.sld hG (dq rfl) rfl (o5) ?_
  show AW l (pI pg 248) P kc ks 234 _ _ SHF _
  refine gl_callVI (as := [.int (xs ((nI i) + (Int32.ofInt 1)).toNatClampNeg), .int (xs ((nI i) + (Int32.ofInt 2)).toNatClampNeg), .int (xs ((nI i) + (Int32.ofInt 3)).toNatClampNeg), .int (xs ((nI i) + (Int32.ofInt 4)).toNatClampNeg), .int (xs ((nI i) + (Int32.ofInt 5)).toNatClampNeg)]) (dq rfl) (pg_ok.2.2.1 248 _ _ _ _ rfl) rfl (by decide +kernel) rfl rfl (c9 y6 M6 q6) (fun y8 M8 q8 => ?_)
  show AW l (pI pg 248) P kc ks 237 [(4, .int (nI i)), (0, .retAddr 0), (1, .ref 0), (2, .ref 58), (3, .ref 93)] [.int (y8)] SHF _
  refine AW.pop (dq rfl) rfl ?_
  show AW l (pI pg 248) P kc ks 238 _ _ SHF _
  refine AW.goto (dq rfl) (tgt := 1093) (by decide) ?_
  refine AW.drop (lv' := [(4, .int (nI i)), (0, .retAddr 0), (1, .ref 0), (2, .ref 58), (3, .ref 93)]) (List.forall_mem_cons.mpr ⟨List.mem_of_getElem? (i := 0) rfl, List.forall_mem_cons.mpr ⟨List.mem_of_getElem? (i := 1) rfl, List.forall_mem_cons.mpr ⟨List.mem_of_getElem? (i := 2) rfl, List.forall_mem_cons.mpr ⟨List.mem_of_getElem? (i := 3) rfl, List.forall_mem_cons.mpr ⟨List.mem_of_getElem? (i := 4) rfl, fun _ h => absurd h List.not_mem_nil⟩⟩⟩⟩⟩) ?_
  exact k10 y6 M6 q6 y8 M8 q8

theorem lw_c1 {l : aL} {P : aP} {kc ks : Nat} {i L : Nat} {xs : Nat → Int32} {M : aM}  (hG : ∀ G, l.2 G → scOk (some L, fun _ => none, [], []) xs G) (o1 : vp_in ((nI i) + (Int32.ofInt 1)) L) (Q2 : Int32 → aM → Prop) (c3 : ∀ hh, iT (pI pg 38) = tableOf hh → ACH l (pI pg 38) hh (gcI Q2) 2 12 [.ref 0, .int (xs ((nI i) + (Int32.ofInt 1)).toNatClampNeg), .ref 93] SHF M) (Q4 : Int32 → aM → Int32 → aM → Prop) (c5 : ∀ (y2 : Int32), ∀ (M2 : aM), ∀ (q2 : Q2 y2 M2), AC l (pI pg 174) (gcI (Q4 y2 M2)) 0 0 [.ref 58, .int (xs ((nI i) + (Int32.ofInt 1)).toNatClampNeg)] SHF M2) (k6 : ∀ (y2 : Int32), ∀ (M2 : aM), ∀ (q2 : Q2 y2 M2), ∀ (y4 : Int32), ∀ (M4 : aM), ∀ (q4 : (Q4 y2 M2) y4 M4), AW l (pI pg 248) P kc ks 1093 [(4, .int (nI i)), (0, .retAddr 0), (1, .ref 0), (2, .ref 58), (3, .ref 93)] [] SHF M4) : AW l (pI pg 248) P (kc + 2) (ks + 12) 241 [(4, .int (nI i)), (0, .retAddr 0), (1, .ref 0), (2, .ref 58), (3, .ref 93)] [] SHF M := by
  refine AW.aload_n (dq rfl) rfl rfl ?_
  show AW l (pI pg 248) P (kc + 2) (ks + 12) 242 _ _ SHF _
  refine AW.aload_n (dq rfl) rfl rfl ?_
  show AW l (pI pg 248) P (kc + 2) (ks + 12) 243 _ _ SHF _
  refine AW.iload (dq rfl) rfl ?_
  show AW l (pI pg 248) P (kc + 2) (ks + 12) 245 _ _ SHF _
  refine AW.iconst (dq rfl) ?_
  show AW l (pI pg 248) P (kc + 2) (ks + 12) 246 _ _ SHF _
  refine AW.iadd (dq rfl) ?_
  show AW l (pI pg 248) P (kc + 2) (ks + 12) 247 _ _ SHF _
  refine AW.sld hG (dq rfl) rfl (o1) ?_
  show AW l (pI pg 248) P (kc + 2) (ks + 12) 248 _ _ SHF _
  refine AW.aload_n (dq rfl) rfl rfl ?_
  show AW l (pI pg 248) P (kc + 2) (ks + 12) 249 _ _ SHF _
  refine gl_callH (as := [.ref 0, .int (xs ((nI i) + (Int32.ofInt 1)).toNatClampNeg), .ref 93]) (dq rfl) (pg_ok.2.2.1 248 _ _ _ _ rfl) (by decide +kernel) rfl rfl (c3) (fun y2 M2 q2 => ?_)
  show AW l (pI pg 248) P kc ks 252 [(4, .int (nI i)), (0, .retAddr 0), (1, .ref 0), (2, .ref 58), (3, .ref 93)] [.int (y2)] SHF _
  refine AW.istore (dq rfl) (by decide +kernel) ?_
  show AW l (pI pg 248) P kc ks 254 [(5, .int (y2)), (4, .int (nI i)), (0, .retAddr 0), (1, .ref 0), (2, .ref 58), (3, .ref 93)] [] SHF _
  refine AW.aload_n (dq rfl) rfl rfl ?_
  show AW l (pI pg 248) P kc ks 255 _ _ SHF _
  refine AW.aload_n (dq rfl) rfl rfl ?_
  show AW l (pI pg 248) P kc ks 256 _ _ SHF _
  refine AW.iload (dq rfl) rfl ?_
  show AW l (pI pg 248) P kc ks 258 _ _ SHF _
  refine AW.iconst (dq rfl) ?_
  show AW l (pI pg 248) P kc ks 259 _ _ SHF _
  refine AW.iadd (dq rfl) ?_
  show AW l (pI pg 248) P kc ks 260 _ _ SHF _
  refine AW.sld hG (dq rfl) rfl (o1) ?_
  show AW l (pI pg 248) P kc ks 261 _ _ SHF _
  refine gl_callVI (as := [.int (xs ((nI i) + (Int32.ofInt 1)).toNatClampNeg)]) (dq rfl) (pg_ok.2.2.1 248 _ _ _ _ rfl) rfl (by decide +kernel) rfl rfl (c5 y2 M2 q2) (fun y4 M4 q4 => ?_)
  show AW l (pI pg 248) P kc ks 264 [(5, .int (y2)), (4, .int (nI i)), (0, .retAddr 0), (1, .ref 0), (2, .ref 58), (3, .ref 93)] [.int (y4)] SHF _
  refine AW.istore (dq rfl) (by decide +kernel) ?_
  show AW l (pI pg 248) P kc ks 266 [(6, .int (y4)), (5, .int (y2)), (4, .int (nI i)), (0, .retAddr 0), (1, .ref 0), (2, .ref 58), (3, .ref 93)] [] SHF _
  refine AW.goto (dq rfl) (tgt := 1093) (by decide) ?_
  refine AW.drop (lv' := [(4, .int (nI i)), (0, .retAddr 0), (1, .ref 0), (2, .ref 58), (3, .ref 93)]) (List.forall_mem_cons.mpr ⟨List.mem_of_getElem? (i := 2) rfl, List.forall_mem_cons.mpr ⟨List.mem_of_getElem? (i := 3) rfl, List.forall_mem_cons.mpr ⟨List.mem_of_getElem? (i := 4) rfl, List.forall_mem_cons.mpr ⟨List.mem_of_getElem? (i := 5) rfl, List.forall_mem_cons.mpr ⟨List.mem_of_getElem? (i := 6) rfl, fun _ h => absurd h List.not_mem_nil⟩⟩⟩⟩⟩) ?_
  exact k6 y2 M2 q2 y4 M4 q4

theorem lw_c2 {l : aL} {P : aP} {kc ks : Nat} {i L : Nat} {xs : Nat → Int32} {M : aM}  (hG : ∀ G, l.2 G → scOk (some L, fun _ => none, [], []) xs G) (Q1 : Int32 → aM → Prop) (c2 : AC l (pI pg 26) (gcI Q1) 2 12 [.ref 0] SHF M) (Q3 : Int32 → aM → Int32 → aM → Prop) (c4 : ∀ (y1 : Int32), ∀ (M1 : aM), ∀ (q1 : Q1 y1 M1), AC l (pI pg 193) (gcI (Q3 y1 M1)) 0 0 [.ref 58] SHF M1) (k5 : ∀ (y1 : Int32), ∀ (M1 : aM), ∀ (q1 : Q1 y1 M1), ∀ (y3 : Int32), ∀ (M3 : aM), ∀ (q3 : (Q3 y1 M1) y3 M3), AW l (pI pg 248) P kc ks 1093 [(4, .int (nI i)), (0, .retAddr 0), (1, .ref 0), (2, .ref 58), (3, .ref 93)] [] SHF M3) : AW l (pI pg 248) P (kc + 2) (ks + 12) 269 [(4, .int (nI i)), (0, .retAddr 0), (1, .ref 0), (2, .ref 58), (3, .ref 93)] [] SHF M := by
  refine AW.aload_n (dq rfl) rfl rfl ?_
  show AW l (pI pg 248) P (kc + 2) (ks + 12) 270 _ _ SHF _
  refine gl_callVI (as := []) (dq rfl) (pg_ok.2.2.1 248 _ _ _ _ rfl) rfl (by decide +kernel) rfl rfl (c2) (fun y1 M1 q1 => ?_)
  show AW l (pI pg 248) P kc ks 273 [(4, .int (nI i)), (0, .retAddr 0), (1, .ref 0), (2, .ref 58), (3, .ref 93)] [.int (y1)] SHF _
  refine AW.pop (dq rfl) rfl ?_
  show AW l (pI pg 248) P kc ks 274 _ _ SHF _
  refine AW.aload_n (dq rfl) rfl rfl ?_
  show AW l (pI pg 248) P kc ks 275 _ _ SHF _
  refine gl_callVI (as := []) (dq rfl) (pg_ok.2.2.1 248 _ _ _ _ rfl) rfl (by decide +kernel) rfl rfl (c4 y1 M1 q1) (fun y3 M3 q3 => ?_)
  show AW l (pI pg 248) P kc ks 278 [(4, .int (nI i)), (0, .retAddr 0), (1, .ref 0), (2, .ref 58), (3, .ref 93)] [.int (y3)] SHF _
  refine AW.pop (dq rfl) rfl ?_
  show AW l (pI pg 248) P kc ks 279 _ _ SHF _
  refine AW.goto (dq rfl) (tgt := 1093) (by decide) ?_
  refine AW.drop (lv' := [(4, .int (nI i)), (0, .retAddr 0), (1, .ref 0), (2, .ref 58), (3, .ref 93)]) (List.forall_mem_cons.mpr ⟨List.mem_of_getElem? (i := 0) rfl, List.forall_mem_cons.mpr ⟨List.mem_of_getElem? (i := 1) rfl, List.forall_mem_cons.mpr ⟨List.mem_of_getElem? (i := 2) rfl, List.forall_mem_cons.mpr ⟨List.mem_of_getElem? (i := 3) rfl, List.forall_mem_cons.mpr ⟨List.mem_of_getElem? (i := 4) rfl, fun _ h => absurd h List.not_mem_nil⟩⟩⟩⟩⟩) ?_
  exact k5 y1 M1 q1 y3 M3 q3

theorem lw_c3 {l : aL} {P : aP} {kc ks : Nat} {i L : Nat} {xs : Nat → Int32} {M : aM}  (hG : ∀ G, l.2 G → scOk (some L, fun _ => none, [], []) xs G) (o1 : vp_in ((nI i) + (Int32.ofInt 1)) L) (Q2 : Int32 → aM → Prop) (c3 : ∀ hh, iT (pI pg 85) = tableOf hh → ACH l (pI pg 85) hh (gcI Q2) 2 12 [.ref 0, .int (xs ((nI i) + (Int32.ofInt 1)).toNatClampNeg), .ref 93] SHF M) (Q4 : Int32 → aM → Int32 → aM → Prop) (c5 : ∀ (y2 : Int32), ∀ (M2 : aM), ∀ (q2 : Q2 y2 M2), AC l (pI pg 194) (gcI (Q4 y2 M2)) 0 0 [.ref 58, .int (xs ((nI i) + (Int32.ofInt 1)).toNatClampNeg)] SHF M2) (k6 : ∀ (y2 : Int32), ∀ (M2 : aM), ∀ (q2 : Q2 y2 M2), ∀ (y4 : Int32), ∀ (M4 : aM), ∀ (q4 : (Q4 y2 M2) y4 M4), AW l (pI pg 248) P kc ks 1093 [(4, .int (nI i)), (0, .retAddr 0), (1, .ref 0), (2, .ref 58), (3, .ref 93)] [] SHF M4) : AW l (pI pg 248) P (kc + 2) (ks + 12) 282 [(4, .int (nI i)), (0, .retAddr 0), (1, .ref 0), (2, .ref 58), (3, .ref 93)] [] SHF M := by
  refine AW.aload_n (dq rfl) rfl rfl ?_
  show AW l (pI pg 248) P (kc + 2) (ks + 12) 283 _ _ SHF _
  refine AW.aload_n (dq rfl) rfl rfl ?_
  show AW l (pI pg 248) P (kc + 2) (ks + 12) 284 _ _ SHF _
  refine AW.iload (dq rfl) rfl ?_
  show AW l (pI pg 248) P (kc + 2) (ks + 12) 286 _ _ SHF _
  refine AW.iconst (dq rfl) ?_
  show AW l (pI pg 248) P (kc + 2) (ks + 12) 287 _ _ SHF _
  refine AW.iadd (dq rfl) ?_
  show AW l (pI pg 248) P (kc + 2) (ks + 12) 288 _ _ SHF _
  refine AW.sld hG (dq rfl) rfl (o1) ?_
  show AW l (pI pg 248) P (kc + 2) (ks + 12) 289 _ _ SHF _
  refine AW.aload_n (dq rfl) rfl rfl ?_
  show AW l (pI pg 248) P (kc + 2) (ks + 12) 290 _ _ SHF _
  refine gl_callH (as := [.ref 0, .int (xs ((nI i) + (Int32.ofInt 1)).toNatClampNeg), .ref 93]) (dq rfl) (pg_ok.2.2.1 248 _ _ _ _ rfl) (by decide +kernel) rfl rfl (c3) (fun y2 M2 q2 => ?_)
  show AW l (pI pg 248) P kc ks 293 [(4, .int (nI i)), (0, .retAddr 0), (1, .ref 0), (2, .ref 58), (3, .ref 93)] [.int (y2)] SHF _
  refine AW.istore (dq rfl) (by decide +kernel) ?_
  show AW l (pI pg 248) P kc ks 295 [(5, .int (y2)), (4, .int (nI i)), (0, .retAddr 0), (1, .ref 0), (2, .ref 58), (3, .ref 93)] [] SHF _
  refine AW.aload_n (dq rfl) rfl rfl ?_
  show AW l (pI pg 248) P kc ks 296 _ _ SHF _
  refine AW.aload_n (dq rfl) rfl rfl ?_
  show AW l (pI pg 248) P kc ks 297 _ _ SHF _
  refine AW.iload (dq rfl) rfl ?_
  show AW l (pI pg 248) P kc ks 299 _ _ SHF _
  refine AW.iconst (dq rfl) ?_
  show AW l (pI pg 248) P kc ks 300 _ _ SHF _
  refine AW.iadd (dq rfl) ?_
  show AW l (pI pg 248) P kc ks 301 _ _ SHF _
  refine AW.sld hG (dq rfl) rfl (o1) ?_
  show AW l (pI pg 248) P kc ks 302 _ _ SHF _
  refine gl_callVI (as := [.int (xs ((nI i) + (Int32.ofInt 1)).toNatClampNeg)]) (dq rfl) (pg_ok.2.2.1 248 _ _ _ _ rfl) rfl (by decide +kernel) rfl rfl (c5 y2 M2 q2) (fun y4 M4 q4 => ?_)
  show AW l (pI pg 248) P kc ks 305 [(5, .int (y2)), (4, .int (nI i)), (0, .retAddr 0), (1, .ref 0), (2, .ref 58), (3, .ref 93)] [.int (y4)] SHF _
  refine AW.istore (dq rfl) (by decide +kernel) ?_
  show AW l (pI pg 248) P kc ks 307 [(6, .int (y4)), (5, .int (y2)), (4, .int (nI i)), (0, .retAddr 0), (1, .ref 0), (2, .ref 58), (3, .ref 93)] [] SHF _
  refine AW.goto (dq rfl) (tgt := 1093) (by decide) ?_
  refine AW.drop (lv' := [(4, .int (nI i)), (0, .retAddr 0), (1, .ref 0), (2, .ref 58), (3, .ref 93)]) (List.forall_mem_cons.mpr ⟨List.mem_of_getElem? (i := 2) rfl, List.forall_mem_cons.mpr ⟨List.mem_of_getElem? (i := 3) rfl, List.forall_mem_cons.mpr ⟨List.mem_of_getElem? (i := 4) rfl, List.forall_mem_cons.mpr ⟨List.mem_of_getElem? (i := 5) rfl, List.forall_mem_cons.mpr ⟨List.mem_of_getElem? (i := 6) rfl, fun _ h => absurd h List.not_mem_nil⟩⟩⟩⟩⟩) ?_
  exact k6 y2 M2 q2 y4 M4 q4

theorem lw_c4 {l : aL} {P : aP} {kc ks : Nat} {i L : Nat} {xs : Nat → Int32} {M : aM}  (hG : ∀ G, l.2 G → scOk (some L, fun _ => none, [], []) xs G) (o1 : vp_in ((nI i) + (Int32.ofInt 1)) L) (o2 : vp_in ((nI i) + (Int32.ofInt 2)) L) (Q3 : Int32 → aM → Prop) (c4 : ∀ hh, iT (pI pg 88) = tableOf hh → ACH l (pI pg 88) hh (gcI Q3) 2 12 [.ref 0, .int (xs ((nI i) + (Int32.ofInt 1)).toNatClampNeg), .int (xs ((nI i) + (Int32.ofInt 2)).toNatClampNeg), .ref 93] SHF M) (Q5 : Int32 → aM → Int32 → aM → Prop) (c6 : ∀ (y3 : Int32), ∀ (M3 : aM), ∀ (q3 : Q3 y3 M3), AC l (pI pg 196) (gcI (Q5 y3 M3)) 0 0 [.ref 58, .int (xs ((nI i) + (Int32.ofInt 1)).toNatClampNeg), .int (xs ((nI i) + (Int32.ofInt 2)).toNatClampNeg)] SHF M3) (k7 : ∀ (y3 : Int32), ∀ (M3 : aM), ∀ (q3 : Q3 y3 M3), ∀ (y5 : Int32), ∀ (M5 : aM), ∀ (q5 : (Q5 y3 M3) y5 M5), AW l (pI pg 248) P kc ks 1093 [(4, .int (nI i)), (0, .retAddr 0), (1, .ref 0), (2, .ref 58), (3, .ref 93)] [] SHF M5) : AW l (pI pg 248) P (kc + 2) (ks + 12) 310 [(4, .int (nI i)), (0, .retAddr 0), (1, .ref 0), (2, .ref 58), (3, .ref 93)] [] SHF M := by
  refine AW.aload_n (dq rfl) rfl rfl ?_
  show AW l (pI pg 248) P (kc + 2) (ks + 12) 311 _ _ SHF _
  refine AW.aload_n (dq rfl) rfl rfl ?_
  show AW l (pI pg 248) P (kc + 2) (ks + 12) 312 _ _ SHF _
  refine AW.iload (dq rfl) rfl ?_
  show AW l (pI pg 248) P (kc + 2) (ks + 12) 314 _ _ SHF _
  refine AW.iconst (dq rfl) ?_
  show AW l (pI pg 248) P (kc + 2) (ks + 12) 315 _ _ SHF _
  refine AW.iadd (dq rfl) ?_
  show AW l (pI pg 248) P (kc + 2) (ks + 12) 316 _ _ SHF _
  refine AW.sld hG (dq rfl) rfl (o1) ?_
  show AW l (pI pg 248) P (kc + 2) (ks + 12) 317 _ _ SHF _
  refine AW.aload_n (dq rfl) rfl rfl ?_
  show AW l (pI pg 248) P (kc + 2) (ks + 12) 318 _ _ SHF _
  refine AW.iload (dq rfl) rfl ?_
  show AW l (pI pg 248) P (kc + 2) (ks + 12) 320 _ _ SHF _
  refine AW.iconst (dq rfl) ?_
  show AW l (pI pg 248) P (kc + 2) (ks + 12) 321 _ _ SHF _
  refine AW.iadd (dq rfl) ?_
  show AW l (pI pg 248) P (kc + 2) (ks + 12) 322 _ _ SHF _
  refine AW.sld hG (dq rfl) rfl (o2) ?_
  show AW l (pI pg 248) P (kc + 2) (ks + 12) 323 _ _ SHF _
  refine AW.aload_n (dq rfl) rfl rfl ?_
  show AW l (pI pg 248) P (kc + 2) (ks + 12) 324 _ _ SHF _
  refine gl_callH (as := [.ref 0, .int (xs ((nI i) + (Int32.ofInt 1)).toNatClampNeg), .int (xs ((nI i) + (Int32.ofInt 2)).toNatClampNeg), .ref 93]) (dq rfl) (pg_ok.2.2.1 248 _ _ _ _ rfl) (by decide +kernel) rfl rfl (c4) (fun y3 M3 q3 => ?_)
  show AW l (pI pg 248) P kc ks 327 [(4, .int (nI i)), (0, .retAddr 0), (1, .ref 0), (2, .ref 58), (3, .ref 93)] [.int (y3)] SHF _
  refine AW.istore (dq rfl) (by decide +kernel) ?_
  show AW l (pI pg 248) P kc ks 329 [(5, .int (y3)), (4, .int (nI i)), (0, .retAddr 0), (1, .ref 0), (2, .ref 58), (3, .ref 93)] [] SHF _
  refine AW.aload_n (dq rfl) rfl rfl ?_
  show AW l (pI pg 248) P kc ks 330 _ _ SHF _
  refine AW.aload_n (dq rfl) rfl rfl ?_
  show AW l (pI pg 248) P kc ks 331 _ _ SHF _
  refine AW.iload (dq rfl) rfl ?_
  show AW l (pI pg 248) P kc ks 333 _ _ SHF _
  refine AW.iconst (dq rfl) ?_
  show AW l (pI pg 248) P kc ks 334 _ _ SHF _
  refine AW.iadd (dq rfl) ?_
  show AW l (pI pg 248) P kc ks 335 _ _ SHF _
  refine AW.sld hG (dq rfl) rfl (o1) ?_
  show AW l (pI pg 248) P kc ks 336 _ _ SHF _
  refine AW.aload_n (dq rfl) rfl rfl ?_
  show AW l (pI pg 248) P kc ks 337 _ _ SHF _
  refine AW.iload (dq rfl) rfl ?_
  show AW l (pI pg 248) P kc ks 339 _ _ SHF _
  refine AW.iconst (dq rfl) ?_
  show AW l (pI pg 248) P kc ks 340 _ _ SHF _
  refine AW.iadd (dq rfl) ?_
  show AW l (pI pg 248) P kc ks 341 _ _ SHF _
  refine AW.sld hG (dq rfl) rfl (o2) ?_
  show AW l (pI pg 248) P kc ks 342 _ _ SHF _
  refine gl_callVI (as := [.int (xs ((nI i) + (Int32.ofInt 1)).toNatClampNeg), .int (xs ((nI i) + (Int32.ofInt 2)).toNatClampNeg)]) (dq rfl) (pg_ok.2.2.1 248 _ _ _ _ rfl) rfl (by decide +kernel) rfl rfl (c6 y3 M3 q3) (fun y5 M5 q5 => ?_)
  show AW l (pI pg 248) P kc ks 345 [(5, .int (y3)), (4, .int (nI i)), (0, .retAddr 0), (1, .ref 0), (2, .ref 58), (3, .ref 93)] [.int (y5)] SHF _
  refine AW.istore (dq rfl) (by decide +kernel) ?_
  show AW l (pI pg 248) P kc ks 347 [(6, .int (y5)), (5, .int (y3)), (4, .int (nI i)), (0, .retAddr 0), (1, .ref 0), (2, .ref 58), (3, .ref 93)] [] SHF _
  refine AW.goto (dq rfl) (tgt := 1093) (by decide) ?_
  refine AW.drop (lv' := [(4, .int (nI i)), (0, .retAddr 0), (1, .ref 0), (2, .ref 58), (3, .ref 93)]) (List.forall_mem_cons.mpr ⟨List.mem_of_getElem? (i := 2) rfl, List.forall_mem_cons.mpr ⟨List.mem_of_getElem? (i := 3) rfl, List.forall_mem_cons.mpr ⟨List.mem_of_getElem? (i := 4) rfl, List.forall_mem_cons.mpr ⟨List.mem_of_getElem? (i := 5) rfl, List.forall_mem_cons.mpr ⟨List.mem_of_getElem? (i := 6) rfl, fun _ h => absurd h List.not_mem_nil⟩⟩⟩⟩⟩) ?_
  exact k7 y3 M3 q3 y5 M5 q5

theorem lw_c5 {l : aL} {P : aP} {kc ks : Nat} {i L : Nat} {xs : Nat → Int32} {M : aM}  (hG : ∀ G, l.2 G → scOk (some L, fun _ => none, [], []) xs G) (o1 : vp_in ((nI i) + (Int32.ofInt 1)) L) (o2 : vp_in ((nI i) + (Int32.ofInt 2)) L) (Q3 : Int32 → aM → Prop) (c4 : ∀ hh, iT (pI pg 91) = tableOf hh → ACH l (pI pg 91) hh (gcI Q3) 2 12 [.ref 0, .int (xs ((nI i) + (Int32.ofInt 1)).toNatClampNeg), .int (xs ((nI i) + (Int32.ofInt 2)).toNatClampNeg), .ref 93] SHF M) (Q5 : Int32 → aM → Int32 → aM → Prop) (c6 : ∀ (y3 : Int32), ∀ (M3 : aM), ∀ (q3 : Q3 y3 M3), AC l (pI pg 198) (gcI (Q5 y3 M3)) 0 0 [.ref 58, .int (xs ((nI i) + (Int32.ofInt 1)).toNatClampNeg), .int (xs ((nI i) + (Int32.ofInt 2)).toNatClampNeg)] SHF M3) (k7 : ∀ (y3 : Int32), ∀ (M3 : aM), ∀ (q3 : Q3 y3 M3), ∀ (y5 : Int32), ∀ (M5 : aM), ∀ (q5 : (Q5 y3 M3) y5 M5), AW l (pI pg 248) P kc ks 1093 [(4, .int (nI i)), (0, .retAddr 0), (1, .ref 0), (2, .ref 58), (3, .ref 93)] [] SHF M5) : AW l (pI pg 248) P (kc + 2) (ks + 12) 350 [(4, .int (nI i)), (0, .retAddr 0), (1, .ref 0), (2, .ref 58), (3, .ref 93)] [] SHF M := by
  refine AW.aload_n (dq rfl) rfl rfl ?_
  show AW l (pI pg 248) P (kc + 2) (ks + 12) 351 _ _ SHF _
  refine AW.aload_n (dq rfl) rfl rfl ?_
  show AW l (pI pg 248) P (kc + 2) (ks + 12) 352 _ _ SHF _
  refine AW.iload (dq rfl) rfl ?_
  show AW l (pI pg 248) P (kc + 2) (ks + 12) 354 _ _ SHF _
  refine AW.iconst (dq rfl) ?_
  show AW l (pI pg 248) P (kc + 2) (ks + 12) 355 _ _ SHF _
  refine AW.iadd (dq rfl) ?_
  show AW l (pI pg 248) P (kc + 2) (ks + 12) 356 _ _ SHF _
  refine AW.sld hG (dq rfl) rfl (o1) ?_
  show AW l (pI pg 248) P (kc + 2) (ks + 12) 357 _ _ SHF _
  refine AW.aload_n (dq rfl) rfl rfl ?_
  show AW l (pI pg 248) P (kc + 2) (ks + 12) 358 _ _ SHF _
  refine AW.iload (dq rfl) rfl ?_
  show AW l (pI pg 248) P (kc + 2) (ks + 12) 360 _ _ SHF _
  refine AW.iconst (dq rfl) ?_
  show AW l (pI pg 248) P (kc + 2) (ks + 12) 361 _ _ SHF _
  refine AW.iadd (dq rfl) ?_
  show AW l (pI pg 248) P (kc + 2) (ks + 12) 362 _ _ SHF _
  refine AW.sld hG (dq rfl) rfl (o2) ?_
  show AW l (pI pg 248) P (kc + 2) (ks + 12) 363 _ _ SHF _
  refine AW.aload_n (dq rfl) rfl rfl ?_
  show AW l (pI pg 248) P (kc + 2) (ks + 12) 364 _ _ SHF _
  refine gl_callH (as := [.ref 0, .int (xs ((nI i) + (Int32.ofInt 1)).toNatClampNeg), .int (xs ((nI i) + (Int32.ofInt 2)).toNatClampNeg), .ref 93]) (dq rfl) (pg_ok.2.2.1 248 _ _ _ _ rfl) (by decide +kernel) rfl rfl (c4) (fun y3 M3 q3 => ?_)
  show AW l (pI pg 248) P kc ks 367 [(4, .int (nI i)), (0, .retAddr 0), (1, .ref 0), (2, .ref 58), (3, .ref 93)] [.int (y3)] SHF _
  refine AW.istore (dq rfl) (by decide +kernel) ?_
  show AW l (pI pg 248) P kc ks 369 [(5, .int (y3)), (4, .int (nI i)), (0, .retAddr 0), (1, .ref 0), (2, .ref 58), (3, .ref 93)] [] SHF _
  refine AW.aload_n (dq rfl) rfl rfl ?_
  show AW l (pI pg 248) P kc ks 370 _ _ SHF _
  refine AW.aload_n (dq rfl) rfl rfl ?_
  show AW l (pI pg 248) P kc ks 371 _ _ SHF _
  refine AW.iload (dq rfl) rfl ?_
  show AW l (pI pg 248) P kc ks 373 _ _ SHF _
  refine AW.iconst (dq rfl) ?_
  show AW l (pI pg 248) P kc ks 374 _ _ SHF _
  refine AW.iadd (dq rfl) ?_
  show AW l (pI pg 248) P kc ks 375 _ _ SHF _
  refine AW.sld hG (dq rfl) rfl (o1) ?_
  show AW l (pI pg 248) P kc ks 376 _ _ SHF _
  refine AW.aload_n (dq rfl) rfl rfl ?_
  show AW l (pI pg 248) P kc ks 377 _ _ SHF _
  refine AW.iload (dq rfl) rfl ?_
  show AW l (pI pg 248) P kc ks 379 _ _ SHF _
  refine AW.iconst (dq rfl) ?_
  show AW l (pI pg 248) P kc ks 380 _ _ SHF _
  refine AW.iadd (dq rfl) ?_
  show AW l (pI pg 248) P kc ks 381 _ _ SHF _
  refine AW.sld hG (dq rfl) rfl (o2) ?_
  show AW l (pI pg 248) P kc ks 382 _ _ SHF _
  refine gl_callVI (as := [.int (xs ((nI i) + (Int32.ofInt 1)).toNatClampNeg), .int (xs ((nI i) + (Int32.ofInt 2)).toNatClampNeg)]) (dq rfl) (pg_ok.2.2.1 248 _ _ _ _ rfl) rfl (by decide +kernel) rfl rfl (c6 y3 M3 q3) (fun y5 M5 q5 => ?_)
  show AW l (pI pg 248) P kc ks 385 [(5, .int (y3)), (4, .int (nI i)), (0, .retAddr 0), (1, .ref 0), (2, .ref 58), (3, .ref 93)] [.int (y5)] SHF _
  refine AW.istore (dq rfl) (by decide +kernel) ?_
  show AW l (pI pg 248) P kc ks 387 [(6, .int (y5)), (5, .int (y3)), (4, .int (nI i)), (0, .retAddr 0), (1, .ref 0), (2, .ref 58), (3, .ref 93)] [] SHF _
  refine AW.goto (dq rfl) (tgt := 1093) (by decide) ?_
  refine AW.drop (lv' := [(4, .int (nI i)), (0, .retAddr 0), (1, .ref 0), (2, .ref 58), (3, .ref 93)]) (List.forall_mem_cons.mpr ⟨List.mem_of_getElem? (i := 2) rfl, List.forall_mem_cons.mpr ⟨List.mem_of_getElem? (i := 3) rfl, List.forall_mem_cons.mpr ⟨List.mem_of_getElem? (i := 4) rfl, List.forall_mem_cons.mpr ⟨List.mem_of_getElem? (i := 5) rfl, List.forall_mem_cons.mpr ⟨List.mem_of_getElem? (i := 6) rfl, fun _ h => absurd h List.not_mem_nil⟩⟩⟩⟩⟩) ?_
  exact k7 y3 M3 q3 y5 M5 q5

theorem lw_c6 {l : aL} {P : aP} {kc ks : Nat} {i L : Nat} {xs : Nat → Int32} {M : aM}  (hG : ∀ G, l.2 G → scOk (some L, fun _ => none, [], []) xs G) (o1 : vp_in ((nI i) + (Int32.ofInt 1)) L) (o2 : vp_in ((nI i) + (Int32.ofInt 2)) L) (Q3 : Int32 → aM → Prop) (c4 : ∀ hh, iT (pI pg 94) = tableOf hh → ACH l (pI pg 94) hh (gcI Q3) 2 12 [.ref 0, .int (xs ((nI i) + (Int32.ofInt 1)).toNatClampNeg), .int (xs ((nI i) + (Int32.ofInt 2)).toNatClampNeg), .ref 93] SHF M) (Q5 : Int32 → aM → Int32 → aM → Prop) (c6 : ∀ (y3 : Int32), ∀ (M3 : aM), ∀ (q3 : Q3 y3 M3), AC l (pI pg 200) (gcI (Q5 y3 M3)) 0 0 [.ref 58, .int (xs ((nI i) + (Int32.ofInt 1)).toNatClampNeg), .int (xs ((nI i) + (Int32.ofInt 2)).toNatClampNeg)] SHF M3) (k7 : ∀ (y3 : Int32), ∀ (M3 : aM), ∀ (q3 : Q3 y3 M3), ∀ (y5 : Int32), ∀ (M5 : aM), ∀ (q5 : (Q5 y3 M3) y5 M5), AW l (pI pg 248) P kc ks 1093 [(4, .int (nI i)), (0, .retAddr 0), (1, .ref 0), (2, .ref 58), (3, .ref 93)] [] SHF M5) : AW l (pI pg 248) P (kc + 2) (ks + 12) 390 [(4, .int (nI i)), (0, .retAddr 0), (1, .ref 0), (2, .ref 58), (3, .ref 93)] [] SHF M := by
  refine AW.aload_n (dq rfl) rfl rfl ?_
  show AW l (pI pg 248) P (kc + 2) (ks + 12) 391 _ _ SHF _
  refine AW.aload_n (dq rfl) rfl rfl ?_
  show AW l (pI pg 248) P (kc + 2) (ks + 12) 392 _ _ SHF _
  refine AW.iload (dq rfl) rfl ?_
  show AW l (pI pg 248) P (kc + 2) (ks + 12) 394 _ _ SHF _
  refine AW.iconst (dq rfl) ?_
  show AW l (pI pg 248) P (kc + 2) (ks + 12) 395 _ _ SHF _
  refine AW.iadd (dq rfl) ?_
  show AW l (pI pg 248) P (kc + 2) (ks + 12) 396 _ _ SHF _
  refine AW.sld hG (dq rfl) rfl (o1) ?_
  show AW l (pI pg 248) P (kc + 2) (ks + 12) 397 _ _ SHF _
  refine AW.aload_n (dq rfl) rfl rfl ?_
  show AW l (pI pg 248) P (kc + 2) (ks + 12) 398 _ _ SHF _
  refine AW.iload (dq rfl) rfl ?_
  show AW l (pI pg 248) P (kc + 2) (ks + 12) 400 _ _ SHF _
  refine AW.iconst (dq rfl) ?_
  show AW l (pI pg 248) P (kc + 2) (ks + 12) 401 _ _ SHF _
  refine AW.iadd (dq rfl) ?_
  show AW l (pI pg 248) P (kc + 2) (ks + 12) 402 _ _ SHF _
  refine AW.sld hG (dq rfl) rfl (o2) ?_
  show AW l (pI pg 248) P (kc + 2) (ks + 12) 403 _ _ SHF _
  refine AW.aload_n (dq rfl) rfl rfl ?_
  show AW l (pI pg 248) P (kc + 2) (ks + 12) 404 _ _ SHF _
  refine gl_callH (as := [.ref 0, .int (xs ((nI i) + (Int32.ofInt 1)).toNatClampNeg), .int (xs ((nI i) + (Int32.ofInt 2)).toNatClampNeg), .ref 93]) (dq rfl) (pg_ok.2.2.1 248 _ _ _ _ rfl) (by decide +kernel) rfl rfl (c4) (fun y3 M3 q3 => ?_)
  show AW l (pI pg 248) P kc ks 407 [(4, .int (nI i)), (0, .retAddr 0), (1, .ref 0), (2, .ref 58), (3, .ref 93)] [.int (y3)] SHF _
  refine AW.istore (dq rfl) (by decide +kernel) ?_
  show AW l (pI pg 248) P kc ks 409 [(5, .int (y3)), (4, .int (nI i)), (0, .retAddr 0), (1, .ref 0), (2, .ref 58), (3, .ref 93)] [] SHF _
  refine AW.aload_n (dq rfl) rfl rfl ?_
  show AW l (pI pg 248) P kc ks 410 _ _ SHF _
  refine AW.aload_n (dq rfl) rfl rfl ?_
  show AW l (pI pg 248) P kc ks 411 _ _ SHF _
  refine AW.iload (dq rfl) rfl ?_
  show AW l (pI pg 248) P kc ks 413 _ _ SHF _
  refine AW.iconst (dq rfl) ?_
  show AW l (pI pg 248) P kc ks 414 _ _ SHF _
  refine AW.iadd (dq rfl) ?_
  show AW l (pI pg 248) P kc ks 415 _ _ SHF _
  refine AW.sld hG (dq rfl) rfl (o1) ?_
  show AW l (pI pg 248) P kc ks 416 _ _ SHF _
  refine AW.aload_n (dq rfl) rfl rfl ?_
  show AW l (pI pg 248) P kc ks 417 _ _ SHF _
  refine AW.iload (dq rfl) rfl ?_
  show AW l (pI pg 248) P kc ks 419 _ _ SHF _
  refine AW.iconst (dq rfl) ?_
  show AW l (pI pg 248) P kc ks 420 _ _ SHF _
  refine AW.iadd (dq rfl) ?_
  show AW l (pI pg 248) P kc ks 421 _ _ SHF _
  refine AW.sld hG (dq rfl) rfl (o2) ?_
  show AW l (pI pg 248) P kc ks 422 _ _ SHF _
  refine gl_callVI (as := [.int (xs ((nI i) + (Int32.ofInt 1)).toNatClampNeg), .int (xs ((nI i) + (Int32.ofInt 2)).toNatClampNeg)]) (dq rfl) (pg_ok.2.2.1 248 _ _ _ _ rfl) rfl (by decide +kernel) rfl rfl (c6 y3 M3 q3) (fun y5 M5 q5 => ?_)
  show AW l (pI pg 248) P kc ks 425 [(5, .int (y3)), (4, .int (nI i)), (0, .retAddr 0), (1, .ref 0), (2, .ref 58), (3, .ref 93)] [.int (y5)] SHF _
  refine AW.istore (dq rfl) (by decide +kernel) ?_
  show AW l (pI pg 248) P kc ks 427 [(6, .int (y5)), (5, .int (y3)), (4, .int (nI i)), (0, .retAddr 0), (1, .ref 0), (2, .ref 58), (3, .ref 93)] [] SHF _
  refine AW.goto (dq rfl) (tgt := 1093) (by decide) ?_
  refine AW.drop (lv' := [(4, .int (nI i)), (0, .retAddr 0), (1, .ref 0), (2, .ref 58), (3, .ref 93)]) (List.forall_mem_cons.mpr ⟨List.mem_of_getElem? (i := 2) rfl, List.forall_mem_cons.mpr ⟨List.mem_of_getElem? (i := 3) rfl, List.forall_mem_cons.mpr ⟨List.mem_of_getElem? (i := 4) rfl, List.forall_mem_cons.mpr ⟨List.mem_of_getElem? (i := 5) rfl, List.forall_mem_cons.mpr ⟨List.mem_of_getElem? (i := 6) rfl, fun _ h => absurd h List.not_mem_nil⟩⟩⟩⟩⟩) ?_
  exact k7 y3 M3 q3 y5 M5 q5

theorem lw_c7 {l : aL} {P : aP} {kc ks : Nat} {i L : Nat} {xs : Nat → Int32} {M : aM}  (hG : ∀ G, l.2 G → scOk (some L, fun _ => none, [], []) xs G) (o1 : vp_in ((nI i) + (Int32.ofInt 1)) L) (o2 : vp_in ((nI i) + (Int32.ofInt 2)) L) (Q3 : Int32 → aM → Prop) (c4 : ∀ hh, iT (pI pg 96) = tableOf hh → ACH l (pI pg 96) hh (gcI Q3) 2 12 [.ref 0, .int (xs ((nI i) + (Int32.ofInt 1)).toNatClampNeg), .int (xs ((nI i) + (Int32.ofInt 2)).toNatClampNeg), .ref 93] SHF M) (Q5 : Int32 → aM → Int32 → aM → Prop) (c6 : ∀ (y3 : Int32), ∀ (M3 : aM), ∀ (q3 : Q3 y3 M3), AC l (pI pg 201) (gcI (Q5 y3 M3)) 0 0 [.ref 58, .int (xs ((nI i) + (Int32.ofInt 1)).toNatClampNeg), .int (xs ((nI i) + (Int32.ofInt 2)).toNatClampNeg)] SHF M3) (k7 : ∀ (y3 : Int32), ∀ (M3 : aM), ∀ (q3 : Q3 y3 M3), ∀ (y5 : Int32), ∀ (M5 : aM), ∀ (q5 : (Q5 y3 M3) y5 M5), AW l (pI pg 248) P kc ks 1093 [(4, .int (nI i)), (0, .retAddr 0), (1, .ref 0), (2, .ref 58), (3, .ref 93)] [] SHF M5) : AW l (pI pg 248) P (kc + 2) (ks + 12) 430 [(4, .int (nI i)), (0, .retAddr 0), (1, .ref 0), (2, .ref 58), (3, .ref 93)] [] SHF M := by
  refine AW.aload_n (dq rfl) rfl rfl ?_
  show AW l (pI pg 248) P (kc + 2) (ks + 12) 431 _ _ SHF _
  refine AW.aload_n (dq rfl) rfl rfl ?_
  show AW l (pI pg 248) P (kc + 2) (ks + 12) 432 _ _ SHF _
  refine AW.iload (dq rfl) rfl ?_
  show AW l (pI pg 248) P (kc + 2) (ks + 12) 434 _ _ SHF _
  refine AW.iconst (dq rfl) ?_
  show AW l (pI pg 248) P (kc + 2) (ks + 12) 435 _ _ SHF _
  refine AW.iadd (dq rfl) ?_
  show AW l (pI pg 248) P (kc + 2) (ks + 12) 436 _ _ SHF _
  refine AW.sld hG (dq rfl) rfl (o1) ?_
  show AW l (pI pg 248) P (kc + 2) (ks + 12) 437 _ _ SHF _
  refine AW.aload_n (dq rfl) rfl rfl ?_
  show AW l (pI pg 248) P (kc + 2) (ks + 12) 438 _ _ SHF _
  refine AW.iload (dq rfl) rfl ?_
  show AW l (pI pg 248) P (kc + 2) (ks + 12) 440 _ _ SHF _
  refine AW.iconst (dq rfl) ?_
  show AW l (pI pg 248) P (kc + 2) (ks + 12) 441 _ _ SHF _
  refine AW.iadd (dq rfl) ?_
  show AW l (pI pg 248) P (kc + 2) (ks + 12) 442 _ _ SHF _
  refine AW.sld hG (dq rfl) rfl (o2) ?_
  show AW l (pI pg 248) P (kc + 2) (ks + 12) 443 _ _ SHF _
  refine AW.aload_n (dq rfl) rfl rfl ?_
  show AW l (pI pg 248) P (kc + 2) (ks + 12) 444 _ _ SHF _
  refine gl_callH (as := [.ref 0, .int (xs ((nI i) + (Int32.ofInt 1)).toNatClampNeg), .int (xs ((nI i) + (Int32.ofInt 2)).toNatClampNeg), .ref 93]) (dq rfl) (pg_ok.2.2.1 248 _ _ _ _ rfl) (by decide +kernel) rfl rfl (c4) (fun y3 M3 q3 => ?_)
  show AW l (pI pg 248) P kc ks 447 [(4, .int (nI i)), (0, .retAddr 0), (1, .ref 0), (2, .ref 58), (3, .ref 93)] [.int (y3)] SHF _
  refine AW.istore (dq rfl) (by decide +kernel) ?_
  show AW l (pI pg 248) P kc ks 449 [(5, .int (y3)), (4, .int (nI i)), (0, .retAddr 0), (1, .ref 0), (2, .ref 58), (3, .ref 93)] [] SHF _
  refine AW.aload_n (dq rfl) rfl rfl ?_
  show AW l (pI pg 248) P kc ks 450 _ _ SHF _
  refine AW.aload_n (dq rfl) rfl rfl ?_
  show AW l (pI pg 248) P kc ks 451 _ _ SHF _
  refine AW.iload (dq rfl) rfl ?_
  show AW l (pI pg 248) P kc ks 453 _ _ SHF _
  refine AW.iconst (dq rfl) ?_
  show AW l (pI pg 248) P kc ks 454 _ _ SHF _
  refine AW.iadd (dq rfl) ?_
  show AW l (pI pg 248) P kc ks 455 _ _ SHF _
  refine AW.sld hG (dq rfl) rfl (o1) ?_
  show AW l (pI pg 248) P kc ks 456 _ _ SHF _
  refine AW.aload_n (dq rfl) rfl rfl ?_
  show AW l (pI pg 248) P kc ks 457 _ _ SHF _
  refine AW.iload (dq rfl) rfl ?_
  show AW l (pI pg 248) P kc ks 459 _ _ SHF _
  refine AW.iconst (dq rfl) ?_
  show AW l (pI pg 248) P kc ks 460 _ _ SHF _
  refine AW.iadd (dq rfl) ?_
  show AW l (pI pg 248) P kc ks 461 _ _ SHF _
  refine AW.sld hG (dq rfl) rfl (o2) ?_
  show AW l (pI pg 248) P kc ks 462 _ _ SHF _
  refine gl_callVI (as := [.int (xs ((nI i) + (Int32.ofInt 1)).toNatClampNeg), .int (xs ((nI i) + (Int32.ofInt 2)).toNatClampNeg)]) (dq rfl) (pg_ok.2.2.1 248 _ _ _ _ rfl) rfl (by decide +kernel) rfl rfl (c6 y3 M3 q3) (fun y5 M5 q5 => ?_)
  show AW l (pI pg 248) P kc ks 465 [(5, .int (y3)), (4, .int (nI i)), (0, .retAddr 0), (1, .ref 0), (2, .ref 58), (3, .ref 93)] [.int (y5)] SHF _
  refine AW.istore (dq rfl) (by decide +kernel) ?_
  show AW l (pI pg 248) P kc ks 467 [(6, .int (y5)), (5, .int (y3)), (4, .int (nI i)), (0, .retAddr 0), (1, .ref 0), (2, .ref 58), (3, .ref 93)] [] SHF _
  refine AW.goto (dq rfl) (tgt := 1093) (by decide) ?_
  refine AW.drop (lv' := [(4, .int (nI i)), (0, .retAddr 0), (1, .ref 0), (2, .ref 58), (3, .ref 93)]) (List.forall_mem_cons.mpr ⟨List.mem_of_getElem? (i := 2) rfl, List.forall_mem_cons.mpr ⟨List.mem_of_getElem? (i := 3) rfl, List.forall_mem_cons.mpr ⟨List.mem_of_getElem? (i := 4) rfl, List.forall_mem_cons.mpr ⟨List.mem_of_getElem? (i := 5) rfl, List.forall_mem_cons.mpr ⟨List.mem_of_getElem? (i := 6) rfl, fun _ h => absurd h List.not_mem_nil⟩⟩⟩⟩⟩) ?_
  exact k7 y3 M3 q3 y5 M5 q5

theorem lw_c8 {l : aL} {P : aP} {kc ks : Nat} {i L : Nat} {xs : Nat → Int32} {M : aM}  (hG : ∀ G, l.2 G → scOk (some L, fun _ => none, [], []) xs G) (o1 : vp_in ((nI i) + (Int32.ofInt 1)) L) (Q2 : Int32 → aM → Prop) (c3 : ∀ hh, iT (pI pg 98) = tableOf hh → ACH l (pI pg 98) hh (gcI Q2) 2 12 [.ref 0, .int (xs ((nI i) + (Int32.ofInt 1)).toNatClampNeg), .ref 93] SHF M) (Q4 : Int32 → aM → Int32 → aM → Prop) (c5 : ∀ (y2 : Int32), ∀ (M2 : aM), ∀ (q2 : Q2 y2 M2), AC l (pI pg 202) (gcI (Q4 y2 M2)) 0 0 [.ref 58, .int (xs ((nI i) + (Int32.ofInt 1)).toNatClampNeg)] SHF M2) (k6 : ∀ (y2 : Int32), ∀ (M2 : aM), ∀ (q2 : Q2 y2 M2), ∀ (y4 : Int32), ∀ (M4 : aM), ∀ (q4 : (Q4 y2 M2) y4 M4), AW l (pI pg 248) P kc ks 1093 [(4, .int (nI i)), (0, .retAddr 0), (1, .ref 0), (2, .ref 58), (3, .ref 93)] [] SHF M4) : AW l (pI pg 248) P (kc + 2) (ks + 12) 470 [(4, .int (nI i)), (0, .retAddr 0), (1, .ref 0), (2, .ref 58), (3, .ref 93)] [] SHF M := by
  refine AW.aload_n (dq rfl) rfl rfl ?_
  show AW l (pI pg 248) P (kc + 2) (ks + 12) 471 _ _ SHF _
  refine AW.aload_n (dq rfl) rfl rfl ?_
  show AW l (pI pg 248) P (kc + 2) (ks + 12) 472 _ _ SHF _
  refine AW.iload (dq rfl) rfl ?_
  show AW l (pI pg 248) P (kc + 2) (ks + 12) 474 _ _ SHF _
  refine AW.iconst (dq rfl) ?_
  show AW l (pI pg 248) P (kc + 2) (ks + 12) 475 _ _ SHF _
  refine AW.iadd (dq rfl) ?_
  show AW l (pI pg 248) P (kc + 2) (ks + 12) 476 _ _ SHF _
  refine AW.sld hG (dq rfl) rfl (o1) ?_
  show AW l (pI pg 248) P (kc + 2) (ks + 12) 477 _ _ SHF _
  refine AW.aload_n (dq rfl) rfl rfl ?_
  show AW l (pI pg 248) P (kc + 2) (ks + 12) 478 _ _ SHF _
  refine gl_callH (as := [.ref 0, .int (xs ((nI i) + (Int32.ofInt 1)).toNatClampNeg), .ref 93]) (dq rfl) (pg_ok.2.2.1 248 _ _ _ _ rfl) (by decide +kernel) rfl rfl (c3) (fun y2 M2 q2 => ?_)
  show AW l (pI pg 248) P kc ks 481 [(4, .int (nI i)), (0, .retAddr 0), (1, .ref 0), (2, .ref 58), (3, .ref 93)] [.int (y2)] SHF _
  refine AW.istore (dq rfl) (by decide +kernel) ?_
  show AW l (pI pg 248) P kc ks 483 [(5, .int (y2)), (4, .int (nI i)), (0, .retAddr 0), (1, .ref 0), (2, .ref 58), (3, .ref 93)] [] SHF _
  refine AW.aload_n (dq rfl) rfl rfl ?_
  show AW l (pI pg 248) P kc ks 484 _ _ SHF _
  refine AW.aload_n (dq rfl) rfl rfl ?_
  show AW l (pI pg 248) P kc ks 485 _ _ SHF _
  refine AW.iload (dq rfl) rfl ?_
  show AW l (pI pg 248) P kc ks 487 _ _ SHF _
  refine AW.iconst (dq rfl) ?_
  show AW l (pI pg 248) P kc ks 488 _ _ SHF _
  refine AW.iadd (dq rfl) ?_
  show AW l (pI pg 248) P kc ks 489 _ _ SHF _
  refine AW.sld hG (dq rfl) rfl (o1) ?_
  show AW l (pI pg 248) P kc ks 490 _ _ SHF _
  refine gl_callVI (as := [.int (xs ((nI i) + (Int32.ofInt 1)).toNatClampNeg)]) (dq rfl) (pg_ok.2.2.1 248 _ _ _ _ rfl) rfl (by decide +kernel) rfl rfl (c5 y2 M2 q2) (fun y4 M4 q4 => ?_)
  show AW l (pI pg 248) P kc ks 493 [(5, .int (y2)), (4, .int (nI i)), (0, .retAddr 0), (1, .ref 0), (2, .ref 58), (3, .ref 93)] [.int (y4)] SHF _
  refine AW.istore (dq rfl) (by decide +kernel) ?_
  show AW l (pI pg 248) P kc ks 495 [(6, .int (y4)), (5, .int (y2)), (4, .int (nI i)), (0, .retAddr 0), (1, .ref 0), (2, .ref 58), (3, .ref 93)] [] SHF _
  refine AW.goto (dq rfl) (tgt := 1093) (by decide) ?_
  refine AW.drop (lv' := [(4, .int (nI i)), (0, .retAddr 0), (1, .ref 0), (2, .ref 58), (3, .ref 93)]) (List.forall_mem_cons.mpr ⟨List.mem_of_getElem? (i := 2) rfl, List.forall_mem_cons.mpr ⟨List.mem_of_getElem? (i := 3) rfl, List.forall_mem_cons.mpr ⟨List.mem_of_getElem? (i := 4) rfl, List.forall_mem_cons.mpr ⟨List.mem_of_getElem? (i := 5) rfl, List.forall_mem_cons.mpr ⟨List.mem_of_getElem? (i := 6) rfl, fun _ h => absurd h List.not_mem_nil⟩⟩⟩⟩⟩) ?_
  exact k6 y2 M2 q2 y4 M4 q4

theorem lw_c9 {l : aL} {P : aP} {kc ks : Nat} {i L : Nat} {xs : Nat → Int32} {M : aM}  (hG : ∀ G, l.2 G → scOk (some L, fun _ => none, [], []) xs G) (o1 : vp_in ((nI i) + (Int32.ofInt 1)) L) (Q2 : Int32 → aM → Prop) (c3 : ∀ hh, iT (pI pg 110) = tableOf hh → ACH l (pI pg 110) hh (gcI Q2) 2 12 [.ref 0, .int (xs ((nI i) + (Int32.ofInt 1)).toNatClampNeg), .ref 93] SHF M) (Q4 : Int32 → aM → Int32 → aM → Prop) (c5 : ∀ (y2 : Int32), ∀ (M2 : aM), ∀ (q2 : Q2 y2 M2), AC l (pI pg 214) (gcI (Q4 y2 M2)) 0 0 [.ref 58, .int (xs ((nI i) + (Int32.ofInt 1)).toNatClampNeg)] SHF M2) (k6 : ∀ (y2 : Int32), ∀ (M2 : aM), ∀ (q2 : Q2 y2 M2), ∀ (y4 : Int32), ∀ (M4 : aM), ∀ (q4 : (Q4 y2 M2) y4 M4), AW l (pI pg 248) P kc ks 1093 [(4, .int (nI i)), (0, .retAddr 0), (1, .ref 0), (2, .ref 58), (3, .ref 93)] [] SHF M4) : AW l (pI pg 248) P (kc + 2) (ks + 12) 498 [(4, .int (nI i)), (0, .retAddr 0), (1, .ref 0), (2, .ref 58), (3, .ref 93)] [] SHF M := by
  refine AW.aload_n (dq rfl) rfl rfl ?_
  show AW l (pI pg 248) P (kc + 2) (ks + 12) 499 _ _ SHF _
  refine AW.aload_n (dq rfl) rfl rfl ?_
  show AW l (pI pg 248) P (kc + 2) (ks + 12) 500 _ _ SHF _
  refine AW.iload (dq rfl) rfl ?_
  show AW l (pI pg 248) P (kc + 2) (ks + 12) 502 _ _ SHF _
  refine AW.iconst (dq rfl) ?_
  show AW l (pI pg 248) P (kc + 2) (ks + 12) 503 _ _ SHF _
  refine AW.iadd (dq rfl) ?_
  show AW l (pI pg 248) P (kc + 2) (ks + 12) 504 _ _ SHF _
  refine AW.sld hG (dq rfl) rfl (o1) ?_
  show AW l (pI pg 248) P (kc + 2) (ks + 12) 505 _ _ SHF _
  refine AW.aload_n (dq rfl) rfl rfl ?_
  show AW l (pI pg 248) P (kc + 2) (ks + 12) 506 _ _ SHF _
  refine gl_callH (as := [.ref 0, .int (xs ((nI i) + (Int32.ofInt 1)).toNatClampNeg), .ref 93]) (dq rfl) (pg_ok.2.2.1 248 _ _ _ _ rfl) (by decide +kernel) rfl rfl (c3) (fun y2 M2 q2 => ?_)
  show AW l (pI pg 248) P kc ks 509 [(4, .int (nI i)), (0, .retAddr 0), (1, .ref 0), (2, .ref 58), (3, .ref 93)] [.int (y2)] SHF _
  refine AW.istore (dq rfl) (by decide +kernel) ?_
  show AW l (pI pg 248) P kc ks 511 [(5, .int (y2)), (4, .int (nI i)), (0, .retAddr 0), (1, .ref 0), (2, .ref 58), (3, .ref 93)] [] SHF _
  refine AW.aload_n (dq rfl) rfl rfl ?_
  show AW l (pI pg 248) P kc ks 512 _ _ SHF _
  refine AW.aload_n (dq rfl) rfl rfl ?_
  show AW l (pI pg 248) P kc ks 513 _ _ SHF _
  refine AW.iload (dq rfl) rfl ?_
  show AW l (pI pg 248) P kc ks 515 _ _ SHF _
  refine AW.iconst (dq rfl) ?_
  show AW l (pI pg 248) P kc ks 516 _ _ SHF _
  refine AW.iadd (dq rfl) ?_
  show AW l (pI pg 248) P kc ks 517 _ _ SHF _
  refine AW.sld hG (dq rfl) rfl (o1) ?_
  show AW l (pI pg 248) P kc ks 518 _ _ SHF _
  refine gl_callVI (as := [.int (xs ((nI i) + (Int32.ofInt 1)).toNatClampNeg)]) (dq rfl) (pg_ok.2.2.1 248 _ _ _ _ rfl) rfl (by decide +kernel) rfl rfl (c5 y2 M2 q2) (fun y4 M4 q4 => ?_)
  show AW l (pI pg 248) P kc ks 521 [(5, .int (y2)), (4, .int (nI i)), (0, .retAddr 0), (1, .ref 0), (2, .ref 58), (3, .ref 93)] [.int (y4)] SHF _
  refine AW.istore (dq rfl) (by decide +kernel) ?_
  show AW l (pI pg 248) P kc ks 523 [(6, .int (y4)), (5, .int (y2)), (4, .int (nI i)), (0, .retAddr 0), (1, .ref 0), (2, .ref 58), (3, .ref 93)] [] SHF _
  refine AW.goto (dq rfl) (tgt := 1093) (by decide) ?_
  refine AW.drop (lv' := [(4, .int (nI i)), (0, .retAddr 0), (1, .ref 0), (2, .ref 58), (3, .ref 93)]) (List.forall_mem_cons.mpr ⟨List.mem_of_getElem? (i := 2) rfl, List.forall_mem_cons.mpr ⟨List.mem_of_getElem? (i := 3) rfl, List.forall_mem_cons.mpr ⟨List.mem_of_getElem? (i := 4) rfl, List.forall_mem_cons.mpr ⟨List.mem_of_getElem? (i := 5) rfl, List.forall_mem_cons.mpr ⟨List.mem_of_getElem? (i := 6) rfl, fun _ h => absurd h List.not_mem_nil⟩⟩⟩⟩⟩) ?_
  exact k6 y2 M2 q2 y4 M4 q4

theorem lw_c10 {l : aL} {P : aP} {kc ks : Nat} {i L : Nat} {xs : Nat → Int32} {M : aM}  (hG : ∀ G, l.2 G → scOk (some L, fun _ => none, [], []) xs G) (o1 : vp_in ((nI i) + (Int32.ofInt 1)) L) (Q2 : Int32 → aM → Prop) (c3 : ∀ hh, iT (pI pg 113) = tableOf hh → ACH l (pI pg 113) hh (gcI Q2) 2 12 [.ref 0, .int (xs ((nI i) + (Int32.ofInt 1)).toNatClampNeg), .ref 93] SHF M) (Q4 : Int32 → aM → Int32 → aM → Prop) (c5 : ∀ (y2 : Int32), ∀ (M2 : aM), ∀ (q2 : Q2 y2 M2), AC l (pI pg 215) (gcI (Q4 y2 M2)) 0 0 [.ref 58, .int (xs ((nI i) + (Int32.ofInt 1)).toNatClampNeg)] SHF M2) (k6 : ∀ (y2 : Int32), ∀ (M2 : aM), ∀ (q2 : Q2 y2 M2), ∀ (y4 : Int32), ∀ (M4 : aM), ∀ (q4 : (Q4 y2 M2) y4 M4), AW l (pI pg 248) P kc ks 1093 [(4, .int (nI i)), (0, .retAddr 0), (1, .ref 0), (2, .ref 58), (3, .ref 93)] [] SHF M4) : AW l (pI pg 248) P (kc + 2) (ks + 12) 526 [(4, .int (nI i)), (0, .retAddr 0), (1, .ref 0), (2, .ref 58), (3, .ref 93)] [] SHF M := by
  refine AW.aload_n (dq rfl) rfl rfl ?_
  show AW l (pI pg 248) P (kc + 2) (ks + 12) 527 _ _ SHF _
  refine AW.aload_n (dq rfl) rfl rfl ?_
  show AW l (pI pg 248) P (kc + 2) (ks + 12) 528 _ _ SHF _
  refine AW.iload (dq rfl) rfl ?_
  show AW l (pI pg 248) P (kc + 2) (ks + 12) 530 _ _ SHF _
  refine AW.iconst (dq rfl) ?_
  show AW l (pI pg 248) P (kc + 2) (ks + 12) 531 _ _ SHF _
  refine AW.iadd (dq rfl) ?_
  show AW l (pI pg 248) P (kc + 2) (ks + 12) 532 _ _ SHF _
  refine AW.sld hG (dq rfl) rfl (o1) ?_
  show AW l (pI pg 248) P (kc + 2) (ks + 12) 533 _ _ SHF _
  refine AW.aload_n (dq rfl) rfl rfl ?_
  show AW l (pI pg 248) P (kc + 2) (ks + 12) 534 _ _ SHF _
  refine gl_callH (as := [.ref 0, .int (xs ((nI i) + (Int32.ofInt 1)).toNatClampNeg), .ref 93]) (dq rfl) (pg_ok.2.2.1 248 _ _ _ _ rfl) (by decide +kernel) rfl rfl (c3) (fun y2 M2 q2 => ?_)
  show AW l (pI pg 248) P kc ks 537 [(4, .int (nI i)), (0, .retAddr 0), (1, .ref 0), (2, .ref 58), (3, .ref 93)] [.int (y2)] SHF _
  refine AW.istore (dq rfl) (by decide +kernel) ?_
  show AW l (pI pg 248) P kc ks 539 [(5, .int (y2)), (4, .int (nI i)), (0, .retAddr 0), (1, .ref 0), (2, .ref 58), (3, .ref 93)] [] SHF _
  refine AW.aload_n (dq rfl) rfl rfl ?_
  show AW l (pI pg 248) P kc ks 540 _ _ SHF _
  refine AW.aload_n (dq rfl) rfl rfl ?_
  show AW l (pI pg 248) P kc ks 541 _ _ SHF _
  refine AW.iload (dq rfl) rfl ?_
  show AW l (pI pg 248) P kc ks 543 _ _ SHF _
  refine AW.iconst (dq rfl) ?_
  show AW l (pI pg 248) P kc ks 544 _ _ SHF _
  refine AW.iadd (dq rfl) ?_
  show AW l (pI pg 248) P kc ks 545 _ _ SHF _
  refine AW.sld hG (dq rfl) rfl (o1) ?_
  show AW l (pI pg 248) P kc ks 546 _ _ SHF _
  refine gl_callVI (as := [.int (xs ((nI i) + (Int32.ofInt 1)).toNatClampNeg)]) (dq rfl) (pg_ok.2.2.1 248 _ _ _ _ rfl) rfl (by decide +kernel) rfl rfl (c5 y2 M2 q2) (fun y4 M4 q4 => ?_)
  show AW l (pI pg 248) P kc ks 549 [(5, .int (y2)), (4, .int (nI i)), (0, .retAddr 0), (1, .ref 0), (2, .ref 58), (3, .ref 93)] [.int (y4)] SHF _
  refine AW.istore (dq rfl) (by decide +kernel) ?_
  show AW l (pI pg 248) P kc ks 551 [(6, .int (y4)), (5, .int (y2)), (4, .int (nI i)), (0, .retAddr 0), (1, .ref 0), (2, .ref 58), (3, .ref 93)] [] SHF _
  refine AW.goto (dq rfl) (tgt := 1093) (by decide) ?_
  refine AW.drop (lv' := [(4, .int (nI i)), (0, .retAddr 0), (1, .ref 0), (2, .ref 58), (3, .ref 93)]) (List.forall_mem_cons.mpr ⟨List.mem_of_getElem? (i := 2) rfl, List.forall_mem_cons.mpr ⟨List.mem_of_getElem? (i := 3) rfl, List.forall_mem_cons.mpr ⟨List.mem_of_getElem? (i := 4) rfl, List.forall_mem_cons.mpr ⟨List.mem_of_getElem? (i := 5) rfl, List.forall_mem_cons.mpr ⟨List.mem_of_getElem? (i := 6) rfl, fun _ h => absurd h List.not_mem_nil⟩⟩⟩⟩⟩) ?_
  exact k6 y2 M2 q2 y4 M4 q4

theorem lw_c11 {l : aL} {P : aP} {kc ks : Nat} {i L : Nat} {xs : Nat → Int32} {M : aM}  (hG : ∀ G, l.2 G → scOk (some L, fun _ => none, [], []) xs G) (o1 : vp_in ((nI i) + (Int32.ofInt 1)) L) (Q2 : Int32 → aM → Prop) (c3 : ∀ hh, iT (pI pg 116) = tableOf hh → ACH l (pI pg 116) hh (gcI Q2) 2 12 [.ref 0, .int (xs ((nI i) + (Int32.ofInt 1)).toNatClampNeg), .ref 93] SHF M) (Q4 : Int32 → aM → Int32 → aM → Prop) (c5 : ∀ (y2 : Int32), ∀ (M2 : aM), ∀ (q2 : Q2 y2 M2), AC l (pI pg 218) (gcI (Q4 y2 M2)) 0 0 [.ref 58, .int (xs ((nI i) + (Int32.ofInt 1)).toNatClampNeg)] SHF M2) (k6 : ∀ (y2 : Int32), ∀ (M2 : aM), ∀ (q2 : Q2 y2 M2), ∀ (y4 : Int32), ∀ (M4 : aM), ∀ (q4 : (Q4 y2 M2) y4 M4), AW l (pI pg 248) P kc ks 1093 [(4, .int (nI i)), (0, .retAddr 0), (1, .ref 0), (2, .ref 58), (3, .ref 93)] [] SHF M4) : AW l (pI pg 248) P (kc + 2) (ks + 12) 554 [(4, .int (nI i)), (0, .retAddr 0), (1, .ref 0), (2, .ref 58), (3, .ref 93)] [] SHF M := by
  refine AW.aload_n (dq rfl) rfl rfl ?_
  show AW l (pI pg 248) P (kc + 2) (ks + 12) 555 _ _ SHF _
  refine AW.aload_n (dq rfl) rfl rfl ?_
  show AW l (pI pg 248) P (kc + 2) (ks + 12) 556 _ _ SHF _
  refine AW.iload (dq rfl) rfl ?_
  show AW l (pI pg 248) P (kc + 2) (ks + 12) 558 _ _ SHF _
  refine AW.iconst (dq rfl) ?_
  show AW l (pI pg 248) P (kc + 2) (ks + 12) 559 _ _ SHF _
  refine AW.iadd (dq rfl) ?_
  show AW l (pI pg 248) P (kc + 2) (ks + 12) 560 _ _ SHF _
  refine AW.sld hG (dq rfl) rfl (o1) ?_
  show AW l (pI pg 248) P (kc + 2) (ks + 12) 561 _ _ SHF _
  refine AW.aload_n (dq rfl) rfl rfl ?_
  show AW l (pI pg 248) P (kc + 2) (ks + 12) 562 _ _ SHF _
  refine gl_callH (as := [.ref 0, .int (xs ((nI i) + (Int32.ofInt 1)).toNatClampNeg), .ref 93]) (dq rfl) (pg_ok.2.2.1 248 _ _ _ _ rfl) (by decide +kernel) rfl rfl (c3) (fun y2 M2 q2 => ?_)
  show AW l (pI pg 248) P kc ks 565 [(4, .int (nI i)), (0, .retAddr 0), (1, .ref 0), (2, .ref 58), (3, .ref 93)] [.int (y2)] SHF _
  refine AW.istore (dq rfl) (by decide +kernel) ?_
  show AW l (pI pg 248) P kc ks 567 [(5, .int (y2)), (4, .int (nI i)), (0, .retAddr 0), (1, .ref 0), (2, .ref 58), (3, .ref 93)] [] SHF _
  refine AW.aload_n (dq rfl) rfl rfl ?_
  show AW l (pI pg 248) P kc ks 568 _ _ SHF _
  refine AW.aload_n (dq rfl) rfl rfl ?_
  show AW l (pI pg 248) P kc ks 569 _ _ SHF _
  refine AW.iload (dq rfl) rfl ?_
  show AW l (pI pg 248) P kc ks 571 _ _ SHF _
  refine AW.iconst (dq rfl) ?_
  show AW l (pI pg 248) P kc ks 572 _ _ SHF _
  refine AW.iadd (dq rfl) ?_
  show AW l (pI pg 248) P kc ks 573 _ _ SHF _
  refine AW.sld hG (dq rfl) rfl (o1) ?_
  show AW l (pI pg 248) P kc ks 574 _ _ SHF _
  refine gl_callVI (as := [.int (xs ((nI i) + (Int32.ofInt 1)).toNatClampNeg)]) (dq rfl) (pg_ok.2.2.1 248 _ _ _ _ rfl) rfl (by decide +kernel) rfl rfl (c5 y2 M2 q2) (fun y4 M4 q4 => ?_)
  show AW l (pI pg 248) P kc ks 577 [(5, .int (y2)), (4, .int (nI i)), (0, .retAddr 0), (1, .ref 0), (2, .ref 58), (3, .ref 93)] [.int (y4)] SHF _
  refine AW.istore (dq rfl) (by decide +kernel) ?_
  show AW l (pI pg 248) P kc ks 579 [(6, .int (y4)), (5, .int (y2)), (4, .int (nI i)), (0, .retAddr 0), (1, .ref 0), (2, .ref 58), (3, .ref 93)] [] SHF _
  refine AW.goto (dq rfl) (tgt := 1093) (by decide) ?_
  refine AW.drop (lv' := [(4, .int (nI i)), (0, .retAddr 0), (1, .ref 0), (2, .ref 58), (3, .ref 93)]) (List.forall_mem_cons.mpr ⟨List.mem_of_getElem? (i := 2) rfl, List.forall_mem_cons.mpr ⟨List.mem_of_getElem? (i := 3) rfl, List.forall_mem_cons.mpr ⟨List.mem_of_getElem? (i := 4) rfl, List.forall_mem_cons.mpr ⟨List.mem_of_getElem? (i := 5) rfl, List.forall_mem_cons.mpr ⟨List.mem_of_getElem? (i := 6) rfl, fun _ h => absurd h List.not_mem_nil⟩⟩⟩⟩⟩) ?_
  exact k6 y2 M2 q2 y4 M4 q4

theorem lw_c12 {l : aL} {P : aP} {kc ks : Nat} {i L : Nat} {xs : Nat → Int32} {M : aM}  (hG : ∀ G, l.2 G → scOk (some L, fun _ => none, [], []) xs G) (o1 : vp_in ((nI i) + (Int32.ofInt 1)) L) (o2 : vp_in ((nI i) + (Int32.ofInt 2)) L) (Q3 : Int32 → aM → Prop) (c4 : AC l (pI pg 27) (gcI Q3) 2 12 [.ref 0, .int (xs ((nI i) + (Int32.ofInt 1)).toNatClampNeg), .int (xs ((nI i) + (Int32.ofInt 2)).toNatClampNeg)] SHF M) (Q5 : Int32 → aM → Int32 → aM → Prop) (c6 : ∀ (y3 : Int32), ∀ (M3 : aM), ∀ (q3 : Q3 y3 M3), AC l (pI pg 219) (gcI (Q5 y3 M3)) 0 0 [.ref 58, .int (xs ((nI i) + (Int32.ofInt 1)).toNatClampNeg), .int (xs ((nI i) + (Int32.ofInt 2)).toNatClampNeg)] SHF M3) (k7 : ∀ (y3 : Int32), ∀ (M3 : aM), ∀ (q3 : Q3 y3 M3), ∀ (y5 : Int32), ∀ (M5 : aM), ∀ (q5 : (Q5 y3 M3) y5 M5), AW l (pI pg 248) P kc ks 1093 [(4, .int (nI i)), (0, .retAddr 0), (1, .ref 0), (2, .ref 58), (3, .ref 93)] [] SHF M5) : AW l (pI pg 248) P (kc + 2) (ks + 12) 582 [(4, .int (nI i)), (0, .retAddr 0), (1, .ref 0), (2, .ref 58), (3, .ref 93)] [] SHF M := by
  refine AW.aload_n (dq rfl) rfl rfl ?_
  show AW l (pI pg 248) P (kc + 2) (ks + 12) 583 _ _ SHF _
  refine AW.aload_n (dq rfl) rfl rfl ?_
  show AW l (pI pg 248) P (kc + 2) (ks + 12) 584 _ _ SHF _
  refine AW.iload (dq rfl) rfl ?_
  show AW l (pI pg 248) P (kc + 2) (ks + 12) 586 _ _ SHF _
  refine AW.iconst (dq rfl) ?_
  show AW l (pI pg 248) P (kc + 2) (ks + 12) 587 _ _ SHF _
  refine AW.iadd (dq rfl) ?_
  show AW l (pI pg 248) P (kc + 2) (ks + 12) 588 _ _ SHF _
  refine AW.sld hG (dq rfl) rfl (o1) ?_
  show AW l (pI pg 248) P (kc + 2) (ks + 12) 589 _ _ SHF _
  refine AW.aload_n (dq rfl) rfl rfl ?_
  show AW l (pI pg 248) P (kc + 2) (ks + 12) 590 _ _ SHF _
  refine AW.iload (dq rfl) rfl ?_
  show AW l (pI pg 248) P (kc + 2) (ks + 12) 592 _ _ SHF _
  refine AW.iconst (dq rfl) ?_
  show AW l (pI pg 248) P (kc + 2) (ks + 12) 593 _ _ SHF _
  refine AW.iadd (dq rfl) ?_
  show AW l (pI pg 248) P (kc + 2) (ks + 12) 594 _ _ SHF _
  refine AW.sld hG (dq rfl) rfl (o2) ?_
  show AW l (pI pg 248) P (kc + 2) (ks + 12) 595 _ _ SHF _
  refine gl_callVI (as := [.int (xs ((nI i) + (Int32.ofInt 1)).toNatClampNeg), .int (xs ((nI i) + (Int32.ofInt 2)).toNatClampNeg)]) (dq rfl) (pg_ok.2.2.1 248 _ _ _ _ rfl) rfl (by decide +kernel) rfl rfl (c4) (fun y3 M3 q3 => ?_)
  show AW l (pI pg 248) P kc ks 598 [(4, .int (nI i)), (0, .retAddr 0), (1, .ref 0), (2, .ref 58), (3, .ref 93)] [.int (y3)] SHF _
  refine AW.pop (dq rfl) rfl ?_
  show AW l (pI pg 248) P kc ks 599 _ _ SHF _
  refine AW.aload_n (dq rfl) rfl rfl ?_
  show AW l (pI pg 248) P kc ks 600 _ _ SHF _
  refine AW.aload_n (dq rfl) rfl rfl ?_
  show AW l (pI pg 248) P kc ks 601 _ _ SHF _
  refine AW.iload (dq rfl) rfl ?_
  show AW l (pI pg 248) P kc ks 603 _ _ SHF _
  refine AW.iconst (dq rfl) ?_
  show AW l (pI pg 248) P kc ks 604 _ _ SHF _
  refine AW.iadd (dq rfl) ?_
  show AW l (pI pg 248) P kc ks 605 _ _ SHF _
  refine AW.sld hG (dq rfl) rfl (o1) ?_
  show AW l (pI pg 248) P kc ks 606 _ _ SHF _
  refine AW.aload_n (dq rfl) rfl rfl ?_
  show AW l (pI pg 248) P kc ks 607 _ _ SHF _
  refine AW.iload (dq rfl) rfl ?_
  show AW l (pI pg 248) P kc ks 609 _ _ SHF _
  refine AW.iconst (dq rfl) ?_
  show AW l (pI pg 248) P kc ks 610 _ _ SHF _
  refine AW.iadd (dq rfl) ?_
  show AW l (pI pg 248) P kc ks 611 _ _ SHF _
  refine AW.sld hG (dq rfl) rfl (o2) ?_
  show AW l (pI pg 248) P kc ks 612 _ _ SHF _
  refine gl_callVI (as := [.int (xs ((nI i) + (Int32.ofInt 1)).toNatClampNeg), .int (xs ((nI i) + (Int32.ofInt 2)).toNatClampNeg)]) (dq rfl) (pg_ok.2.2.1 248 _ _ _ _ rfl) rfl (by decide +kernel) rfl rfl (c6 y3 M3 q3) (fun y5 M5 q5 => ?_)
  show AW l (pI pg 248) P kc ks 615 [(4, .int (nI i)), (0, .retAddr 0), (1, .ref 0), (2, .ref 58), (3, .ref 93)] [.int (y5)] SHF _
  refine AW.pop (dq rfl) rfl ?_
  show AW l (pI pg 248) P kc ks 616 _ _ SHF _
  refine AW.goto (dq rfl) (tgt := 1093) (by decide) ?_
  refine AW.drop (lv' := [(4, .int (nI i)), (0, .retAddr 0), (1, .ref 0), (2, .ref 58), (3, .ref 93)]) (List.forall_mem_cons.mpr ⟨List.mem_of_getElem? (i := 0) rfl, List.forall_mem_cons.mpr ⟨List.mem_of_getElem? (i := 1) rfl, List.forall_mem_cons.mpr ⟨List.mem_of_getElem? (i := 2) rfl, List.forall_mem_cons.mpr ⟨List.mem_of_getElem? (i := 3) rfl, List.forall_mem_cons.mpr ⟨List.mem_of_getElem? (i := 4) rfl, fun _ h => absurd h List.not_mem_nil⟩⟩⟩⟩⟩) ?_
  exact k7 y3 M3 q3 y5 M5 q5

theorem lw_c13 {l : aL} {P : aP} {kc ks : Nat} {i L : Nat} {xs : Nat → Int32} {M : aM}  (hG : ∀ G, l.2 G → scOk (some L, fun _ => none, [], []) xs G) (o1 : vp_in ((nI i) + (Int32.ofInt 1)) L) (Q2 : Int32 → aM → Prop) (c3 : ∀ hh, iT (pI pg 120) = tableOf hh → ACH l (pI pg 120) hh (gcI Q2) 2 12 [.ref 0, .int (xs ((nI i) + (Int32.ofInt 1)).toNatClampNeg), .ref 93] SHF M) (Q4 : Int32 → aM → Int32 → aM → Prop) (c5 : ∀ (y2 : Int32), ∀ (M2 : aM), ∀ (q2 : Q2 y2 M2), AC l (pI pg 220) (gcI (Q4 y2 M2)) 0 0 [.ref 58, .int (xs ((nI i) + (Int32.ofInt 1)).toNatClampNeg)] SHF M2) (k6 : ∀ (y2 : Int32), ∀ (M2 : aM), ∀ (q2 : Q2 y2 M2), ∀ (y4 : Int32), ∀ (M4 : aM), ∀ (q4 : (Q4 y2 M2) y4 M4), AW l (pI pg 248) P kc ks 1093 [(4, .int (nI i)), (0, .retAddr 0), (1, .ref 0), (2, .ref 58), (3, .ref 93)] [] SHF M4) : AW l (pI pg 248) P (kc + 2) (ks + 12) 619 [(4, .int (nI i)), (0, .retAddr 0), (1, .ref 0), (2, .ref 58), (3, .ref 93)] [] SHF M := by
  refine AW.aload_n (dq rfl) rfl rfl ?_
  show AW l (pI pg 248) P (kc + 2) (ks + 12) 620 _ _ SHF _
  refine AW.aload_n (dq rfl) rfl rfl ?_
  show AW l (pI pg 248) P (kc + 2) (ks + 12) 621 _ _ SHF _
  refine AW.iload (dq rfl) rfl ?_
  show AW l (pI pg 248) P (kc + 2) (ks + 12) 623 _ _ SHF _
  refine AW.iconst (dq rfl) ?_
  show AW l (pI pg 248) P (kc + 2) (ks + 12) 624 _ _ SHF _
  refine AW.iadd (dq rfl) ?_
  show AW l (pI pg 248) P (kc + 2) (ks + 12) 625 _ _ SHF _
  refine AW.sld hG (dq rfl) rfl (o1) ?_
  show AW l (pI pg 248) P (kc + 2) (ks + 12) 626 _ _ SHF _
  refine AW.aload_n (dq rfl) rfl rfl ?_
  show AW l (pI pg 248) P (kc + 2) (ks + 12) 627 _ _ SHF _
  refine gl_callH (as := [.ref 0, .int (xs ((nI i) + (Int32.ofInt 1)).toNatClampNeg), .ref 93]) (dq rfl) (pg_ok.2.2.1 248 _ _ _ _ rfl) (by decide +kernel) rfl rfl (c3) (fun y2 M2 q2 => ?_)
  show AW l (pI pg 248) P kc ks 630 [(4, .int (nI i)), (0, .retAddr 0), (1, .ref 0), (2, .ref 58), (3, .ref 93)] [.int (y2)] SHF _
  refine AW.istore (dq rfl) (by decide +kernel) ?_
  show AW l (pI pg 248) P kc ks 632 [(5, .int (y2)), (4, .int (nI i)), (0, .retAddr 0), (1, .ref 0), (2, .ref 58), (3, .ref 93)] [] SHF _
  refine AW.aload_n (dq rfl) rfl rfl ?_
  show AW l (pI pg 248) P kc ks 633 _ _ SHF _
  refine AW.aload_n (dq rfl) rfl rfl ?_
  show AW l (pI pg 248) P kc ks 634 _ _ SHF _
  refine AW.iload (dq rfl) rfl ?_
  show AW l (pI pg 248) P kc ks 636 _ _ SHF _
  refine AW.iconst (dq rfl) ?_
  show AW l (pI pg 248) P kc ks 637 _ _ SHF _
  refine AW.iadd (dq rfl) ?_
  show AW l (pI pg 248) P kc ks 638 _ _ SHF _
  refine AW.sld hG (dq rfl) rfl (o1) ?_
  show AW l (pI pg 248) P kc ks 639 _ _ SHF _
  refine gl_callVI (as := [.int (xs ((nI i) + (Int32.ofInt 1)).toNatClampNeg)]) (dq rfl) (pg_ok.2.2.1 248 _ _ _ _ rfl) rfl (by decide +kernel) rfl rfl (c5 y2 M2 q2) (fun y4 M4 q4 => ?_)
  show AW l (pI pg 248) P kc ks 642 [(5, .int (y2)), (4, .int (nI i)), (0, .retAddr 0), (1, .ref 0), (2, .ref 58), (3, .ref 93)] [.int (y4)] SHF _
  refine AW.istore (dq rfl) (by decide +kernel) ?_
  show AW l (pI pg 248) P kc ks 644 [(6, .int (y4)), (5, .int (y2)), (4, .int (nI i)), (0, .retAddr 0), (1, .ref 0), (2, .ref 58), (3, .ref 93)] [] SHF _
  refine AW.goto (dq rfl) (tgt := 1093) (by decide) ?_
  refine AW.drop (lv' := [(4, .int (nI i)), (0, .retAddr 0), (1, .ref 0), (2, .ref 58), (3, .ref 93)]) (List.forall_mem_cons.mpr ⟨List.mem_of_getElem? (i := 2) rfl, List.forall_mem_cons.mpr ⟨List.mem_of_getElem? (i := 3) rfl, List.forall_mem_cons.mpr ⟨List.mem_of_getElem? (i := 4) rfl, List.forall_mem_cons.mpr ⟨List.mem_of_getElem? (i := 5) rfl, List.forall_mem_cons.mpr ⟨List.mem_of_getElem? (i := 6) rfl, fun _ h => absurd h List.not_mem_nil⟩⟩⟩⟩⟩) ?_
  exact k6 y2 M2 q2 y4 M4 q4

theorem lw_c14 {l : aL} {P : aP} {kc ks : Nat} {i L : Nat} {xs : Nat → Int32} {M : aM}  (hG : ∀ G, l.2 G → scOk (some L, fun _ => none, [], []) xs G) (o1 : vp_in ((nI i) + (Int32.ofInt 1)) L) (Q2 : Int32 → aM → Prop) (c3 : ∀ hh, iT (pI pg 123) = tableOf hh → ACH l (pI pg 123) hh (gcI Q2) 2 12 [.ref 0, .int (xs ((nI i) + (Int32.ofInt 1)).toNatClampNeg), .ref 93] SHF M) (Q4 : Int32 → aM → Int32 → aM → Prop) (c5 : ∀ (y2 : Int32), ∀ (M2 : aM), ∀ (q2 : Q2 y2 M2), AC l (pI pg 222) (gcI (Q4 y2 M2)) 0 0 [.ref 58, .int (xs ((nI i) + (Int32.ofInt 1)).toNatClampNeg)] SHF M2) (k6 : ∀ (y2 : Int32), ∀ (M2 : aM), ∀ (q2 : Q2 y2 M2), ∀ (y4 : Int32), ∀ (M4 : aM), ∀ (q4 : (Q4 y2 M2) y4 M4), AW l (pI pg 248) P kc ks 1093 [(4, .int (nI i)), (0, .retAddr 0), (1, .ref 0), (2, .ref 58), (3, .ref 93)] [] SHF M4) : AW l (pI pg 248) P (kc + 2) (ks + 12) 647 [(4, .int (nI i)), (0, .retAddr 0), (1, .ref 0), (2, .ref 58), (3, .ref 93)] [] SHF M := by
  refine AW.aload_n (dq rfl) rfl rfl ?_
  show AW l (pI pg 248) P (kc + 2) (ks + 12) 648 _ _ SHF _
  refine AW.aload_n (dq rfl) rfl rfl ?_
  show AW l (pI pg 248) P (kc + 2) (ks + 12) 649 _ _ SHF _
  refine AW.iload (dq rfl) rfl ?_
  show AW l (pI pg 248) P (kc + 2) (ks + 12) 651 _ _ SHF _
  refine AW.iconst (dq rfl) ?_
  show AW l (pI pg 248) P (kc + 2) (ks + 12) 652 _ _ SHF _
  refine AW.iadd (dq rfl) ?_
  show AW l (pI pg 248) P (kc + 2) (ks + 12) 653 _ _ SHF _
  refine AW.sld hG (dq rfl) rfl (o1) ?_
  show AW l (pI pg 248) P (kc + 2) (ks + 12) 654 _ _ SHF _
  refine AW.aload_n (dq rfl) rfl rfl ?_
  show AW l (pI pg 248) P (kc + 2) (ks + 12) 655 _ _ SHF _
  refine gl_callH (as := [.ref 0, .int (xs ((nI i) + (Int32.ofInt 1)).toNatClampNeg), .ref 93]) (dq rfl) (pg_ok.2.2.1 248 _ _ _ _ rfl) (by decide +kernel) rfl rfl (c3) (fun y2 M2 q2 => ?_)
  show AW l (pI pg 248) P kc ks 658 [(4, .int (nI i)), (0, .retAddr 0), (1, .ref 0), (2, .ref 58), (3, .ref 93)] [.int (y2)] SHF _
  refine AW.istore (dq rfl) (by decide +kernel) ?_
  show AW l (pI pg 248) P kc ks 660 [(5, .int (y2)), (4, .int (nI i)), (0, .retAddr 0), (1, .ref 0), (2, .ref 58), (3, .ref 93)] [] SHF _
  refine AW.aload_n (dq rfl) rfl rfl ?_
  show AW l (pI pg 248) P kc ks 661 _ _ SHF _
  refine AW.aload_n (dq rfl) rfl rfl ?_
  show AW l (pI pg 248) P kc ks 662 _ _ SHF _
  refine AW.iload (dq rfl) rfl ?_
  show AW l (pI pg 248) P kc ks 664 _ _ SHF _
  refine AW.iconst (dq rfl) ?_
  show AW l (pI pg 248) P kc ks 665 _ _ SHF _
  refine AW.iadd (dq rfl) ?_
  show AW l (pI pg 248) P kc ks 666 _ _ SHF _
  refine AW.sld hG (dq rfl) rfl (o1) ?_
  show AW l (pI pg 248) P kc ks 667 _ _ SHF _
  refine gl_callVI (as := [.int (xs ((nI i) + (Int32.ofInt 1)).toNatClampNeg)]) (dq rfl) (pg_ok.2.2.1 248 _ _ _ _ rfl) rfl (by decide +kernel) rfl rfl (c5 y2 M2 q2) (fun y4 M4 q4 => ?_)
  show AW l (pI pg 248) P kc ks 670 [(5, .int (y2)), (4, .int (nI i)), (0, .retAddr 0), (1, .ref 0), (2, .ref 58), (3, .ref 93)] [.int (y4)] SHF _
  refine AW.istore (dq rfl) (by decide +kernel) ?_
  show AW l (pI pg 248) P kc ks 672 [(6, .int (y4)), (5, .int (y2)), (4, .int (nI i)), (0, .retAddr 0), (1, .ref 0), (2, .ref 58), (3, .ref 93)] [] SHF _
  refine AW.goto (dq rfl) (tgt := 1093) (by decide) ?_
  refine AW.drop (lv' := [(4, .int (nI i)), (0, .retAddr 0), (1, .ref 0), (2, .ref 58), (3, .ref 93)]) (List.forall_mem_cons.mpr ⟨List.mem_of_getElem? (i := 2) rfl, List.forall_mem_cons.mpr ⟨List.mem_of_getElem? (i := 3) rfl, List.forall_mem_cons.mpr ⟨List.mem_of_getElem? (i := 4) rfl, List.forall_mem_cons.mpr ⟨List.mem_of_getElem? (i := 5) rfl, List.forall_mem_cons.mpr ⟨List.mem_of_getElem? (i := 6) rfl, fun _ h => absurd h List.not_mem_nil⟩⟩⟩⟩⟩) ?_
  exact k6 y2 M2 q2 y4 M4 q4

theorem lw_c15 {l : aL} {P : aP} {kc ks : Nat} {i L : Nat} {xs : Nat → Int32} {M : aM}  (hG : ∀ G, l.2 G → scOk (some L, fun _ => none, [], []) xs G) (o1 : vp_in ((nI i) + (Int32.ofInt 1)) L) (o3 : ∀ (h2 : (xs ((nI i) + (Int32.ofInt 1)).toNatClampNeg : Int32) = 0), vp_in ((nI i) + (Int32.ofInt 2)) L) (Q4 : Int32 → aM → Prop) (c5 : ∀ (h2 : (xs ((nI i) + (Int32.ofInt 1)).toNatClampNeg : Int32) = 0), ∀ hh, iT (pI pg 128) = tableOf hh → ACH l (pI pg 128) hh (gcI Q4) 2 12 [.ref 0, .int (Int32.ofInt 0), .int (xs ((nI i) + (Int32.ofInt 2)).toNatClampNeg), .ref 93] SHF M) (Q7 : Int32 → aM → Int32 → aM → Prop) (c8 : ∀ (h2 : (xs ((nI i) + (Int32.ofInt 1)).toNatClampNeg : Int32) = 0), ∀ (y4 : Int32), ∀ (M4 : aM), ∀ (q4 : Q4 y4 M4), ∀ (h6 : (xs ((nI i) + (Int32.ofInt 1)).toNatClampNeg : Int32) = 0), AC l (pI pg 224) (gcI (Q7 y4 M4)) 0 0 [.ref 58, .int (Int32.ofInt 0), .int (xs ((nI i) + (Int32.ofInt 2)).toNatClampNeg)] SHF M4) (k9 : ∀ (h2 : (xs ((nI i) + (Int32.ofInt 1)).toNatClampNeg : Int32) = 0), ∀ (y4 : Int32), ∀ (M4 : aM), ∀ (q4 : Q4 y4 M4), ∀ (h6 : (xs ((nI i) + (Int32.ofInt 1)).toNatClampNeg : Int32) = 0), ∀ (y7 : Int32), ∀ (M7 : aM), ∀ (q7 : (Q7 y4 M4) y7 M7), AW l (pI pg 248) P kc ks 1093 [(4, .int (nI i)), (0, .retAddr 0), (1, .ref 0), (2, .ref 58), (3, .ref 93)] [] SHF M7) (Q10 : Int32 → aM → Int32 → aM → Prop) (c11 : ∀ (h2 : (xs ((nI i) + (Int32.ofInt 1)).toNatClampNeg : Int32) = 0), ∀ (y4 : Int32), ∀ (M4 : aM), ∀ (q4 : Q4 y4 M4), ∀ (h6 : ¬ ((xs ((nI i) + (Int32.ofInt 1)).toNatClampNeg : Int32) = 0)), AC l (pI pg 224) (gcI (Q10 y4 M4)) 0 0 [.ref 58, .int (Int32.ofInt 1), .int (xs ((nI i) + (Int32.ofInt 2)).toNatClampNeg)] SHF M4) (k12 : ∀ (h2 : (xs ((nI i) + (Int32.ofInt 1)).toNatClampNeg : Int32) = 0), ∀ (y4 : Int32), ∀ (M4 : aM), ∀ (q4 : Q4 y4 M4), ∀ (h6 : ¬ ((xs ((nI i) + (Int32.ofInt 1)).toNatClampNeg : Int32) = 0)), ∀ (y10 : Int32), ∀ (M10 : aM), ∀ (q10 : (Q10 y4 M4) y10 M10), AW l (pI pg 248) P kc ks 1093 [(4, .int (nI i)), (0, .retAddr 0), (1, .ref 0), (2, .ref 58), (3, .ref 93)] [] SHF M10) (o13 : ∀ (h2 : ¬ ((xs ((nI i) + (Int32.ofInt 1)).toNatClampNeg : Int32) = 0)), vp_in ((nI i) + (Int32.ofInt 2)) L) (Q14 : Int32 → aM → Prop) (c15 : ∀ (h2 : ¬ ((xs ((nI i) + (Int32.ofInt 1)).toNatClampNeg : Int32) = 0)), ∀ hh, iT (pI pg 128) = tableOf hh → ACH l (pI pg 128) hh (gcI Q14) 2 12 [.ref 0, .int (Int32.ofInt 1), .int (xs ((nI i) + (Int32.ofInt 2)).toNatClampNeg), .ref 93] SHF M) (Q17 : Int32 → aM → Int32 → aM → Prop) (c18 : ∀ (h2 : ¬ ((xs ((nI i) + (Int32.ofInt 1)).toNatClampNeg : Int32) = 0)), ∀ (y14 : Int32), ∀ (M14 : aM), ∀ (q14 : Q14 y14 M14), ∀ (h16 : (xs ((nI i) + (Int32.ofInt 1)).toNatClampNeg : Int32) = 0), AC l (pI pg 224) (gcI (Q17 y14 M14)) 0 0 [.ref 58, .int (Int32.ofInt 0), .int (xs ((nI i) + (Int32.ofInt 2)).toNatClampNeg)] SHF M14) (k19 : ∀ (h2 : ¬ ((xs ((nI i) + (Int32.ofInt 1)).toNatClampNeg : Int32) = 0)), ∀ (y14 : Int32), ∀ (M14 : aM), ∀ (q14 : Q14 y14 M14), ∀ (h16 : (xs ((nI i) + (Int32.ofInt 1)).toNatClampNeg : Int32) = 0), ∀ (y17 : Int32), ∀ (M17 : aM), ∀ (q17 : (Q17 y14 M14) y17 M17), AW l (pI pg 248) P kc ks 1093 [(4, .int (nI i)), (0, .retAddr 0), (1, .ref 0), (2, .ref 58), (3, .ref 93)] [] SHF M17) (Q20 : Int32 → aM → Int32 → aM → Prop) (c21 : ∀ (h2 : ¬ ((xs ((nI i) + (Int32.ofInt 1)).toNatClampNeg : Int32) = 0)), ∀ (y14 : Int32), ∀ (M14 : aM), ∀ (q14 : Q14 y14 M14), ∀ (h16 : ¬ ((xs ((nI i) + (Int32.ofInt 1)).toNatClampNeg : Int32) = 0)), AC l (pI pg 224) (gcI (Q20 y14 M14)) 0 0 [.ref 58, .int (Int32.ofInt 1), .int (xs ((nI i) + (Int32.ofInt 2)).toNatClampNeg)] SHF M14) (k22 : ∀ (h2 : ¬ ((xs ((nI i) + (Int32.ofInt 1)).toNatClampNeg : Int32) = 0)), ∀ (y14 : Int32), ∀ (M14 : aM), ∀ (q14 : Q14 y14 M14), ∀ (h16 : ¬ ((xs ((nI i) + (Int32.ofInt 1)).toNatClampNeg : Int32) = 0)), ∀ (y20 : Int32), ∀ (M20 : aM), ∀ (q20 : (Q20 y14 M14) y20 M20), AW l (pI pg 248) P kc ks 1093 [(4, .int (nI i)), (0, .retAddr 0), (1, .ref 0), (2, .ref 58), (3, .ref 93)] [] SHF M20) : AW l (pI pg 248) P (kc + 2) (ks + 12) 675 [(4, .int (nI i)), (0, .retAddr 0), (1, .ref 0), (2, .ref 58), (3, .ref 93)] [] SHF M := by
  refine AW.aload_n (dq rfl) rfl rfl ?_
  show AW l (pI pg 248) P (kc + 2) (ks + 12) 676 _ _ SHF _
  refine AW.aload_n (dq rfl) rfl rfl ?_
  show AW l (pI pg 248) P (kc + 2) (ks + 12) 677 _ _ SHF _
  refine AW.iload (dq rfl) rfl ?_
  show AW l (pI pg 248) P (kc + 2) (ks + 12) 679 _ _ SHF _
  refine AW.iconst (dq rfl) ?_
  show AW l (pI pg 248) P (kc + 2) (ks + 12) 680 _ _ SHF _
  refine AW.iadd (dq rfl) ?_
  show AW l (pI pg 248) P (kc + 2) (ks + 12) 681 _ _ SHF _
  refine AW.sld hG (dq rfl) rfl (o1) ?_
  show AW l (pI pg 248) P (kc + 2) (ks + 12) 682 _ _ SHF _
  refine AW.if_eq (dq rfl) (tgt := 689) (by decide) (fun h2 => ?_) (fun h2 => ?_)
  · have _ := h2
    refine AW.iconst (dq rfl) ?_
    show AW l (pI pg 248) P (kc + 2) (ks + 12) 690 _ _ SHF _
    refine AW.aload_n (dq rfl) rfl rfl ?_
    show AW l (pI pg 248) P (kc + 2) (ks + 12) 691 _ _ SHF _
    refine AW.iload (dq rfl) rfl ?_
    show AW l (pI pg 248) P (kc + 2) (ks + 12) 693 _ _ SHF _
    refine AW.iconst (dq rfl) ?_
    show AW l (pI pg 248) P (kc + 2) (ks + 12) 694 _ _ SHF _
    refine AW.iadd (dq rfl) ?_
    show AW l (pI pg 248) P (kc + 2) (ks + 12) 695 _ _ SHF _
    refine AW.sld hG (dq rfl) rfl (o3 h2) ?_
    show AW l (pI pg 248) P (kc + 2) (ks + 12) 696 _ _ SHF _
    refine AW.aload_n (dq rfl) rfl rfl ?_
    show AW l (pI pg 248) P (kc + 2) (ks + 12) 697 _ _ SHF _
    refine gl_callH (as := [.ref 0, .int (Int32.ofInt 0), .int (xs ((nI i) + (Int32.ofInt 2)).toNatClampNeg), .ref 93]) (dq rfl) (pg_ok.2.2.1 248 _ _ _ _ rfl) (by decide +kernel) rfl rfl (c5 h2) (fun y4 M4 q4 => ?_)
    show AW l (pI pg 248) P kc ks 700 [(4, .int (nI i)), (0, .retAddr 0), (1, .ref 0), (2, .ref 58), (3, .ref 93)] [.int (y4)] SHF _
    refine AW.istore (dq rfl) (by decide +kernel) ?_
    show AW l (pI pg 248) P kc ks 702 [(5, .int (y4)), (4, .int (nI i)), (0, .retAddr 0), (1, .ref 0), (2, .ref 58), (3, .ref 93)] [] SHF _
    refine AW.aload_n (dq rfl) rfl rfl ?_
    show AW l (pI pg 248) P kc ks 703 _ _ SHF _
    refine AW.aload_n (dq rfl) rfl rfl ?_
    show AW l (pI pg 248) P kc ks 704 _ _ SHF _
    refine AW.iload (dq rfl) rfl ?_
    show AW l (pI pg 248) P kc ks 706 _ _ SHF _
    refine AW.iconst (dq rfl) ?_
    show AW l (pI pg 248) P kc ks 707 _ _ SHF _
    refine AW.iadd (dq rfl) ?_
    show AW l (pI pg 248) P kc ks 708 _ _ SHF _
    refine AW.sld hG (dq rfl) rfl (o1) ?_
    show AW l (pI pg 248) P kc ks 709 _ _ SHF _
    refine AW.if_eq (dq rfl) (tgt := 716) (by decide) (fun h6 => ?_) (fun h6 => ?_)
    · have _ := h6
      refine AW.iconst (dq rfl) ?_
      show AW l (pI pg 248) P kc ks 717 _ _ SHF _
      refine AW.aload_n (dq rfl) rfl rfl ?_
      show AW l (pI pg 248) P kc ks 718 _ _ SHF _
      refine AW.iload (dq rfl) rfl ?_
      show AW l (pI pg 248) P kc ks 720 _ _ SHF _
      refine AW.iconst (dq rfl) ?_
      show AW l (pI pg 248) P kc ks 721 _ _ SHF _
      refine AW.iadd (dq rfl) ?_
      show AW l (pI pg 248) P kc ks 722 _ _ SHF _
      refine AW.sld hG (dq rfl) rfl (o3 h2) ?_
      show AW l (pI pg 248) P kc ks 723 _ _ SHF _
      refine gl_callVI (as := [.int (Int32.ofInt 0), .int (xs ((nI i) + (Int32.ofInt 2)).toNatClampNeg)]) (dq rfl) (pg_ok.2.2.1 248 _ _ _ _ rfl) rfl (by decide +kernel) rfl rfl (c8 h2 y4 M4 q4 h6) (fun y7 M7 q7 => ?_)
      show AW l (pI pg 248) P kc ks 726 [(5, .int (y4)), (4, .int (nI i)), (0, .retAddr 0), (1, .ref 0), (2, .ref 58), (3, .ref 93)] [.int (y7)] SHF _
      refine AW.istore (dq rfl) (by decide +kernel) ?_
      show AW l (pI pg 248) P kc ks 728 [(6, .int (y7)), (5, .int (y4)), (4, .int (nI i)), (0, .retAddr 0), (1, .ref 0), (2, .ref 58), (3, .ref 93)] [] SHF _
      refine AW.goto (dq rfl) (tgt := 1093) (by decide) ?_
      refine AW.drop (lv' := [(4, .int (nI i)), (0, .retAddr 0), (1, .ref 0), (2, .ref 58), (3, .ref 93)]) (List.forall_mem_cons.mpr ⟨List.mem_of_getElem? (i := 2) rfl, List.forall_mem_cons.mpr ⟨List.mem_of_getElem? (i := 3) rfl, List.forall_mem_cons.mpr ⟨List.mem_of_getElem? (i := 4) rfl, List.forall_mem_cons.mpr ⟨List.mem_of_getElem? (i := 5) rfl, List.forall_mem_cons.mpr ⟨List.mem_of_getElem? (i := 6) rfl, fun _ h => absurd h List.not_mem_nil⟩⟩⟩⟩⟩) ?_
      exact k9 h2 y4 M4 q4 h6 y7 M7 q7
    · have _ := h6
      refine AW.iconst (dq rfl) ?_
      show AW l (pI pg 248) P kc ks 713 _ _ SHF _
      refine AW.goto (dq rfl) (tgt := 717) (by decide) ?_
      refine AW.aload_n (dq rfl) rfl rfl ?_
      show AW l (pI pg 248) P kc ks 718 _ _ SHF _
      refine AW.iload (dq rfl) rfl ?_
      show AW l (pI pg 248) P kc ks 720 _ _ SHF _
      refine AW.iconst (dq rfl) ?_
      show AW l (pI pg 248) P kc ks 721 _ _ SHF _
      refine AW.iadd (dq rfl) ?_
      show AW l (pI pg 248) P kc ks 722 _ _ SHF _
      refine AW.sld hG (dq rfl) rfl (o3 h2) ?_
      show AW l (pI pg 248) P kc ks 723 _ _ SHF _
      refine gl_callVI (as := [.int (Int32.ofInt 1), .int (xs ((nI i) + (Int32.ofInt 2)).toNatClampNeg)]) (dq rfl) (pg_ok.2.2.1 248 _ _ _ _ rfl) rfl (by decide +kernel) rfl rfl (c11 h2 y4 M4 q4 h6) (fun y10 M10 q10 => ?_)
      show AW l (pI pg 248) P kc ks 726 [(5, .int (y4)), (4, .int (nI i)), (0, .retAddr 0), (1, .ref 0), (2, .ref 58), (3, .ref 93)] [.int (y10)] SHF _
      refine AW.istore (dq rfl) (by decide +kernel) ?_
      show AW l (pI pg 248) P kc ks 728 [(6, .int (y10)), (5, .int (y4)), (4, .int (nI i)), (0, .retAddr 0), (1, .ref 0), (2, .ref 58), (3, .ref 93)] [] SHF _
      refine AW.goto (dq rfl) (tgt := 1093) (by decide) ?_
      refine AW.drop (lv' := [(4, .int (nI i)), (0, .retAddr 0), (1, .ref 0), (2, .ref 58), (3, .ref 93)]) (List.forall_mem_cons.mpr ⟨List.mem_of_getElem? (i := 2) rfl, List.forall_mem_cons.mpr ⟨List.mem_of_getElem? (i := 3) rfl, List.forall_mem_cons.mpr ⟨List.mem_of_getElem? (i := 4) rfl, List.forall_mem_cons.mpr ⟨List.mem_of_getElem? (i := 5) rfl, List.forall_mem_cons.mpr ⟨List.mem_of_getElem? (i := 6) rfl, fun _ h => absurd h List.not_mem_nil⟩⟩⟩⟩⟩) ?_
      exact k12 h2 y4 M4 q4 h6 y10 M10 q10
  · have _ := h2
    refine AW.iconst (dq rfl) ?_
    show AW l (pI pg 248) P (kc + 2) (ks + 12) 686 _ _ SHF _
    refine AW.goto (dq rfl) (tgt := 690) (by decide) ?_
    refine AW.aload_n (dq rfl) rfl rfl ?_
    show AW l (pI pg 248) P (kc + 2) (ks + 12) 691 _ _ SHF _
    refine AW.iload (dq rfl) rfl ?_
    show AW l (pI pg 248) P (kc + 2) (ks + 12) 693 _ _ SHF _
    refine AW.iconst (dq rfl) ?_
    show AW l (pI pg 248) P (kc + 2) (ks + 12) 694 _ _ SHF _
    refine AW.iadd (dq rfl) ?_
    show AW l (pI pg 248) P (kc + 2) (ks + 12) 695 _ _ SHF _
    refine AW.sld hG (dq rfl) rfl (o13 h2) ?_
    show AW l (pI pg 248) P (kc + 2) (ks + 12) 696 _ _ SHF _
    refine AW.aload_n (dq rfl) rfl rfl ?_
    show AW l (pI pg 248) P (kc + 2) (ks + 12) 697 _ _ SHF _
    refine gl_callH (as := [.ref 0, .int (Int32.ofInt 1), .int (xs ((nI i) + (Int32.ofInt 2)).toNatClampNeg), .ref 93]) (dq rfl) (pg_ok.2.2.1 248 _ _ _ _ rfl) (by decide +kernel) rfl rfl (c15 h2) (fun y14 M14 q14 => ?_)
    show AW l (pI pg 248) P kc ks 700 [(4, .int (nI i)), (0, .retAddr 0), (1, .ref 0), (2, .ref 58), (3, .ref 93)] [.int (y14)] SHF _
    refine AW.istore (dq rfl) (by decide +kernel) ?_
    show AW l (pI pg 248) P kc ks 702 [(5, .int (y14)), (4, .int (nI i)), (0, .retAddr 0), (1, .ref 0), (2, .ref 58), (3, .ref 93)] [] SHF _
    refine AW.aload_n (dq rfl) rfl rfl ?_
    show AW l (pI pg 248) P kc ks 703 _ _ SHF _
    refine AW.aload_n (dq rfl) rfl rfl ?_
    show AW l (pI pg 248) P kc ks 704 _ _ SHF _
    refine AW.iload (dq rfl) rfl ?_
    show AW l (pI pg 248) P kc ks 706 _ _ SHF _
    refine AW.iconst (dq rfl) ?_
    show AW l (pI pg 248) P kc ks 707 _ _ SHF _
    refine AW.iadd (dq rfl) ?_
    show AW l (pI pg 248) P kc ks 708 _ _ SHF _
    refine AW.sld hG (dq rfl) rfl (o1) ?_
    show AW l (pI pg 248) P kc ks 709 _ _ SHF _
    refine AW.if_eq (dq rfl) (tgt := 716) (by decide) (fun h16 => ?_) (fun h16 => ?_)
    · have _ := h16
      refine AW.iconst (dq rfl) ?_
      show AW l (pI pg 248) P kc ks 717 _ _ SHF _
      refine AW.aload_n (dq rfl) rfl rfl ?_
      show AW l (pI pg 248) P kc ks 718 _ _ SHF _
      refine AW.iload (dq rfl) rfl ?_
      show AW l (pI pg 248) P kc ks 720 _ _ SHF _
      refine AW.iconst (dq rfl) ?_
      show AW l (pI pg 248) P kc ks 721 _ _ SHF _
      refine AW.iadd (dq rfl) ?_
      show AW l (pI pg 248) P kc ks 722 _ _ SHF _
      refine AW.sld hG (dq rfl) rfl (o13 h2) ?_
      show AW l (pI pg 248) P kc ks 723 _ _ SHF _
      refine gl_callVI (as := [.int (Int32.ofInt 0), .int (xs ((nI i) + (Int32.ofInt 2)).toNatClampNeg)]) (dq rfl) (pg_ok.2.2.1 248 _ _ _ _ rfl) rfl (by decide +kernel) rfl rfl (c18 h2 y14 M14 q14 h16) (fun y17 M17 q17 => ?_)
      show AW l (pI pg 248) P kc ks 726 [(5, .int (y14)), (4, .int (nI i)), (0, .retAddr 0), (1, .ref 0), (2, .ref 58), (3, .ref 93)] [.int (y17)] SHF _
      refine AW.istore (dq rfl) (by decide +kernel) ?_
      show AW l (pI pg 248) P kc ks 728 [(6, .int (y17)), (5, .int (y14)), (4, .int (nI i)), (0, .retAddr 0), (1, .ref 0), (2, .ref 58), (3, .ref 93)] [] SHF _
      refine AW.goto (dq rfl) (tgt := 1093) (by decide) ?_
      refine AW.drop (lv' := [(4, .int (nI i)), (0, .retAddr 0), (1, .ref 0), (2, .ref 58), (3, .ref 93)]) (List.forall_mem_cons.mpr ⟨List.mem_of_getElem? (i := 2) rfl, List.forall_mem_cons.mpr ⟨List.mem_of_getElem? (i := 3) rfl, List.forall_mem_cons.mpr ⟨List.mem_of_getElem? (i := 4) rfl, List.forall_mem_cons.mpr ⟨List.mem_of_getElem? (i := 5) rfl, List.forall_mem_cons.mpr ⟨List.mem_of_getElem? (i := 6) rfl, fun _ h => absurd h List.not_mem_nil⟩⟩⟩⟩⟩) ?_
      exact k19 h2 y14 M14 q14 h16 y17 M17 q17
    · have _ := h16
      refine AW.iconst (dq rfl) ?_
      show AW l (pI pg 248) P kc ks 713 _ _ SHF _
      refine AW.goto (dq rfl) (tgt := 717) (by decide) ?_
      refine AW.aload_n (dq rfl) rfl rfl ?_
      show AW l (pI pg 248) P kc ks 718 _ _ SHF _
      refine AW.iload (dq rfl) rfl ?_
      show AW l (pI pg 248) P kc ks 720 _ _ SHF _
      refine AW.iconst (dq rfl) ?_
      show AW l (pI pg 248) P kc ks 721 _ _ SHF _
      refine AW.iadd (dq rfl) ?_
      show AW l (pI pg 248) P kc ks 722 _ _ SHF _
      refine AW.sld hG (dq rfl) rfl (o13 h2) ?_
      show AW l (pI pg 248) P kc ks 723 _ _ SHF _
      refine gl_callVI (as := [.int (Int32.ofInt 1), .int (xs ((nI i) + (Int32.ofInt 2)).toNatClampNeg)]) (dq rfl) (pg_ok.2.2.1 248 _ _ _ _ rfl) rfl (by decide +kernel) rfl rfl (c21 h2 y14 M14 q14 h16) (fun y20 M20 q20 => ?_)
      show AW l (pI pg 248) P kc ks 726 [(5, .int (y14)), (4, .int (nI i)), (0, .retAddr 0), (1, .ref 0), (2, .ref 58), (3, .ref 93)] [.int (y20)] SHF _
      refine AW.istore (dq rfl) (by decide +kernel) ?_
      show AW l (pI pg 248) P kc ks 728 [(6, .int (y20)), (5, .int (y14)), (4, .int (nI i)), (0, .retAddr 0), (1, .ref 0), (2, .ref 58), (3, .ref 93)] [] SHF _
      refine AW.goto (dq rfl) (tgt := 1093) (by decide) ?_
      refine AW.drop (lv' := [(4, .int (nI i)), (0, .retAddr 0), (1, .ref 0), (2, .ref 58), (3, .ref 93)]) (List.forall_mem_cons.mpr ⟨List.mem_of_getElem? (i := 2) rfl, List.forall_mem_cons.mpr ⟨List.mem_of_getElem? (i := 3) rfl, List.forall_mem_cons.mpr ⟨List.mem_of_getElem? (i := 4) rfl, List.forall_mem_cons.mpr ⟨List.mem_of_getElem? (i := 5) rfl, List.forall_mem_cons.mpr ⟨List.mem_of_getElem? (i := 6) rfl, fun _ h => absurd h List.not_mem_nil⟩⟩⟩⟩⟩) ?_
      exact k22 h2 y14 M14 q14 h16 y20 M20 q20

theorem lw_c16 {l : aL} {P : aP} {kc ks : Nat} {i L : Nat} {xs : Nat → Int32} {M : aM}  (hG : ∀ G, l.2 G → scOk (some L, fun _ => none, [], []) xs G) (Q1 : Int32 → aM → Prop) (c2 : AC l (pI pg 30) (gcI Q1) 2 12 [.ref 0] SHF M) (Q3 : Int32 → aM → Int32 → aM → Prop) (c4 : ∀ (y1 : Int32), ∀ (M1 : aM), ∀ (q1 : Q1 y1 M1), AC l (pI pg 227) (gcI (Q3 y1 M1)) 0 0 [.ref 58] SHF M1) (k5 : ∀ (y1 : Int32), ∀ (M1 : aM), ∀ (q1 : Q1 y1 M1), ∀ (y3 : Int32), ∀ (M3 : aM), ∀ (q3 : (Q3 y1 M1) y3 M3), AW l (pI pg 248) P kc ks 1093 [(4, .int (nI i)), (0, .retAddr 0), (1, .ref 0), (2, .ref 58), (3, .ref 93)] [] SHF M3) : AW l (pI pg 248) P (kc + 2) (ks + 12) 731 [(4, .int (nI i)), (0, .retAddr 0), (1, .ref 0), (2, .ref 58), (3, .ref 93)] [] SHF M := by
  refine AW.aload_n (dq rfl) rfl rfl ?_
  show AW l (pI pg 248) P (kc + 2) (ks + 12) 732 _ _ SHF _
  refine gl_callVI (as := []) (dq rfl) (pg_ok.2.2.1 248 _ _ _ _ rfl) rfl (by decide +kernel) rfl rfl (c2) (fun y1 M1 q1 => ?_)
  show AW l (pI pg 248) P kc ks 735 [(4, .int (nI i)), (0, .retAddr 0), (1, .ref 0), (2, .ref 58), (3, .ref 93)] [.int (y1)] SHF _
  refine AW.pop (dq rfl) rfl ?_
  show AW l (pI pg 248) P kc ks 736 _ _ SHF _
  refine AW.aload_n (dq rfl) rfl rfl ?_
  show AW l (pI pg 248) P kc ks 737 _ _ SHF _
  refine gl_callVI (as := []) (dq rfl) (pg_ok.2.2.1 248 _ _ _ _ rfl) rfl (by decide +kernel) rfl rfl (c4 y1 M1 q1) (fun y3 M3 q3 => ?_)
  show AW l (pI pg 248) P kc ks 740 [(4, .int (nI i)), (0, .retAddr 0), (1, .ref 0), (2, .ref 58), (3, .ref 93)] [.int (y3)] SHF _
  refine AW.pop (dq rfl) rfl ?_
  show AW l (pI pg 248) P kc ks 741 _ _ SHF _
  refine AW.goto (dq rfl) (tgt := 1093) (by decide) ?_
  refine AW.drop (lv' := [(4, .int (nI i)), (0, .retAddr 0), (1, .ref 0), (2, .ref 58), (3, .ref 93)]) (List.forall_mem_cons.mpr ⟨List.mem_of_getElem? (i := 0) rfl, List.forall_mem_cons.mpr ⟨List.mem_of_getElem? (i := 1) rfl, List.forall_mem_cons.mpr ⟨List.mem_of_getElem? (i := 2) rfl, List.forall_mem_cons.mpr ⟨List.mem_of_getElem? (i := 3) rfl, List.forall_mem_cons.mpr ⟨List.mem_of_getElem? (i := 4) rfl, fun _ h => absurd h List.not_mem_nil⟩⟩⟩⟩⟩) ?_
  exact k5 y1 M1 q1 y3 M3 q3

theorem lw_c17 {l : aL} {P : aP} {kc ks : Nat} {i L : Nat} {xs : Nat → Int32} {M : aM}  (hG : ∀ G, l.2 G → scOk (some L, fun _ => none, [], []) xs G) (o1 : vp_in ((nI i) + (Int32.ofInt 1)) L) (o2 : vp_in ((nI i) + (Int32.ofInt 2)) L) (Q3 : Int32 → aM → Prop) (c4 : ∀ hh, iT (pI pg 138) = tableOf hh → ACH l (pI pg 138) hh (gcI Q3) 2 12 [.ref 0, .int (xs ((nI i) + (Int32.ofInt 1)).toNatClampNeg), .int (xs ((nI i) + (Int32.ofInt 2)).toNatClampNeg), .ref 93] SHF M) (Q5 : Int32 → aM → Int32 → aM → Prop) (c6 : ∀ (y3 : Int32), ∀ (M3 : aM), ∀ (q3 : Q3 y3 M3), AC l (pI pg 228) (gcI (Q5 y3 M3)) 0 0 [.ref 58, .int (xs ((nI i) + (Int32.ofInt 1)).toNatClampNeg), .int (xs ((nI i) + (Int32.ofInt 2)).toNatClampNeg)] SHF M3) (k7 : ∀ (y3 : Int32), ∀ (M3 : aM), ∀ (q3 : Q3 y3 M3), ∀ (y5 : Int32), ∀ (M5 : aM), ∀ (q5 : (Q5 y3 M3) y5 M5), AW l (pI pg 248) P kc ks 1093 [(4, .int (nI i)), (0, .retAddr 0), (1, .ref 0), (2, .ref 58), (3, .ref 93)] [] SHF M5) : AW l (pI pg 248) P (kc + 2) (ks + 12) 744 [(4, .int (nI i)), (0, .retAddr 0), (1, .ref 0), (2, .ref 58), (3, .ref 93)] [] SHF M := by
  refine AW.aload_n (dq rfl) rfl rfl ?_
  show AW l (pI pg 248) P (kc + 2) (ks + 12) 745 _ _ SHF _
  refine AW.aload_n (dq rfl) rfl rfl ?_
  show AW l (pI pg 248) P (kc + 2) (ks + 12) 746 _ _ SHF _
  refine AW.iload (dq rfl) rfl ?_
  show AW l (pI pg 248) P (kc + 2) (ks + 12) 748 _ _ SHF _
  refine AW.iconst (dq rfl) ?_
  show AW l (pI pg 248) P (kc + 2) (ks + 12) 749 _ _ SHF _
  refine AW.iadd (dq rfl) ?_
  show AW l (pI pg 248) P (kc + 2) (ks + 12) 750 _ _ SHF _
  refine AW.sld hG (dq rfl) rfl (o1) ?_
  show AW l (pI pg 248) P (kc + 2) (ks + 12) 751 _ _ SHF _
  refine AW.aload_n (dq rfl) rfl rfl ?_
  show AW l (pI pg 248) P (kc + 2) (ks + 12) 752 _ _ SHF _
  refine AW.iload (dq rfl) rfl ?_
  show AW l (pI pg 248) P (kc + 2) (ks + 12) 754 _ _ SHF _
  refine AW.iconst (dq rfl) ?_
  show AW l (pI pg 248) P (kc + 2) (ks + 12) 755 _ _ SHF _
  refine AW.iadd (dq rfl) ?_
  show AW l (pI pg 248) P (kc + 2) (ks + 12) 756 _ _ SHF _
  refine AW.sld hG (dq rfl) rfl (o2) ?_
  show AW l (pI pg 248) P (kc + 2) (ks + 12) 757 _ _ SHF _
  refine AW.aload_n (dq rfl) rfl rfl ?_
  show AW l (pI pg 248) P (kc + 2) (ks + 12) 758 _ _ SHF _
  refine gl_callH (as := [.ref 0, .int (xs ((nI i) + (Int32.ofInt 1)).toNatClampNeg), .int (xs ((nI i) + (Int32.ofInt 2)).toNatClampNeg), .ref 93]) (dq rfl) (pg_ok.2.2.1 248 _ _ _ _ rfl) (by decide +kernel) rfl rfl (c4) (fun y3 M3 q3 => ?_)
  show AW l (pI pg 248) P kc ks 761 [(4, .int (nI i)), (0, .retAddr 0), (1, .ref 0), (2, .ref 58), (3, .ref 93)] [.int (y3)] SHF _
  refine AW.istore (dq rfl) (by decide +kernel) ?_
  show AW l (pI pg 248) P kc ks 763 [(5, .int (y3)), (4, .int (nI i)), (0, .retAddr 0), (1, .ref 0), (2, .ref 58), (3, .ref 93)] [] SHF _
  refine AW.aload_n (dq rfl) rfl rfl ?_
  show AW l (pI pg 248) P kc ks 764 _ _ SHF _
  refine AW.aload_n (dq rfl) rfl rfl ?_
  show AW l (pI pg 248) P kc ks 765 _ _ SHF _
  refine AW.iload (dq rfl) rfl ?_
  show AW l (pI pg 248) P kc ks 767 _ _ SHF _
  refine AW.iconst (dq rfl) ?_
  show AW l (pI pg 248) P kc ks 768 _ _ SHF _
  refine AW.iadd (dq rfl) ?_
  show AW l (pI pg 248) P kc ks 769 _ _ SHF _
  refine AW.sld hG (dq rfl) rfl (o1) ?_
  show AW l (pI pg 248) P kc ks 770 _ _ SHF _
  refine AW.aload_n (dq rfl) rfl rfl ?_
  show AW l (pI pg 248) P kc ks 771 _ _ SHF _
  refine AW.iload (dq rfl) rfl ?_
  show AW l (pI pg 248) P kc ks 773 _ _ SHF _
  refine AW.iconst (dq rfl) ?_
  show AW l (pI pg 248) P kc ks 774 _ _ SHF _
  refine AW.iadd (dq rfl) ?_
  show AW l (pI pg 248) P kc ks 775 _ _ SHF _
  refine AW.sld hG (dq rfl) rfl (o2) ?_
  show AW l (pI pg 248) P kc ks 776 _ _ SHF _
  refine gl_callVI (as := [.int (xs ((nI i) + (Int32.ofInt 1)).toNatClampNeg), .int (xs ((nI i) + (Int32.ofInt 2)).toNatClampNeg)]) (dq rfl) (pg_ok.2.2.1 248 _ _ _ _ rfl) rfl (by decide +kernel) rfl rfl (c6 y3 M3 q3) (fun y5 M5 q5 => ?_)
  show AW l (pI pg 248) P kc ks 779 [(5, .int (y3)), (4, .int (nI i)), (0, .retAddr 0), (1, .ref 0), (2, .ref 58), (3, .ref 93)] [.int (y5)] SHF _
  refine AW.istore (dq rfl) (by decide +kernel) ?_
  show AW l (pI pg 248) P kc ks 781 [(6, .int (y5)), (5, .int (y3)), (4, .int (nI i)), (0, .retAddr 0), (1, .ref 0), (2, .ref 58), (3, .ref 93)] [] SHF _
  refine AW.goto (dq rfl) (tgt := 1093) (by decide) ?_
  refine AW.drop (lv' := [(4, .int (nI i)), (0, .retAddr 0), (1, .ref 0), (2, .ref 58), (3, .ref 93)]) (List.forall_mem_cons.mpr ⟨List.mem_of_getElem? (i := 2) rfl, List.forall_mem_cons.mpr ⟨List.mem_of_getElem? (i := 3) rfl, List.forall_mem_cons.mpr ⟨List.mem_of_getElem? (i := 4) rfl, List.forall_mem_cons.mpr ⟨List.mem_of_getElem? (i := 5) rfl, List.forall_mem_cons.mpr ⟨List.mem_of_getElem? (i := 6) rfl, fun _ h => absurd h List.not_mem_nil⟩⟩⟩⟩⟩) ?_
  exact k7 y3 M3 q3 y5 M5 q5

theorem lw_c18 {l : aL} {P : aP} {kc ks : Nat} {i L : Nat} {xs : Nat → Int32} {M : aM}  (hG : ∀ G, l.2 G → scOk (some L, fun _ => none, [], []) xs G) (o1 : vp_in ((nI i) + (Int32.ofInt 1)) L) (Q2 : Int32 → aM → Prop) (c3 : ∀ hh, iT (pI pg 143) = tableOf hh → ACH l (pI pg 143) hh (gcI Q2) 2 12 [.ref 0, .int (xs ((nI i) + (Int32.ofInt 1)).toNatClampNeg), .ref 93] SHF M) (Q4 : Int32 → aM → Int32 → aM → Prop) (c5 : ∀ (y2 : Int32), ∀ (M2 : aM), ∀ (q2 : Q2 y2 M2), AC l (pI pg 230) (gcI (Q4 y2 M2)) 0 0 [.ref 58, .int (xs ((nI i) + (Int32.ofInt 1)).toNatClampNeg)] SHF M2) (k6 : ∀ (y2 : Int32), ∀ (M2 : aM), ∀ (q2 : Q2 y2 M2), ∀ (y4 : Int32), ∀ (M4 : aM), ∀ (q4 : (Q4 y2 M2) y4 M4), AW l (pI pg 248) P kc ks 1093 [(4, .int (nI i)), (0, .retAddr 0), (1, .ref 0), (2, .ref 58), (3, .ref 93)] [] SHF M4) : AW l (pI pg 248) P (kc + 2) (ks + 12) 784 [(4, .int (nI i)), (0, .retAddr 0), (1, .ref 0), (2, .ref 58), (3, .ref 93)] [] SHF M := by
  refine AW.aload_n (dq rfl) rfl rfl ?_
  show AW l (pI pg 248) P (kc + 2) (ks + 12) 785 _ _ SHF _
  refine AW.aload_n (dq rfl) rfl rfl ?_
  show AW l (pI pg 248) P (kc + 2) (ks + 12) 786 _ _ SHF _
  refine AW.iload (dq rfl) rfl ?_
  show AW l (pI pg 248) P (kc + 2) (ks + 12) 788 _ _ SHF _
  refine AW.iconst (dq rfl) ?_
  show AW l (pI pg 248) P (kc + 2) (ks + 12) 789 _ _ SHF _
  refine AW.iadd (dq rfl) ?_
  show AW l (pI pg 248) P (kc + 2) (ks + 12) 790 _ _ SHF _
  refine AW.sld hG (dq rfl) rfl (o1) ?_
  show AW l (pI pg 248) P (kc + 2) (ks + 12) 791 _ _ SHF _
  refine AW.aload_n (dq rfl) rfl rfl ?_
  show AW l (pI pg 248) P (kc + 2) (ks + 12) 792 _ _ SHF _
  refine gl_callH (as := [.ref 0, .int (xs ((nI i) + (Int32.ofInt 1)).toNatClampNeg), .ref 93]) (dq rfl) (pg_ok.2.2.1 248 _ _ _ _ rfl) (by decide +kernel) rfl rfl (c3) (fun y2 M2 q2 => ?_)
  show AW l (pI pg 248) P kc ks 795 [(4, .int (nI i)), (0, .retAddr 0), (1, .ref 0), (2, .ref 58), (3, .ref 93)] [.int (y2)] SHF _
  refine AW.istore (dq rfl) (by decide +kernel) ?_
  show AW l (pI pg 248) P kc ks 797 [(5, .int (y2)), (4, .int (nI i)), (0, .retAddr 0), (1, .ref 0), (2, .ref 58), (3, .ref 93)] [] SHF _
  refine AW.aload_n (dq rfl) rfl rfl ?_
  show AW l (pI pg 248) P kc ks 798 _ _ SHF _
  refine AW.aload_n (dq rfl) rfl rfl ?_
  show AW l (pI pg 248) P kc ks 799 _ _ SHF _
  refine AW.iload (dq rfl) rfl ?_
  show AW l (pI pg 248) P kc ks 801 _ _ SHF _
  refine AW.iconst (dq rfl) ?_
  show AW l (pI pg 248) P kc ks 802 _ _ SHF _
  refine AW.iadd (dq rfl) ?_
  show AW l (pI pg 248) P kc ks 803 _ _ SHF _
  refine AW.sld hG (dq rfl) rfl (o1) ?_
  show AW l (pI pg 248) P kc ks 804 _ _ SHF _
  refine gl_callVI (as := [.int (xs ((nI i) + (Int32.ofInt 1)).toNatClampNeg)]) (dq rfl) (pg_ok.2.2.1 248 _ _ _ _ rfl) rfl (by decide +kernel) rfl rfl (c5 y2 M2 q2) (fun y4 M4 q4 => ?_)
  show AW l (pI pg 248) P kc ks 807 [(5, .int (y2)), (4, .int (nI i)), (0, .retAddr 0), (1, .ref 0), (2, .ref 58), (3, .ref 93)] [.int (y4)] SHF _
  refine AW.istore (dq rfl) (by decide +kernel) ?_
  show AW l (pI pg 248) P kc ks 809 [(6, .int (y4)), (5, .int (y2)), (4, .int (nI i)), (0, .retAddr 0), (1, .ref 0), (2, .ref 58), (3, .ref 93)] [] SHF _
  refine AW.goto (dq rfl) (tgt := 1093) (by decide) ?_
  refine AW.drop (lv' := [(4, .int (nI i)), (0, .retAddr 0), (1, .ref 0), (2, .ref 58), (3, .ref 93)]) (List.forall_mem_cons.mpr ⟨List.mem_of_getElem? (i := 2) rfl, List.forall_mem_cons.mpr ⟨List.mem_of_getElem? (i := 3) rfl, List.forall_mem_cons.mpr ⟨List.mem_of_getElem? (i := 4) rfl, List.forall_mem_cons.mpr ⟨List.mem_of_getElem? (i := 5) rfl, List.forall_mem_cons.mpr ⟨List.mem_of_getElem? (i := 6) rfl, fun _ h => absurd h List.not_mem_nil⟩⟩⟩⟩⟩) ?_
  exact k6 y2 M2 q2 y4 M4 q4

theorem lw_c19 {l : aL} {P : aP} {kc ks : Nat} {i L : Nat} {xs : Nat → Int32} {M : aM}  (hG : ∀ G, l.2 G → scOk (some L, fun _ => none, [], []) xs G) (o1 : vp_in ((nI i) + (Int32.ofInt 1)) L) (Q2 : Int32 → aM → Prop) (c3 : ∀ hh, iT (pI pg 149) = tableOf hh → ACH l (pI pg 149) hh (gcI Q2) 2 12 [.ref 0, .int (xs ((nI i) + (Int32.ofInt 1)).toNatClampNeg), .ref 93] SHF M) (Q4 : Int32 → aM → Int32 → aM → Prop) (c5 : ∀ (y2 : Int32), ∀ (M2 : aM), ∀ (q2 : Q2 y2 M2), AC l (pI pg 235) (gcI (Q4 y2 M2)) 0 0 [.ref 58, .int (xs ((nI i) + (Int32.ofInt 1)).toNatClampNeg)] SHF M2) (k6 : ∀ (y2 : Int32), ∀ (M2 : aM), ∀ (q2 : Q2 y2 M2), ∀ (y4 : Int32), ∀ (M4 : aM), ∀ (q4 : (Q4 y2 M2) y4 M4), AW l (pI pg 248) P kc ks 1093 [(4, .int (nI i)), (0, .retAddr 0), (1, .ref 0), (2, .ref 58), (3, .ref 93)] [] SHF M4) : AW l (pI pg 248) P (kc + 2) (ks + 12) 812 [(4, .int (nI i)), (0, .retAddr 0), (1, .ref 0), (2, .ref 58), (3, .ref 93)] [] SHF M := by
  refine AW.aload_n (dq rfl) rfl rfl ?_
  show AW l (pI pg 248) P (kc + 2) (ks + 12) 813 _ _ SHF _
  refine AW.aload_n (dq rfl) rfl rfl ?_
  show AW l (pI pg 248) P (kc + 2) (ks + 12) 814 _ _ SHF _
  refine AW.iload (dq rfl) rfl ?_
  show AW l (pI pg 248) P (kc + 2) (ks + 12) 816 _ _ SHF _
  refine AW.iconst (dq rfl) ?_
  show AW l (pI pg 248) P (kc + 2) (ks + 12) 817 _ _ SHF _
  refine AW.iadd (dq rfl) ?_
  show AW l (pI pg 248) P (kc + 2) (ks + 12) 818 _ _ SHF _
  refine AW.sld hG (dq rfl) rfl (o1) ?_
  show AW l (pI pg 248) P (kc + 2) (ks + 12) 819 _ _ SHF _
  refine AW.aload_n (dq rfl) rfl rfl ?_
  show AW l (pI pg 248) P (kc + 2) (ks + 12) 820 _ _ SHF _
  refine gl_callH (as := [.ref 0, .int (xs ((nI i) + (Int32.ofInt 1)).toNatClampNeg), .ref 93]) (dq rfl) (pg_ok.2.2.1 248 _ _ _ _ rfl) (by decide +kernel) rfl rfl (c3) (fun y2 M2 q2 => ?_)
  show AW l (pI pg 248) P kc ks 823 [(4, .int (nI i)), (0, .retAddr 0), (1, .ref 0), (2, .ref 58), (3, .ref 93)] [.int (y2)] SHF _
  refine AW.istore (dq rfl) (by decide +kernel) ?_
  show AW l (pI pg 248) P kc ks 825 [(5, .int (y2)), (4, .int (nI i)), (0, .retAddr 0), (1, .ref 0), (2, .ref 58), (3, .ref 93)] [] SHF _
  refine AW.aload_n (dq rfl) rfl rfl ?_
  show AW l (pI pg 248) P kc ks 826 _ _ SHF _
  refine AW.aload_n (dq rfl) rfl rfl ?_
  show AW l (pI pg 248) P kc ks 827 _ _ SHF _
  refine AW.iload (dq rfl) rfl ?_
  show AW l (pI pg 248) P kc ks 829 _ _ SHF _
  refine AW.iconst (dq rfl) ?_
  show AW l (pI pg 248) P kc ks 830 _ _ SHF _
  refine AW.iadd (dq rfl) ?_
  show AW l (pI pg 248) P kc ks 831 _ _ SHF _
  refine AW.sld hG (dq rfl) rfl (o1) ?_
  show AW l (pI pg 248) P kc ks 832 _ _ SHF _
  refine gl_callVI (as := [.int (xs ((nI i) + (Int32.ofInt 1)).toNatClampNeg)]) (dq rfl) (pg_ok.2.2.1 248 _ _ _ _ rfl) rfl (by decide +kernel) rfl rfl (c5 y2 M2 q2) (fun y4 M4 q4 => ?_)
  show AW l (pI pg 248) P kc ks 835 [(5, .int (y2)), (4, .int (nI i)), (0, .retAddr 0), (1, .ref 0), (2, .ref 58), (3, .ref 93)] [.int (y4)] SHF _
  refine AW.istore (dq rfl) (by decide +kernel) ?_
  show AW l (pI pg 248) P kc ks 837 [(6, .int (y4)), (5, .int (y2)), (4, .int (nI i)), (0, .retAddr 0), (1, .ref 0), (2, .ref 58), (3, .ref 93)] [] SHF _
  refine AW.goto (dq rfl) (tgt := 1093) (by decide) ?_
  refine AW.drop (lv' := [(4, .int (nI i)), (0, .retAddr 0), (1, .ref 0), (2, .ref 58), (3, .ref 93)]) (List.forall_mem_cons.mpr ⟨List.mem_of_getElem? (i := 2) rfl, List.forall_mem_cons.mpr ⟨List.mem_of_getElem? (i := 3) rfl, List.forall_mem_cons.mpr ⟨List.mem_of_getElem? (i := 4) rfl, List.forall_mem_cons.mpr ⟨List.mem_of_getElem? (i := 5) rfl, List.forall_mem_cons.mpr ⟨List.mem_of_getElem? (i := 6) rfl, fun _ h => absurd h List.not_mem_nil⟩⟩⟩⟩⟩) ?_
  exact k6 y2 M2 q2 y4 M4 q4

theorem lw_c20 {l : aL} {P : aP} {kc ks : Nat} {i L : Nat} {xs : Nat → Int32} {M : aM}  (hG : ∀ G, l.2 G → scOk (some L, fun _ => none, [], []) xs G) (o1 : vp_in ((nI i) + (Int32.ofInt 1)) L) (o2 : vp_in ((nI i) + (Int32.ofInt 2)) L) (Q3 : Int32 → aM → Prop) (c4 : ∀ hh, iT (pI pg 151) = tableOf hh → ACH l (pI pg 151) hh (gcI Q3) 2 12 [.ref 0, .int (xs ((nI i) + (Int32.ofInt 1)).toNatClampNeg), .int (xs ((nI i) + (Int32.ofInt 2)).toNatClampNeg), .ref 93] SHF M) (Q5 : Int32 → aM → Int32 → aM → Prop) (c6 : ∀ (y3 : Int32), ∀ (M3 : aM), ∀ (q3 : Q3 y3 M3), AC l (pI pg 236) (gcI (Q5 y3 M3)) 0 0 [.ref 58, .int (xs ((nI i) + (Int32.ofInt 1)).toNatClampNeg), .int (xs ((nI i) + (Int32.ofInt 2)).toNatClampNeg)] SHF M3) (k7 : ∀ (y3 : Int32), ∀ (M3 : aM), ∀ (q3 : Q3 y3 M3), ∀ (y5 : Int32), ∀ (M5 : aM), ∀ (q5 : (Q5 y3 M3) y5 M5), AW l (pI pg 248) P kc ks 1093 [(4, .int (nI i)), (0, .retAddr 0), (1, .ref 0), (2, .ref 58), (3, .ref 93)] [] SHF M5) : AW l (pI pg 248) P (kc + 2) (ks + 12) 840 [(4, .int (nI i)), (0, .retAddr 0), (1, .ref 0), (2, .ref 58), (3, .ref 93)] [] SHF M := by
  refine AW.aload_n (dq rfl) rfl rfl ?_
  show AW l (pI pg 248) P (kc + 2) (ks + 12) 841 _ _ SHF _
  refine AW.aload_n (dq rfl) rfl rfl ?_
  show AW l (pI pg 248) P (kc + 2) (ks + 12) 842 _ _ SHF _
  refine AW.iload (dq rfl) rfl ?_
  show AW l (pI pg 248) P (kc + 2) (ks + 12) 844 _ _ SHF _
  refine AW.iconst (dq rfl) ?_
  show AW l (pI pg 248) P (kc + 2) (ks + 12) 845 _ _ SHF _
  refine AW.iadd (dq rfl) ?_
  show AW l (pI pg 248) P (kc + 2) (ks + 12) 846 _ _ SHF _
  refine AW.sld hG (dq rfl) rfl (o1) ?_
  show AW l (pI pg 248) P (kc + 2) (ks + 12) 847 _ _ SHF _
  refine AW.aload_n (dq rfl) rfl rfl ?_
  show AW l (pI pg 248) P (kc + 2) (ks + 12) 848 _ _ SHF _
  refine AW.iload (dq rfl) rfl ?_
  show AW l (pI pg 248) P (kc + 2) (ks + 12) 850 _ _ SHF _
  refine AW.iconst (dq rfl) ?_
  show AW l (pI pg 248) P (kc + 2) (ks + 12) 851 _ _ SHF _
  refine AW.iadd (dq rfl) ?_
  show AW l (pI pg 248) P (kc + 2) (ks + 12) 852 _ _ SHF _
  refine AW.sld hG (dq rfl) rfl (o2) ?_
  show AW l (pI pg 248) P (kc + 2) (ks + 12) 853 _ _ SHF _
  refine AW.aload_n (dq rfl) rfl rfl ?_
  show AW l (pI pg 248) P (kc + 2) (ks + 12) 854 _ _ SHF _
  refine gl_callH (as := [.ref 0, .int (xs ((nI i) + (Int32.ofInt 1)).toNatClampNeg), .int (xs ((nI i) + (Int32.ofInt 2)).toNatClampNeg), .ref 93]) (dq rfl) (pg_ok.2.2.1 248 _ _ _ _ rfl) (by decide +kernel) rfl rfl (c4) (fun y3 M3 q3 => ?_)
  show AW l (pI pg 248) P kc ks 857 [(4, .int (nI i)), (0, .retAddr 0), (1, .ref 0), (2, .ref 58), (3, .ref 93)] [.int (y3)] SHF _
  refine AW.istore (dq rfl) (by decide +kernel) ?_
  show AW l (pI pg 248) P kc ks 859 [(5, .int (y3)), (4, .int (nI i)), (0, .retAddr 0), (1, .ref 0), (2, .ref 58), (3, .ref 93)] [] SHF _
  refine AW.aload_n (dq rfl) rfl rfl ?_
  show AW l (pI pg 248) P kc ks 860 _ _ SHF _
  refine AW.aload_n (dq rfl) rfl rfl ?_
  show AW l (pI pg 248) P kc ks 861 _ _ SHF _
  refine AW.iload (dq rfl) rfl ?_
  show AW l (pI pg 248) P kc ks 863 _ _ SHF _
  refine AW.iconst (dq rfl) ?_
  show AW l (pI pg 248) P kc ks 864 _ _ SHF _
  refine AW.iadd (dq rfl) ?_
  show AW l (pI pg 248) P kc ks 865 _ _ SHF _
  refine AW.sld hG (dq rfl) rfl (o1) ?_
  show AW l (pI pg 248) P kc ks 866 _ _ SHF _
  refine AW.aload_n (dq rfl) rfl rfl ?_
  show AW l (pI pg 248) P kc ks 867 _ _ SHF _
  refine AW.iload (dq rfl) rfl ?_
  show AW l (pI pg 248) P kc ks 869 _ _ SHF _
  refine AW.iconst (dq rfl) ?_
  show AW l (pI pg 248) P kc ks 870 _ _ SHF _
  refine AW.iadd (dq rfl) ?_
  show AW l (pI pg 248) P kc ks 871 _ _ SHF _
  refine AW.sld hG (dq rfl) rfl (o2) ?_
  show AW l (pI pg 248) P kc ks 872 _ _ SHF _
  refine gl_callVI (as := [.int (xs ((nI i) + (Int32.ofInt 1)).toNatClampNeg), .int (xs ((nI i) + (Int32.ofInt 2)).toNatClampNeg)]) (dq rfl) (pg_ok.2.2.1 248 _ _ _ _ rfl) rfl (by decide +kernel) rfl rfl (c6 y3 M3 q3) (fun y5 M5 q5 => ?_)
  show AW l (pI pg 248) P kc ks 875 [(5, .int (y3)), (4, .int (nI i)), (0, .retAddr 0), (1, .ref 0), (2, .ref 58), (3, .ref 93)] [.int (y5)] SHF _
  refine AW.istore (dq rfl) (by decide +kernel) ?_
  show AW l (pI pg 248) P kc ks 877 [(6, .int (y5)), (5, .int (y3)), (4, .int (nI i)), (0, .retAddr 0), (1, .ref 0), (2, .ref 58), (3, .ref 93)] [] SHF _
  refine AW.goto (dq rfl) (tgt := 1093) (by decide) ?_
  refine AW.drop (lv' := [(4, .int (nI i)), (0, .retAddr 0), (1, .ref 0), (2, .ref 58), (3, .ref 93)]) (List.forall_mem_cons.mpr ⟨List.mem_of_getElem? (i := 2) rfl, List.forall_mem_cons.mpr ⟨List.mem_of_getElem? (i := 3) rfl, List.forall_mem_cons.mpr ⟨List.mem_of_getElem? (i := 4) rfl, List.forall_mem_cons.mpr ⟨List.mem_of_getElem? (i := 5) rfl, List.forall_mem_cons.mpr ⟨List.mem_of_getElem? (i := 6) rfl, fun _ h => absurd h List.not_mem_nil⟩⟩⟩⟩⟩) ?_
  exact k7 y3 M3 q3 y5 M5 q5

theorem lw_c21 {l : aL} {P : aP} {kc ks : Nat} {i L : Nat} {xs : Nat → Int32} {M : aM}  (hG : ∀ G, l.2 G → scOk (some L, fun _ => none, [], []) xs G) (o1 : vp_in ((nI i) + (Int32.ofInt 1)) L) (o2 : vp_in ((nI i) + (Int32.ofInt 2)) L) (Q3 : Int32 → aM → Prop) (c4 : ∀ hh, iT (pI pg 153) = tableOf hh → ACH l (pI pg 153) hh (gcI Q3) 2 12 [.ref 0, .int (xs ((nI i) + (Int32.ofInt 1)).toNatClampNeg), .int (xs ((nI i) + (Int32.ofInt 2)).toNatClampNeg), .ref 93] SHF M) (Q5 : Int32 → aM → Int32 → aM → Prop) (c6 : ∀ (y3 : Int32), ∀ (M3 : aM), ∀ (q3 : Q3 y3 M3), AC l (pI pg 237) (gcI (Q5 y3 M3)) 0 0 [.ref 58, .int (xs ((nI i) + (Int32.ofInt 1)).toNatClampNeg), .int (xs ((nI i) + (Int32.ofInt 2)).toNatClampNeg)] SHF M3) (Q7 : Int32 → aM → Int32 → aM → Int32 → aM → Prop) (c8 : ∀ (y3 : Int32), ∀ (M3 : aM), ∀ (q3 : Q3 y3 M3), ∀ (y5 : Int32), ∀ (M5 : aM), ∀ (q5 : (Q5 y3 M3) y5 M5), AC l (pI pg 171) (gcI (Q7 y3 M3 y5 M5)) 0 0 [.ref 58] SHF M5) (k11 : ∀ (y3 : Int32), ∀ (M3 : aM), ∀ (q3 : Q3 y3 M3), ∀ (y5 : Int32), ∀ (M5 : aM), ∀ (q5 : (Q5 y3 M3) y5 M5), ∀ (y7 : Int32), ∀ (M7 : aM), ∀ (q7 : (Q7 y3 M3 y5 M5) y7 M7), ∀ (h9 : (y7 : Int32) = (y3 : Int32)), ∀ (h10 : ¬ (y3 : Int32) = 0), AW l (pI pg 248) P kc ks 1093 [(4, .int (nI i)), (0, .retAddr 0), (1, .ref 0), (2, .ref 58), (3, .ref 93)] [] SHF M7) (o12 : ∀ (y3 : Int32), ∀ (M3 : aM), ∀ (q3 : Q3 y3 M3), ∀ (y5 : Int32), ∀ (M5 : aM), ∀ (q5 : (Q5 y3 M3) y5 M5), ∀ (y7 : Int32), ∀ (M7 : aM), ∀ (q7 : (Q7 y3 M3 y5 M5) y7 M7), ∀ (h9 : (y7 : Int32) = (y3 : Int32)), ∀ (h10 : (y3 : Int32) = 0), vp_in (Int32.ofInt 0) 1) (k14 : ∀ (y3 : Int32), ∀ (M3 : aM), ∀ (q3 : Q3 y3 M3), ∀ (y5 : Int32), ∀ (M5 : aM), ∀ (q5 : (Q5 y3 M3) y5 M5), ∀ (y7 : Int32), ∀ (M7 : aM), ∀ (q7 : (Q7 y3 M3 y5 M5) y7 M7), ∀ (h9 : (y7 : Int32) = (y3 : Int32)), ∀ (h10 : (y3 : Int32) = 0), ∀ (h13 : (lg_cmp (M7.2.1 93 (Int32.ofInt 0).toNatClampNeg) ((y5).toInt64) : Int32) = 0), AW l (pI pg 248) P kc ks 1093 [(4, .int (nI i)), (0, .retAddr 0), (1, .ref 0), (2, .ref 58), (3, .ref 93)] [] SHF M7) (r15 : ∀ (y3 : Int32), ∀ (M3 : aM), ∀ (q3 : Q3 y3 M3), ∀ (y5 : Int32), ∀ (M5 : aM), ∀ (q5 : (Q5 y3 M3) y5 M5), ∀ (y7 : Int32), ∀ (M7 : aM), ∀ (q7 : (Q7 y3 M3 y5 M5) y7 M7), ∀ (h9 : (y7 : Int32) = (y3 : Int32)), ∀ (h10 : (y3 : Int32) = 0), ∀ (h13 : ¬ ((lg_cmp (M7.2.1 93 (Int32.ofInt 0).toNatClampNeg) ((y5).toInt64) : Int32) = 0)), P (.inl (some (.int (Int32.ofInt 0)))) SHF M7) (r16 : ∀ (y3 : Int32), ∀ (M3 : aM), ∀ (q3 : Q3 y3 M3), ∀ (y5 : Int32), ∀ (M5 : aM), ∀ (q5 : (Q5 y3 M3) y5 M5), ∀ (y7 : Int32), ∀ (M7 : aM), ∀ (q7 : (Q7 y3 M3 y5 M5) y7 M7), ∀ (h9 : ¬ ((y7 : Int32) = (y3 : Int32))), P (.inl (some (.int (Int32.ofInt 0)))) SHF M7) : AW l (pI pg 248) P (kc + 2) (ks + 12) 880 [(4, .int (nI i)), (0, .retAddr 0), (1, .ref 0), (2, .ref 58), (3, .ref 93)] [] SHF M := by
  refine AW.aload_n (dq rfl) rfl rfl ?_
  show AW l (pI pg 248) P (kc + 2) (ks + 12) 881 _ _ SHF _
  refine AW.aload_n (dq rfl) rfl rfl ?_
  show AW l (pI pg 248) P (kc + 2) (ks + 12) 882 _ _ SHF _
  refine AW.iload (dq rfl) rfl ?_
  show AW l (pI pg 248) P (kc + 2) (ks + 12) 884 _ _ SHF _
  refine AW.iconst (dq rfl) ?_
  show AW l (pI pg 248) P (kc + 2) (ks + 12) 885 _ _ SHF _
  refine AW.iadd (dq rfl) ?_
  show AW l (pI pg 248) P (kc + 2) (ks + 12) 886 _ _ SHF _
  refine AW.sld hG (dq rfl) rfl (o1) ?_
  show AW l (pI pg 248) P (kc + 2) (ks + 12) 887 _ _ SHF _
  refine AW.aload_n (dq rfl) rfl rfl ?_
  show AW l (pI pg 248) P (kc + 2) (ks + 12) 888 _ _ SHF _
  refine AW.iload (dq rfl) rfl ?_
  show AW l (pI pg 248) P (kc + 2) (ks + 12) 890 _ _ SHF _
  refine AW.iconst (dq rfl) ?_
  show AW l (pI pg 248) P (kc + 2) (ks + 12) 891 _ _ SHF _
  refine AW.iadd (dq rfl) ?_
  show AW l (pI pg 248) P (kc + 2) (ks + 12) 892 _ _ SHF _
  refine AW.sld hG (dq rfl) rfl (o2) ?_
  show AW l (pI pg 248) P (kc + 2) (ks + 12) 893 _ _ SHF _
  refine AW.aload_n (dq rfl) rfl rfl ?_
  show AW l (pI pg 248) P (kc + 2) (ks + 12) 894 _ _ SHF _
  refine gl_callH (as := [.ref 0, .int (xs ((nI i) + (Int32.ofInt 1)).toNatClampNeg), .int (xs ((nI i) + (Int32.ofInt 2)).toNatClampNeg), .ref 93]) (dq rfl) (pg_ok.2.2.1 248 _ _ _ _ rfl) (by decide +kernel) rfl rfl (c4) (fun y3 M3 q3 => ?_)
  show AW l (pI pg 248) P kc ks 897 [(4, .int (nI i)), (0, .retAddr 0), (1, .ref 0), (2, .ref 58), (3, .ref 93)] [.int (y3)] SHF _
  refine AW.istore (dq rfl) (by decide +kernel) ?_
  show AW l (pI pg 248) P kc ks 899 [(5, .int (y3)), (4, .int (nI i)), (0, .retAddr 0), (1, .ref 0), (2, .ref 58), (3, .ref 93)] [] SHF _
  refine AW.aload_n (dq rfl) rfl rfl ?_
  show AW l (pI pg 248) P kc ks 900 _ _ SHF _
  refine AW.aload_n (dq rfl) rfl rfl ?_
  show AW l (pI pg 248) P kc ks 901 _ _ SHF _
  refine AW.iload (dq rfl) rfl ?_
  show AW l (pI pg 248) P kc ks 903 _ _ SHF _
  refine AW.iconst (dq rfl) ?_
  show AW l (pI pg 248) P kc ks 904 _ _ SHF _
  refine AW.iadd (dq rfl) ?_
  show AW l (pI pg 248) P kc ks 905 _ _ SHF _
  refine AW.sld hG (dq rfl) rfl (o1) ?_
  show AW l (pI pg 248) P kc ks 906 _ _ SHF _
  refine AW.aload_n (dq rfl) rfl rfl ?_
  show AW l (pI pg 248) P kc ks 907 _ _ SHF _
  refine AW.iload (dq rfl) rfl ?_
  show AW l (pI pg 248) P kc ks 909 _ _ SHF _
  refine AW.iconst (dq rfl) ?_
  show AW l (pI pg 248) P kc ks 910 _ _ SHF _
  refine AW.iadd (dq rfl) ?_
  show AW l (pI pg 248) P kc ks 911 _ _ SHF _
  refine AW.sld hG (dq rfl) rfl (o2) ?_
  show AW l (pI pg 248) P kc ks 912 _ _ SHF _
  refine gl_callVI (as := [.int (xs ((nI i) + (Int32.ofInt 1)).toNatClampNeg), .int (xs ((nI i) + (Int32.ofInt 2)).toNatClampNeg)]) (dq rfl) (pg_ok.2.2.1 248 _ _ _ _ rfl) rfl (by decide +kernel) rfl rfl (c6 y3 M3 q3) (fun y5 M5 q5 => ?_)
  show AW l (pI pg 248) P kc ks 915 [(5, .int (y3)), (4, .int (nI i)), (0, .retAddr 0), (1, .ref 0), (2, .ref 58), (3, .ref 93)] [.int (y5)] SHF _
  refine AW.istore (dq rfl) (by decide +kernel) ?_
  show AW l (pI pg 248) P kc ks 917 [(6, .int (y5)), (5, .int (y3)), (4, .int (nI i)), (0, .retAddr 0), (1, .ref 0), (2, .ref 58), (3, .ref 93)] [] SHF _
  refine AW.aload_n (dq rfl) rfl rfl ?_
  show AW l (pI pg 248) P kc ks 918 _ _ SHF _
  refine gl_callVI (as := []) (dq rfl) (pg_ok.2.2.1 248 _ _ _ _ rfl) rfl (by decide +kernel) rfl rfl (c8 y3 M3 q3 y5 M5 q5) (fun y7 M7 q7 => ?_)
  show AW l (pI pg 248) P kc ks 921 [(6, .int (y5)), (5, .int (y3)), (4, .int (nI i)), (0, .retAddr 0), (1, .ref 0), (2, .ref 58), (3, .ref 93)] [.int (y7)] SHF _
  refine AW.iload (dq rfl) rfl ?_
  show AW l (pI pg 248) P kc ks 923 _ _ SHF _
  refine AW.icmp_eq (dq rfl) (tgt := 928) (by decide) (fun h9 => ?_) (fun h9 => ?_)
  · have _ := h9
    refine AW.iload (dq rfl) rfl ?_
    show AW l (pI pg 248) P kc ks 930 _ _ SHF _
    refine AW.if_ne (dq rfl) (tgt := 945) (by decide) (fun h10 => ?_) (fun h10 => ?_)
    · have _ := h10
      refine AW.goto (dq rfl) (tgt := 1093) (by decide) ?_
      refine AW.drop (lv' := [(4, .int (nI i)), (0, .retAddr 0), (1, .ref 0), (2, .ref 58), (3, .ref 93)]) (List.forall_mem_cons.mpr ⟨List.mem_of_getElem? (i := 2) rfl, List.forall_mem_cons.mpr ⟨List.mem_of_getElem? (i := 3) rfl, List.forall_mem_cons.mpr ⟨List.mem_of_getElem? (i := 4) rfl, List.forall_mem_cons.mpr ⟨List.mem_of_getElem? (i := 5) rfl, List.forall_mem_cons.mpr ⟨List.mem_of_getElem? (i := 6) rfl, fun _ h => absurd h List.not_mem_nil⟩⟩⟩⟩⟩) ?_
      exact k11 y3 M3 q3 y5 M5 q5 y7 M7 q7 h9 h10
    · have _ := h10
      refine AW.aload_n (dq rfl) rfl rfl ?_
      show AW l (pI pg 248) P kc ks 934 _ _ SHF _
      refine AW.iconst (dq rfl) ?_
      show AW l (pI pg 248) P kc ks 935 _ _ SHF _
      refine AW.lald (dq rfl) rfl (o12 y3 M3 q3 y5 M5 q5 y7 M7 q7 h9 h10) ?_
      show AW l (pI pg 248) P kc ks 936 _ _ SHF _
      refine AW.iload (dq rfl) rfl ?_
      show AW l (pI pg 248) P kc ks 938 _ _ SHF _
      refine AW.i2l (dq rfl) ?_
      show AW l (pI pg 248) P kc ks 939 _ _ SHF _
      refine AW.lcmp (dq rfl) ?_
      show AW l (pI pg 248) P kc ks 940 _ _ SHF _
      refine AW.if_eq (dq rfl) (tgt := 945) (by decide) (fun h13 => ?_) (fun h13 => ?_)
      · have _ := h13
        refine AW.goto (dq rfl) (tgt := 1093) (by decide) ?_
        refine AW.drop (lv' := [(4, .int (nI i)), (0, .retAddr 0), (1, .ref 0), (2, .ref 58), (3, .ref 93)]) (List.forall_mem_cons.mpr ⟨List.mem_of_getElem? (i := 2) rfl, List.forall_mem_cons.mpr ⟨List.mem_of_getElem? (i := 3) rfl, List.forall_mem_cons.mpr ⟨List.mem_of_getElem? (i := 4) rfl, List.forall_mem_cons.mpr ⟨List.mem_of_getElem? (i := 5) rfl, List.forall_mem_cons.mpr ⟨List.mem_of_getElem? (i := 6) rfl, fun _ h => absurd h List.not_mem_nil⟩⟩⟩⟩⟩) ?_
        exact k14 y3 M3 q3 y5 M5 q5 y7 M7 q7 h9 h10 h13
      · have _ := h13
        refine AW.iconst (dq rfl) ?_
        show AW l (pI pg 248) P kc ks 944 _ _ SHF _
        refine AW.zret (dq rfl) rfl (by decide) ?_
        exact r15 y3 M3 q3 y5 M5 q5 y7 M7 q7 h9 h10 h13
  · have _ := h9
    refine AW.iconst (dq rfl) ?_
    show AW l (pI pg 248) P kc ks 927 _ _ SHF _
    refine AW.zret (dq rfl) rfl (by decide) ?_
    exact r16 y3 M3 q3 y5 M5 q5 y7 M7 q7 h9

theorem lw_c22 {l : aL} {P : aP} {kc ks : Nat} {i L : Nat} {xs : Nat → Int32} {M : aM}  (hG : ∀ G, l.2 G → scOk (some L, fun _ => none, [], []) xs G) (o1 : vp_in ((nI i) + (Int32.ofInt 1)) L) (Q2 : aM → Prop) (c3 : AC l (pI pg 33) (gcV Q2) 2 12 [.ref 0, .int (xs ((nI i) + (Int32.ofInt 1)).toNatClampNeg)] SHF M) (Q4 : aM → aM → Prop) (c5 : ∀ (M2 : aM), ∀ (q2 : Q2 M2), AC l (pI pg 238) (gcV (Q4 M2)) 0 0 [.ref 58, .int (xs ((nI i) + (Int32.ofInt 1)).toNatClampNeg)] SHF M2) (k6 : ∀ (M2 : aM), ∀ (q2 : Q2 M2), ∀ (M4 : aM), ∀ (q4 : (Q4 M2) M4), AW l (pI pg 248) P kc ks 1093 [(4, .int (nI i)), (0, .retAddr 0), (1, .ref 0), (2, .ref 58), (3, .ref 93)] [] SHF M4) : AW l (pI pg 248) P (kc + 2) (ks + 12) 948 [(4, .int (nI i)), (0, .retAddr 0), (1, .ref 0), (2, .ref 58), (3, .ref 93)] [] SHF M := by
  refine AW.aload_n (dq rfl) rfl rfl ?_
  show AW l (pI pg 248) P (kc + 2) (ks + 12) 949 _ _ SHF _
  refine AW.aload_n (dq rfl) rfl rfl ?_
  show AW l (pI pg 248) P (kc + 2) (ks + 12) 950 _ _ SHF _
  refine AW.iload (dq rfl) rfl ?_
  show AW l (pI pg 248) P (kc + 2) (ks + 12) 952 _ _ SHF _
  refine AW.iconst (dq rfl) ?_
  show AW l (pI pg 248) P (kc + 2) (ks + 12) 953 _ _ SHF _
  refine AW.iadd (dq rfl) ?_
  show AW l (pI pg 248) P (kc + 2) (ks + 12) 954 _ _ SHF _
  refine AW.sld hG (dq rfl) rfl (o1) ?_
  show AW l (pI pg 248) P (kc + 2) (ks + 12) 955 _ _ SHF _
  refine gl_callVV (as := [.int (xs ((nI i) + (Int32.ofInt 1)).toNatClampNeg)]) (dq rfl) (pg_ok.2.2.1 248 _ _ _ _ rfl) rfl (by decide +kernel) rfl rfl (c3) (fun M2 q2 => ?_)
  show AW l (pI pg 248) P kc ks 958 [(4, .int (nI i)), (0, .retAddr 0), (1, .ref 0), (2, .ref 58), (3, .ref 93)] [] SHF _
  refine AW.aload_n (dq rfl) rfl rfl ?_
  show AW l (pI pg 248) P kc ks 959 _ _ SHF _
  refine AW.aload_n (dq rfl) rfl rfl ?_
  show AW l (pI pg 248) P kc ks 960 _ _ SHF _
  refine AW.iload (dq rfl) rfl ?_
  show AW l (pI pg 248) P kc ks 962 _ _ SHF _
  refine AW.iconst (dq rfl) ?_
  show AW l (pI pg 248) P kc ks 963 _ _ SHF _
  refine AW.iadd (dq rfl) ?_
  show AW l (pI pg 248) P kc ks 964 _ _ SHF _
  refine AW.sld hG (dq rfl) rfl (o1) ?_
  show AW l (pI pg 248) P kc ks 965 _ _ SHF _
  refine gl_callVV (as := [.int (xs ((nI i) + (Int32.ofInt 1)).toNatClampNeg)]) (dq rfl) (pg_ok.2.2.1 248 _ _ _ _ rfl) rfl (by decide +kernel) rfl rfl (c5 M2 q2) (fun M4 q4 => ?_)
  show AW l (pI pg 248) P kc ks 968 [(4, .int (nI i)), (0, .retAddr 0), (1, .ref 0), (2, .ref 58), (3, .ref 93)] [] SHF _
  refine AW.goto (dq rfl) (tgt := 1093) (by decide) ?_
  refine AW.drop (lv' := [(4, .int (nI i)), (0, .retAddr 0), (1, .ref 0), (2, .ref 58), (3, .ref 93)]) (List.forall_mem_cons.mpr ⟨List.mem_of_getElem? (i := 0) rfl, List.forall_mem_cons.mpr ⟨List.mem_of_getElem? (i := 1) rfl, List.forall_mem_cons.mpr ⟨List.mem_of_getElem? (i := 2) rfl, List.forall_mem_cons.mpr ⟨List.mem_of_getElem? (i := 3) rfl, List.forall_mem_cons.mpr ⟨List.mem_of_getElem? (i := 4) rfl, fun _ h => absurd h List.not_mem_nil⟩⟩⟩⟩⟩) ?_
  exact k6 M2 q2 M4 q4

theorem lw_c23 {l : aL} {P : aP} {kc ks : Nat} {i L : Nat} {xs : Nat → Int32} {M : aM}  (hG : ∀ G, l.2 G → scOk (some L, fun _ => none, [], []) xs G) (o1 : vp_in ((nI i) + (Int32.ofInt 1)) L) (Q2 : Int32 → aM → Prop) (c3 : ∀ hh, iT (pI pg 155) = tableOf hh → ACH l (pI pg 155) hh (gcI Q2) 2 12 [.ref 0, .int (xs ((nI i) + (Int32.ofInt 1)).toNatClampNeg), .ref 93] SHF M) (Q4 : Int32 → aM → Int32 → aM → Prop) (c5 : ∀ (y2 : Int32), ∀ (M2 : aM), ∀ (q2 : Q2 y2 M2), AC l (pI pg 239) (gcI (Q4 y2 M2)) 0 0 [.ref 58, .int (xs ((nI i) + (Int32.ofInt 1)).toNatClampNeg)] SHF M2) (k6 : ∀ (y2 : Int32), ∀ (M2 : aM), ∀ (q2 : Q2 y2 M2), ∀ (y4 : Int32), ∀ (M4 : aM), ∀ (q4 : (Q4 y2 M2) y4 M4), AW l (pI pg 248) P kc ks 1093 [(4, .int (nI i)), (0, .retAddr 0), (1, .ref 0), (2, .ref 58), (3, .ref 93)] [] SHF M4) : AW l (pI pg 248) P (kc + 2) (ks + 12) 971 [(4, .int (nI i)), (0, .retAddr 0), (1, .ref 0), (2, .ref 58), (3, .ref 93)] [] SHF M := by
  refine AW.aload_n (dq rfl) rfl rfl ?_
  show AW l (pI pg 248) P (kc + 2) (ks + 12) 972 _ _ SHF _
  refine AW.aload_n (dq rfl) rfl rfl ?_
  show AW l (pI pg 248) P (kc + 2) (ks + 12) 973 _ _ SHF _
  refine AW.iload (dq rfl) rfl ?_
  show AW l (pI pg 248) P (kc + 2) (ks + 12) 975 _ _ SHF _
  refine AW.iconst (dq rfl) ?_
  show AW l (pI pg 248) P (kc + 2) (ks + 12) 976 _ _ SHF _
  refine AW.iadd (dq rfl) ?_
  show AW l (pI pg 248) P (kc + 2) (ks + 12) 977 _ _ SHF _
  refine AW.sld hG (dq rfl) rfl (o1) ?_
  show AW l (pI pg 248) P (kc + 2) (ks + 12) 978 _ _ SHF _
  refine AW.aload_n (dq rfl) rfl rfl ?_
  show AW l (pI pg 248) P (kc + 2) (ks + 12) 979 _ _ SHF _
  refine gl_callH (as := [.ref 0, .int (xs ((nI i) + (Int32.ofInt 1)).toNatClampNeg), .ref 93]) (dq rfl) (pg_ok.2.2.1 248 _ _ _ _ rfl) (by decide +kernel) rfl rfl (c3) (fun y2 M2 q2 => ?_)
  show AW l (pI pg 248) P kc ks 982 [(4, .int (nI i)), (0, .retAddr 0), (1, .ref 0), (2, .ref 58), (3, .ref 93)] [.int (y2)] SHF _
  refine AW.istore (dq rfl) (by decide +kernel) ?_
  show AW l (pI pg 248) P kc ks 984 [(5, .int (y2)), (4, .int (nI i)), (0, .retAddr 0), (1, .ref 0), (2, .ref 58), (3, .ref 93)] [] SHF _
  refine AW.aload_n (dq rfl) rfl rfl ?_
  show AW l (pI pg 248) P kc ks 985 _ _ SHF _
  refine AW.aload_n (dq rfl) rfl rfl ?_
  show AW l (pI pg 248) P kc ks 986 _ _ SHF _
  refine AW.iload (dq rfl) rfl ?_
  show AW l (pI pg 248) P kc ks 988 _ _ SHF _
  refine AW.iconst (dq rfl) ?_
  show AW l (pI pg 248) P kc ks 989 _ _ SHF _
  refine AW.iadd (dq rfl) ?_
  show AW l (pI pg 248) P kc ks 990 _ _ SHF _
  refine AW.sld hG (dq rfl) rfl (o1) ?_
  show AW l (pI pg 248) P kc ks 991 _ _ SHF _
  refine gl_callVI (as := [.int (xs ((nI i) + (Int32.ofInt 1)).toNatClampNeg)]) (dq rfl) (pg_ok.2.2.1 248 _ _ _ _ rfl) rfl (by decide +kernel) rfl rfl (c5 y2 M2 q2) (fun y4 M4 q4 => ?_)
  show AW l (pI pg 248) P kc ks 994 [(5, .int (y2)), (4, .int (nI i)), (0, .retAddr 0), (1, .ref 0), (2, .ref 58), (3, .ref 93)] [.int (y4)] SHF _
  refine AW.istore (dq rfl) (by decide +kernel) ?_
  show AW l (pI pg 248) P kc ks 996 [(6, .int (y4)), (5, .int (y2)), (4, .int (nI i)), (0, .retAddr 0), (1, .ref 0), (2, .ref 58), (3, .ref 93)] [] SHF _
  refine AW.goto (dq rfl) (tgt := 1093) (by decide) ?_
  refine AW.drop (lv' := [(4, .int (nI i)), (0, .retAddr 0), (1, .ref 0), (2, .ref 58), (3, .ref 93)]) (List.forall_mem_cons.mpr ⟨List.mem_of_getElem? (i := 2) rfl, List.forall_mem_cons.mpr ⟨List.mem_of_getElem? (i := 3) rfl, List.forall_mem_cons.mpr ⟨List.mem_of_getElem? (i := 4) rfl, List.forall_mem_cons.mpr ⟨List.mem_of_getElem? (i := 5) rfl, List.forall_mem_cons.mpr ⟨List.mem_of_getElem? (i := 6) rfl, fun _ h => absurd h List.not_mem_nil⟩⟩⟩⟩⟩) ?_
  exact k6 y2 M2 q2 y4 M4 q4

theorem lw_c24 {l : aL} {P : aP} {kc ks : Nat} {i L : Nat} {xs : Nat → Int32} {M : aM}  (hG : ∀ G, l.2 G → scOk (some L, fun _ => none, [], []) xs G) (o1 : vp_in ((nI i) + (Int32.ofInt 1)) L) (o2 : vp_in ((nI i) + (Int32.ofInt 2)) L) (Q3 : Int32 → aM → Prop) (c4 : ∀ hh, iT (pI pg 163) = tableOf hh → ACH l (pI pg 163) hh (gcI Q3) 2 12 [.ref 0, .int (xs ((nI i) + (Int32.ofInt 1)).toNatClampNeg), .int (xs ((nI i) + (Int32.ofInt 2)).toNatClampNeg), .ref 93] SHF M) (Q5 : Int32 → aM → Int32 → aM → Prop) (c6 : ∀ (y3 : Int32), ∀ (M3 : aM), ∀ (q3 : Q3 y3 M3), AC l (pI pg 244) (gcI (Q5 y3 M3)) 0 0 [.ref 58, .int (xs ((nI i) + (Int32.ofInt 1)).toNatClampNeg), .int (xs ((nI i) + (Int32.ofInt 2)).toNatClampNeg)] SHF M3) (k7 : ∀ (y3 : Int32), ∀ (M3 : aM), ∀ (q3 : Q3 y3 M3), ∀ (y5 : Int32), ∀ (M5 : aM), ∀ (q5 : (Q5 y3 M3) y5 M5), AW l (pI pg 248) P kc ks 1093 [(4, .int (nI i)), (0, .retAddr 0), (1, .ref 0), (2, .ref 58), (3, .ref 93)] [] SHF M5) : AW l (pI pg 248) P (kc + 2) (ks + 12) 999 [(4, .int (nI i)), (0, .retAddr 0), (1, .ref 0), (2, .ref 58), (3, .ref 93)] [] SHF M := by
  refine AW.aload_n (dq rfl) rfl rfl ?_
  show AW l (pI pg 248) P (kc + 2) (ks + 12) 1000 _ _ SHF _
  refine AW.aload_n (dq rfl) rfl rfl ?_
  show AW l (pI pg 248) P (kc + 2) (ks + 12) 1001 _ _ SHF _
  refine AW.iload (dq rfl) rfl ?_
  show AW l (pI pg 248) P (kc + 2) (ks + 12) 1003 _ _ SHF _
  refine AW.iconst (dq rfl) ?_
  show AW l (pI pg 248) P (kc + 2) (ks + 12) 1004 _ _ SHF _
  refine AW.iadd (dq rfl) ?_
  show AW l (pI pg 248) P (kc + 2) (ks + 12) 1005 _ _ SHF _
  refine AW.sld hG (dq rfl) rfl (o1) ?_
  show AW l (pI pg 248) P (kc + 2) (ks + 12) 1006 _ _ SHF _
  refine AW.aload_n (dq rfl) rfl rfl ?_
  show AW l (pI pg 248) P (kc + 2) (ks + 12) 1007 _ _ SHF _
  refine AW.iload (dq rfl) rfl ?_
  show AW l (pI pg 248) P (kc + 2) (ks + 12) 1009 _ _ SHF _
  refine AW.iconst (dq rfl) ?_
  show AW l (pI pg 248) P (kc + 2) (ks + 12) 1010 _ _ SHF _
  refine AW.iadd (dq rfl) ?_
  show AW l (pI pg 248) P (kc + 2) (ks + 12) 1011 _ _ SHF _
  refine AW.sld hG (dq rfl) rfl (o2) ?_
  show AW l (pI pg 248) P (kc + 2) (ks + 12) 1012 _ _ SHF _
  refine AW.aload_n (dq rfl) rfl rfl ?_
  show AW l (pI pg 248) P (kc + 2) (ks + 12) 1013 _ _ SHF _
  refine gl_callH (as := [.ref 0, .int (xs ((nI i) + (Int32.ofInt 1)).toNatClampNeg), .int (xs ((nI i) + (Int32.ofInt 2)).toNatClampNeg), .ref 93]) (dq rfl) (pg_ok.2.2.1 248 _ _ _ _ rfl) (by decide +kernel) rfl rfl (c4) (fun y3 M3 q3 => ?_)
  show AW l (pI pg 248) P kc ks 1016 [(4, .int (nI i)), (0, .retAddr 0), (1, .ref 0), (2, .ref 58), (3, .ref 93)] [.int (y3)] SHF _
  refine AW.istore (dq rfl) (by decide +kernel) ?_
  show AW l (pI pg 248) P kc ks 1018 [(5, .int (y3)), (4, .int (nI i)), (0, .retAddr 0), (1, .ref 0), (2, .ref 58), (3, .ref 93)] [] SHF _
  refine AW.aload_n (dq rfl) rfl rfl ?_
  show AW l (pI pg 248) P kc ks 1019 _ _ SHF _
  refine AW.aload_n (dq rfl) rfl rfl ?_
  show AW l (pI pg 248) P kc ks 1020 _ _ SHF _
  refine AW.iload (dq rfl) rfl ?_
  show AW l (pI pg 248) P kc ks 1022 _ _ SHF _
  refine AW.iconst (dq rfl) ?_
  show AW l (pI pg 248) P kc ks 1023 _ _ SHF _
  refine AW.iadd (dq rfl) ?_
  show AW l (pI pg 248) P kc ks 1024 _ _ SHF _
  refine AW.sld hG (dq rfl) rfl (o1) ?_
  show AW l (pI pg 248) P kc ks 1025 _ _ SHF _
  refine AW.aload_n (dq rfl) rfl rfl ?_
  show AW l (pI pg 248) P kc ks 1026 _ _ SHF _
  refine AW.iload (dq rfl) rfl ?_
  show AW l (pI pg 248) P kc ks 1028 _ _ SHF _
  refine AW.iconst (dq rfl) ?_
  show AW l (pI pg 248) P kc ks 1029 _ _ SHF _
  refine AW.iadd (dq rfl) ?_
  show AW l (pI pg 248) P kc ks 1030 _ _ SHF _
  refine AW.sld hG (dq rfl) rfl (o2) ?_
  show AW l (pI pg 248) P kc ks 1031 _ _ SHF _
  refine gl_callVI (as := [.int (xs ((nI i) + (Int32.ofInt 1)).toNatClampNeg), .int (xs ((nI i) + (Int32.ofInt 2)).toNatClampNeg)]) (dq rfl) (pg_ok.2.2.1 248 _ _ _ _ rfl) rfl (by decide +kernel) rfl rfl (c6 y3 M3 q3) (fun y5 M5 q5 => ?_)
  show AW l (pI pg 248) P kc ks 1034 [(5, .int (y3)), (4, .int (nI i)), (0, .retAddr 0), (1, .ref 0), (2, .ref 58), (3, .ref 93)] [.int (y5)] SHF _
  refine AW.istore (dq rfl) (by decide +kernel) ?_
  show AW l (pI pg 248) P kc ks 1036 [(6, .int (y5)), (5, .int (y3)), (4, .int (nI i)), (0, .retAddr 0), (1, .ref 0), (2, .ref 58), (3, .ref 93)] [] SHF _
  refine AW.goto (dq rfl) (tgt := 1093) (by decide) ?_
  refine AW.drop (lv' := [(4, .int (nI i)), (0, .retAddr 0), (1, .ref 0), (2, .ref 58), (3, .ref 93)]) (List.forall_mem_cons.mpr ⟨List.mem_of_getElem? (i := 2) rfl, List.forall_mem_cons.mpr ⟨List.mem_of_getElem? (i := 3) rfl, List.forall_mem_cons.mpr ⟨List.mem_of_getElem? (i := 4) rfl, List.forall_mem_cons.mpr ⟨List.mem_of_getElem? (i := 5) rfl, List.forall_mem_cons.mpr ⟨List.mem_of_getElem? (i := 6) rfl, fun _ h => absurd h List.not_mem_nil⟩⟩⟩⟩⟩) ?_
  exact k7 y3 M3 q3 y5 M5 q5

theorem lw_c25 {l : aL} {P : aP} {kc ks : Nat} {i L : Nat} {xs : Nat → Int32} {M : aM}  (hG : ∀ G, l.2 G → scOk (some L, fun _ => none, [], []) xs G) (o1 : vp_in ((nI i) + (Int32.ofInt 1)) L) (Q2 : Int32 → aM → Prop) (c3 : ∀ hh, iT (pI pg 168) = tableOf hh → ACH l (pI pg 168) hh (gcI Q2) 2 12 [.ref 0, .int (xs ((nI i) + (Int32.ofInt 1)).toNatClampNeg), .ref 93] SHF M) (Q4 : Int32 → aM → Int32 → aM → Prop) (c5 : ∀ (y2 : Int32), ∀ (M2 : aM), ∀ (q2 : Q2 y2 M2), AC l (pI pg 245) (gcI (Q4 y2 M2)) 0 0 [.ref 58, .int (xs ((nI i) + (Int32.ofInt 1)).toNatClampNeg)] SHF M2) (k6 : ∀ (y2 : Int32), ∀ (M2 : aM), ∀ (q2 : Q2 y2 M2), ∀ (y4 : Int32), ∀ (M4 : aM), ∀ (q4 : (Q4 y2 M2) y4 M4), AW l (pI pg 248) P kc ks 1093 [(4, .int (nI i)), (0, .retAddr 0), (1, .ref 0), (2, .ref 58), (3, .ref 93)] [] SHF M4) : AW l (pI pg 248) P (kc + 2) (ks + 12) 1039 [(4, .int (nI i)), (0, .retAddr 0), (1, .ref 0), (2, .ref 58), (3, .ref 93)] [] SHF M := by
  refine AW.aload_n (dq rfl) rfl rfl ?_
  show AW l (pI pg 248) P (kc + 2) (ks + 12) 1040 _ _ SHF _
  refine AW.aload_n (dq rfl) rfl rfl ?_
  show AW l (pI pg 248) P (kc + 2) (ks + 12) 1041 _ _ SHF _
  refine AW.iload (dq rfl) rfl ?_
  show AW l (pI pg 248) P (kc + 2) (ks + 12) 1043 _ _ SHF _
  refine AW.iconst (dq rfl) ?_
  show AW l (pI pg 248) P (kc + 2) (ks + 12) 1044 _ _ SHF _
  refine AW.iadd (dq rfl) ?_
  show AW l (pI pg 248) P (kc + 2) (ks + 12) 1045 _ _ SHF _
  refine AW.sld hG (dq rfl) rfl (o1) ?_
  show AW l (pI pg 248) P (kc + 2) (ks + 12) 1046 _ _ SHF _
  refine AW.aload_n (dq rfl) rfl rfl ?_
  show AW l (pI pg 248) P (kc + 2) (ks + 12) 1047 _ _ SHF _
  refine gl_callH (as := [.ref 0, .int (xs ((nI i) + (Int32.ofInt 1)).toNatClampNeg), .ref 93]) (dq rfl) (pg_ok.2.2.1 248 _ _ _ _ rfl) (by decide +kernel) rfl rfl (c3) (fun y2 M2 q2 => ?_)
  show AW l (pI pg 248) P kc ks 1050 [(4, .int (nI i)), (0, .retAddr 0), (1, .ref 0), (2, .ref 58), (3, .ref 93)] [.int (y2)] SHF _
  refine AW.istore (dq rfl) (by decide +kernel) ?_
  show AW l (pI pg 248) P kc ks 1052 [(5, .int (y2)), (4, .int (nI i)), (0, .retAddr 0), (1, .ref 0), (2, .ref 58), (3, .ref 93)] [] SHF _
  refine AW.aload_n (dq rfl) rfl rfl ?_
  show AW l (pI pg 248) P kc ks 1053 _ _ SHF _
  refine AW.aload_n (dq rfl) rfl rfl ?_
  show AW l (pI pg 248) P kc ks 1054 _ _ SHF _
  refine AW.iload (dq rfl) rfl ?_
  show AW l (pI pg 248) P kc ks 1056 _ _ SHF _
  refine AW.iconst (dq rfl) ?_
  show AW l (pI pg 248) P kc ks 1057 _ _ SHF _
  refine AW.iadd (dq rfl) ?_
  show AW l (pI pg 248) P kc ks 1058 _ _ SHF _
  refine AW.sld hG (dq rfl) rfl (o1) ?_
  show AW l (pI pg 248) P kc ks 1059 _ _ SHF _
  refine gl_callVI (as := [.int (xs ((nI i) + (Int32.ofInt 1)).toNatClampNeg)]) (dq rfl) (pg_ok.2.2.1 248 _ _ _ _ rfl) rfl (by decide +kernel) rfl rfl (c5 y2 M2 q2) (fun y4 M4 q4 => ?_)
  show AW l (pI pg 248) P kc ks 1062 [(5, .int (y2)), (4, .int (nI i)), (0, .retAddr 0), (1, .ref 0), (2, .ref 58), (3, .ref 93)] [.int (y4)] SHF _
  refine AW.istore (dq rfl) (by decide +kernel) ?_
  show AW l (pI pg 248) P kc ks 1064 [(6, .int (y4)), (5, .int (y2)), (4, .int (nI i)), (0, .retAddr 0), (1, .ref 0), (2, .ref 58), (3, .ref 93)] [] SHF _
  refine AW.goto (dq rfl) (tgt := 1093) (by decide) ?_
  refine AW.drop (lv' := [(4, .int (nI i)), (0, .retAddr 0), (1, .ref 0), (2, .ref 58), (3, .ref 93)]) (List.forall_mem_cons.mpr ⟨List.mem_of_getElem? (i := 2) rfl, List.forall_mem_cons.mpr ⟨List.mem_of_getElem? (i := 3) rfl, List.forall_mem_cons.mpr ⟨List.mem_of_getElem? (i := 4) rfl, List.forall_mem_cons.mpr ⟨List.mem_of_getElem? (i := 5) rfl, List.forall_mem_cons.mpr ⟨List.mem_of_getElem? (i := 6) rfl, fun _ h => absurd h List.not_mem_nil⟩⟩⟩⟩⟩) ?_
  exact k6 y2 M2 q2 y4 M4 q4

theorem lw_c26 {l : aL} {P : aP} {kc ks : Nat} {i L : Nat} {xs : Nat → Int32} {M : aM}  (hG : ∀ G, l.2 G → scOk (some L, fun _ => none, [], []) xs G) (Q1 : Int32 → aM → Prop) (c2 : AC l (pI pg 35) (gcI Q1) 2 12 [.ref 0] SHF M) (Q3 : Int32 → aM → Int32 → aM → Prop) (c4 : ∀ (y1 : Int32), ∀ (M1 : aM), ∀ (q1 : Q1 y1 M1), AC l (pI pg 246) (gcI (Q3 y1 M1)) 0 0 [.ref 58] SHF M1) (k5 : ∀ (y1 : Int32), ∀ (M1 : aM), ∀ (q1 : Q1 y1 M1), ∀ (y3 : Int32), ∀ (M3 : aM), ∀ (q3 : (Q3 y1 M1) y3 M3), AW l (pI pg 248) P kc ks 1093 [(4, .int (nI i)), (0, .retAddr 0), (1, .ref 0), (2, .ref 58), (3, .ref 93)] [] SHF M3) : AW l (pI pg 248) P (kc + 2) (ks + 12) 1067 [(4, .int (nI i)), (0, .retAddr 0), (1, .ref 0), (2, .ref 58), (3, .ref 93)] [] SHF M := by
  refine AW.aload_n (dq rfl) rfl rfl ?_
  show AW l (pI pg 248) P (kc + 2) (ks + 12) 1068 _ _ SHF _
  refine gl_callVI (as := []) (dq rfl) (pg_ok.2.2.1 248 _ _ _ _ rfl) rfl (by decide +kernel) rfl rfl (c2) (fun y1 M1 q1 => ?_)
  show AW l (pI pg 248) P kc ks 1071 [(4, .int (nI i)), (0, .retAddr 0), (1, .ref 0), (2, .ref 58), (3, .ref 93)] [.int (y1)] SHF _
  refine AW.pop (dq rfl) rfl ?_
  show AW l (pI pg 248) P kc ks 1072 _ _ SHF _
  refine AW.aload_n (dq rfl) rfl rfl ?_
  show AW l (pI pg 248) P kc ks 1073 _ _ SHF _
  refine gl_callVI (as := []) (dq rfl) (pg_ok.2.2.1 248 _ _ _ _ rfl) rfl (by decide +kernel) rfl rfl (c4 y1 M1 q1) (fun y3 M3 q3 => ?_)
  show AW l (pI pg 248) P kc ks 1076 [(4, .int (nI i)), (0, .retAddr 0), (1, .ref 0), (2, .ref 58), (3, .ref 93)] [.int (y3)] SHF _
  refine AW.pop (dq rfl) rfl ?_
  show AW l (pI pg 248) P kc ks 1077 _ _ SHF _
  refine AW.goto (dq rfl) (tgt := 1093) (by decide) ?_
  refine AW.drop (lv' := [(4, .int (nI i)), (0, .retAddr 0), (1, .ref 0), (2, .ref 58), (3, .ref 93)]) (List.forall_mem_cons.mpr ⟨List.mem_of_getElem? (i := 0) rfl, List.forall_mem_cons.mpr ⟨List.mem_of_getElem? (i := 1) rfl, List.forall_mem_cons.mpr ⟨List.mem_of_getElem? (i := 2) rfl, List.forall_mem_cons.mpr ⟨List.mem_of_getElem? (i := 3) rfl, List.forall_mem_cons.mpr ⟨List.mem_of_getElem? (i := 4) rfl, fun _ h => absurd h List.not_mem_nil⟩⟩⟩⟩⟩) ?_
  exact k5 y1 M1 q1 y3 M3 q3

theorem lw_c27 {l : aL} {P : aP} {kc ks : Nat} {i L : Nat} {xs : Nat → Int32} {M : aM}  (hG : ∀ G, l.2 G → scOk (some L, fun _ => none, [], []) xs G) (Q1 : Int32 → aM → Prop) (c2 : AC l (pI pg 37) (gcI Q1) 2 12 [.ref 0] SHF M) (Q3 : Int32 → aM → Int32 → aM → Prop) (c4 : ∀ (y1 : Int32), ∀ (M1 : aM), ∀ (q1 : Q1 y1 M1), AC l (pI pg 247) (gcI (Q3 y1 M1)) 0 0 [.ref 58] SHF M1) (k5 : ∀ (y1 : Int32), ∀ (M1 : aM), ∀ (q1 : Q1 y1 M1), ∀ (y3 : Int32), ∀ (M3 : aM), ∀ (q3 : (Q3 y1 M1) y3 M3), AW l (pI pg 248) P kc ks 1093 [(4, .int (nI i)), (0, .retAddr 0), (1, .ref 0), (2, .ref 58), (3, .ref 93)] [] SHF M3) : AW l (pI pg 248) P (kc + 2) (ks + 12) 1080 [(4, .int (nI i)), (0, .retAddr 0), (1, .ref 0), (2, .ref 58), (3, .ref 93)] [] SHF M := by
  refine AW.aload_n (dq rfl) rfl rfl ?_
  show AW l (pI pg 248) P (kc + 2) (ks + 12) 1081 _ _ SHF _
  refine gl_callVI (as := []) (dq rfl) (pg_ok.2.2.1 248 _ _ _ _ rfl) rfl (by decide +kernel) rfl rfl (c2) (fun y1 M1 q1 => ?_)
  show AW l (pI pg 248) P kc ks 1084 [(4, .int (nI i)), (0, .retAddr 0), (1, .ref 0), (2, .ref 58), (3, .ref 93)] [.int (y1)] SHF _
  refine AW.pop (dq rfl) rfl ?_
  show AW l (pI pg 248) P kc ks 1085 _ _ SHF _
  refine AW.aload_n (dq rfl) rfl rfl ?_
  show AW l (pI pg 248) P kc ks 1086 _ _ SHF _
  refine gl_callVI (as := []) (dq rfl) (pg_ok.2.2.1 248 _ _ _ _ rfl) rfl (by decide +kernel) rfl rfl (c4 y1 M1 q1) (fun y3 M3 q3 => ?_)
  show AW l (pI pg 248) P kc ks 1089 [(4, .int (nI i)), (0, .retAddr 0), (1, .ref 0), (2, .ref 58), (3, .ref 93)] [.int (y3)] SHF _
  refine AW.pop (dq rfl) rfl ?_
  show AW l (pI pg 248) P kc ks 1090 _ _ SHF _
  refine AW.goto (dq rfl) (tgt := 1093) (by decide) ?_
  refine AW.drop (lv' := [(4, .int (nI i)), (0, .retAddr 0), (1, .ref 0), (2, .ref 58), (3, .ref 93)]) (List.forall_mem_cons.mpr ⟨List.mem_of_getElem? (i := 0) rfl, List.forall_mem_cons.mpr ⟨List.mem_of_getElem? (i := 1) rfl, List.forall_mem_cons.mpr ⟨List.mem_of_getElem? (i := 2) rfl, List.forall_mem_cons.mpr ⟨List.mem_of_getElem? (i := 3) rfl, List.forall_mem_cons.mpr ⟨List.mem_of_getElem? (i := 4) rfl, fun _ h => absurd h List.not_mem_nil⟩⟩⟩⟩⟩) ?_
  exact k5 y1 M1 q1 y3 M3 q3

theorem lw_E {l : aL} {P : aP} {kc ks : Nat} {i L : Nat} {xs : Nat → Int32} {M : aM}  (hG : ∀ G, l.2 G → scOk (some L, fun _ => none, [], []) xs G) (k1 : AW l (pI pg 248) P kc ks 23 [(4, .int ((nI i) + Int32.ofInt 6)), (0, .retAddr 0), (1, .ref 0), (2, .ref 58), (3, .ref 93)] [] SHF M) : AW l (pI pg 248) P kc ks 1093 [(4, .int (nI i)), (0, .retAddr 0), (1, .ref 0), (2, .ref 58), (3, .ref 93)] [] SHF M := by
  refine AW.iinc (dq rfl) rfl (by decide +kernel) ?_
  show AW l (pI pg 248) P kc ks 1096 [(4, .int ((nI i) + Int32.ofInt 6)), (0, .retAddr 0), (1, .ref 0), (2, .ref 58), (3, .ref 93)] [] SHF _
  refine AW.goto (dq rfl) (tgt := 23) (by decide) ?_
  refine AW.drop (lv' := [(4, .int ((nI i) + Int32.ofInt 6)), (0, .retAddr 0), (1, .ref 0), (2, .ref 58), (3, .ref 93)]) (List.forall_mem_cons.mpr ⟨List.mem_of_getElem? (i := 0) rfl, List.forall_mem_cons.mpr ⟨List.mem_of_getElem? (i := 1) rfl, List.forall_mem_cons.mpr ⟨List.mem_of_getElem? (i := 2) rfl, List.forall_mem_cons.mpr ⟨List.mem_of_getElem? (i := 3) rfl, List.forall_mem_cons.mpr ⟨List.mem_of_getElem? (i := 4) rfl, fun _ h => absurd h List.not_mem_nil⟩⟩⟩⟩⟩) ?_
  exact k1

theorem lw_23z {l : aL} {P : aP} {kc ks : Nat} {i L : Nat} {xs : Nat → Int32} {M : aM}  (hG : ∀ G, l.2 G → scOk (some L, fun _ => none, [], []) xs G) (r2 : ∀ (h1 : ((Int32.ofNat L) - ((Int8.ofInt 6).toInt32) : Int32) < (nI i : Int32)), P (.inl (some (.int (Int32.ofInt 1)))) SHF M) (o3 : ∀ (h1 : ¬ (((Int32.ofNat L) - ((Int8.ofInt 6).toInt32) : Int32) < (nI i : Int32))), vp_in (nI i) L) (k4 : ∀ (h1 : ¬ (((Int32.ofNat L) - ((Int8.ofInt 6).toInt32) : Int32) < (nI i : Int32))), AW l (pI pg 248) P 0 0 40 [(4, .int (nI i)), (0, .retAddr 0), (1, .ref 0), (2, .ref 58), (3, .ref 93)] [.int ((xs (nI i).toNatClampNeg) &&& ((Int8.ofInt 31).toInt32))] SHF M) : AW l (pI pg 248) P 0 0 23 [(4, .int (nI i)), (0, .retAddr 0), (1, .ref 0), (2, .ref 58), (3, .ref 93)] [] SHF M := by
  refine AW.iload (dq rfl) rfl ?_
  show AW l (pI pg 248) P 0 0 25 _ _ SHF _
  refine AW.aload_n (dq rfl) rfl rfl ?_
  show AW l (pI pg 248) P 0 0 26 _ _ SHF _
  refine AW.slen hG (dq rfl) rfl ?_
  show AW l (pI pg 248) P 0 0 27 _ _ SHF _
  refine AW.bipush (dq rfl) ?_
  show AW l (pI pg 248) P 0 0 29 _ _ SHF _
  refine AW.isub (dq rfl) ?_
  show AW l (pI pg 248) P 0 0 30 _ _ SHF _
  refine AW.icmp_gt (dq rfl) (tgt := 1099) (by decide) (fun h1 => ?_) (fun h1 => ?_)
  · have _ := h1
    refine AW.iconst (dq rfl) ?_
    show AW l (pI pg 248) P 0 0 1100 _ _ SHF _
    refine AW.zret (dq rfl) rfl (by decide) ?_
    exact r2 h1
  · have _ := h1
    refine AW.aload_n (dq rfl) rfl rfl ?_
    show AW l (pI pg 248) P 0 0 34 _ _ SHF _
    refine AW.iload (dq rfl) rfl ?_
    show AW l (pI pg 248) P 0 0 36 _ _ SHF _
    refine AW.sld hG (dq rfl) rfl (o3 h1) ?_
    show AW l (pI pg 248) P 0 0 37 _ _ SHF _
    refine AW.bipush (dq rfl) ?_
    show AW l (pI pg 248) P 0 0 39 _ _ SHF _
    refine AW.iand (dq rfl) ?_
    show AW l (pI pg 248) P 0 0 40 _ _ SHF _
    refine AW.drop (lv' := [(4, .int (nI i)), (0, .retAddr 0), (1, .ref 0), (2, .ref 58), (3, .ref 93)]) (List.forall_mem_cons.mpr ⟨List.mem_of_getElem? (i := 0) rfl, List.forall_mem_cons.mpr ⟨List.mem_of_getElem? (i := 1) rfl, List.forall_mem_cons.mpr ⟨List.mem_of_getElem? (i := 2) rfl, List.forall_mem_cons.mpr ⟨List.mem_of_getElem? (i := 3) rfl, List.forall_mem_cons.mpr ⟨List.mem_of_getElem? (i := 4) rfl, fun _ h => absurd h List.not_mem_nil⟩⟩⟩⟩⟩) ?_
    exact k4 h1

