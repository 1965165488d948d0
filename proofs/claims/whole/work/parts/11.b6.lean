set_option maxRecDepth 100000 in
set_option maxHeartbeats 4000000 in
theorem a_inflate (l : Launch) (Z : rx_D) (xa ma : Nat) (W V : va_W) (hJ : JI Z xa ma W V) : cal0 l Z xa ma y_DE_inflate b_DE_inflate 1 6 [] y_MD_inflate b_MD_inflate 2 5 W V := by
  obtain ⟨ef, rm, n, nF, c, b, cb, a, i, f, p, tok, a', j, g, rfl, rfl, rfl, rfl, ⟨⟨z1, z2, z3, z4, z5⟩, ⟨e1, e2, e3, e4, e5⟩, ⟨s1, s2, s3, s4⟩, ⟨t1, t2, t3⟩, ⟨u1, u2, u3, u4⟩, ⟨v1, v2⟩, D⟩⟩ := hJ
  obtain ⟨k9, c9, stop9, stt9, bct9, att9, bb29, lln29, dln29, co9, len29, dC29, dL29, dF29, dN29, dP29, dS29, nC29, nL29, nF_29, nN29, nP29, nS29, lC29, lL29, lF29, lN29, lP29, lS29, lm29, fm29, sm29, ma9, fc29, fl29, lc29, ll29, mo9, row29, sc29, sl29, E1, E2, h5, h6⟩ := j_inflate 100000 nF rm cb (f 0) (g 12) (f 31) (f 32) (f 28) (f 29) (i 31) (i 28) (by omega) t3 v1 v2 z3 (i 24) (f 33) (g 20) (i 25) (i 26) (f 34) (i 33) (i 34) (i 35) (f 35) (f 36) (f 37) (i 36) (i 37) (i 38) (f 38) (f 39) (f 40) (i 39) (i 40) (i 41) (f 41) (f 42) (f 43) (j 18) (j 19) (j 20) (g 9) (g 11) (g 14) (g 16) (g 22) (g 25) (g 27)
  have h1 := bx_inflate l Z a rm i f p tok (nI k9) (nI c9) stop9 stt9 bct9 att9 bb29 lln29 dln29 co9 len29 dC29 dL29 dF29 dN29 dP29 dS29 nC29 nL29 nF_29 nN29 nP29 nS29 lC29 lL29 lF29 lN29 lP29 lS29 (by simp only [t1]; exact E1)
  have h2 := bm_inflate l Z a' j g (nI k9) 0 (nI c9) stop9 lm29 fm29 sm29 ma9 fc29 fl29 lc29 ll29 mo9 row29 sc29 sl29 (by simp only [t2, e5]; exact E2)
  refine ⟨_, _, _, h1, h2, ?_⟩
  rintro X' M' ⟨a2, g1, rfl⟩ ⟨a3, g2, rfl⟩
  exact ⟨ef, rm, n, nF, c9, b, cb, a2, _, _, _, _, a3, _, _, rfl, rfl, g1, g2, ⟨⟨z1, z2, z3, z4, h5⟩, ⟨e1, e2, e3, e4, e5⟩, ⟨s1, s2, s3, s4⟩, ⟨t1, t2, t3⟩, ⟨rfl, rfl, h6, rfl⟩, ⟨v1, v2⟩, D⟩⟩
