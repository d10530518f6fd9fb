/-! what a line makes of the village, on both sides (by gen/mkv6.py) -/
theorem up1_two (f : Nat → Int) (i : Nat) (a b : Int) : up1 (up1 f i a) i b = up1 f i b := by
  funext j; rw [up1_ap, up1_ap, up1_ap]; split <;> rfl
theorem WS_who {h : Nat → Int} {n : Nat} {t a : Int} (W : WS h) (h0 : h 0 = n) (hn : n < 8) (ht : 0 ≤ t ∧ t ≤ 9) (ha : 0 ≤ a ∧ a ≤ 99) : WS (up1 (up1 (up1 h (7 + n) t) (15 + n) a) 0 ((n : Int) + 1)) := by
  have pe := W.pe; have so := W.so; have un := W.un; have wa := W.wa
  exact WS.mk
    (by (try simp (disch := omega) only [up1_ne, up1_self]); try (have := W.pe; omega))
    (by (try simp (disch := omega) only [up1_ne, up1_self]); try (have := W.so; omega))
    (by (try simp (disch := omega) only [up1_ne, up1_self]); try (have := W.un; omega))
    (by (try simp (disch := omega) only [up1_ne, up1_self]); try (have := W.wa; omega))
    (by (try simp (disch := omega) only [up1_ne, up1_self]); try (have := W.la; omega))
    (by (try simp (disch := omega) only [up1_ne, up1_self]); try (have := W.ba; omega))
    (fun p hp => by
      by_cases e : p = n
      · subst e; (try simp (disch := omega) only [up1_ne, up1_self] at hp); (try simp (disch := omega) only [up1_ne, up1_self]); try omega
      · (try simp (disch := omega) only [up1_ne, up1_self] at hp); (try simp (disch := omega) only [up1_ne, up1_self]); try (have := W.town p (by omega); omega))
    (fun p hp => by
      by_cases e : p = n
      · subst e; (try simp (disch := omega) only [up1_ne, up1_self] at hp); (try simp (disch := omega) only [up1_ne, up1_self]); try omega
      · (try simp (disch := omega) only [up1_ne, up1_self] at hp); (try simp (disch := omega) only [up1_ne, up1_self]); try (have := W.ask p (by omega); omega))
    (fun k hk => by (try simp (disch := omega) only [up1_ne, up1_self] at hk); (try simp (disch := omega) only [up1_ne, up1_self]); try (have := W.life k (by omega); omega))
    (fun u hu => by (try simp (disch := omega) only [up1_ne, up1_self] at hu); (try simp (disch := omega) only [up1_ne, up1_self]); try (have := W.usort u (by omega); omega))
    (fun u hu => by (try simp (disch := omega) only [up1_ne, up1_self] at hu); (try simp (disch := omega) only [up1_ne, up1_self]); try (have := W.mak u (by omega); omega))
    (fun u hu => by (try simp (disch := omega) only [up1_ne, up1_self] at hu); (try simp (disch := omega) only [up1_ne, up1_self]); try (have := W.par u (by omega); omega))
    (fun u hu => by (try simp (disch := omega) only [up1_ne, up1_self] at hu); (try simp (disch := omega) only [up1_ne, up1_self]); try (have := W.uhour u (by omega); omega))
    (fun u v hl hv => by (try simp (disch := omega) only [up1_ne, up1_self] at hl); (try simp (disch := omega) only [up1_ne, up1_self] at hv); (try simp (disch := omega) only [up1_ne, up1_self]); try (have := W.line u v (by omega) (by omega); omega))
    (fun u v hl hv he => by (try simp (disch := omega) only [up1_ne, up1_self] at hl); (try simp (disch := omega) only [up1_ne, up1_self] at hv); (try simp (disch := omega) only [up1_ne, up1_self] at he); (try simp (disch := omega) only [up1_ne, up1_self]); try (have := W.same u v (by omega) (by omega) (by omega); omega))
    (fun k hk => by (try simp (disch := omega) only [up1_ne, up1_self] at hk); (try simp (disch := omega) only [up1_ne, up1_self]); try (have := W.wwho k (by omega); omega))
    (fun k hk => by (try simp (disch := omega) only [up1_ne, up1_self] at hk); (try simp (disch := omega) only [up1_ne, up1_self]); try (have := W.wsort k (by omega); omega))
    (fun k hk => by (try simp (disch := omega) only [up1_ne, up1_self] at hk); (try simp (disch := omega) only [up1_ne, up1_self]); try (have := W.worth k (by omega); omega))
    (fun k hk => by (try simp (disch := omega) only [up1_ne, up1_self] at hk); (try simp (disch := omega) only [up1_ne, up1_self]); try (have := W.wby k (by omega); omega))
    (fun k hk => by (try simp (disch := omega) only [up1_ne, up1_self] at hk); (try simp (disch := omega) only [up1_ne, up1_self]); try (have := W.told k (by omega); omega))
    (fun a1 b1 ha1 hb1 ht1 => by (try simp (disch := omega) only [up1_ne, up1_self] at ha1); (try simp (disch := omega) only [up1_ne, up1_self] at hb1); (try simp (disch := omega) only [up1_ne, up1_self] at ht1); (try simp (disch := omega) only [up1_ne, up1_self]); try (have := W.tin a1 b1 (by omega) (by omega) (by omega); omega))
    (fun k hk => by (try simp (disch := omega) only [up1_ne, up1_self] at hk); (try simp (disch := omega) only [up1_ne, up1_self]); try (have := W.pai k (by omega); omega))
    (fun k hk => by (try simp (disch := omega) only [up1_ne, up1_self] at hk); (try simp (disch := omega) only [up1_ne, up1_self]); try (have := W.hou k (by omega); omega))
theorem WS_sort {h : Nat → Int} {n : Nat} {v : Int} (W : WS h) (h0 : h 1 = n) (hn : n < 6) (hv0 : 1 ≤ v ∧ v ≤ 48) : WS (up1 (up1 h (23 + n) v) 1 ((n : Int) + 1)) := by
  have pe := W.pe; have so := W.so; have un := W.un; have wa := W.wa
  exact WS.mk
    (by (try simp (disch := omega) only [up1_ne, up1_self]); try (have := W.pe; omega))
    (by (try simp (disch := omega) only [up1_ne, up1_self]); try (have := W.so; omega))
    (by (try simp (disch := omega) only [up1_ne, up1_self]); try (have := W.un; omega))
    (by (try simp (disch := omega) only [up1_ne, up1_self]); try (have := W.wa; omega))
    (by (try simp (disch := omega) only [up1_ne, up1_self]); try (have := W.la; omega))
    (by (try simp (disch := omega) only [up1_ne, up1_self]); try (have := W.ba; omega))
    (fun p hp => by (try simp (disch := omega) only [up1_ne, up1_self] at hp); (try simp (disch := omega) only [up1_ne, up1_self]); try (have := W.town p (by omega); omega))
    (fun p hp => by (try simp (disch := omega) only [up1_ne, up1_self] at hp); (try simp (disch := omega) only [up1_ne, up1_self]); try (have := W.ask p (by omega); omega))
    (fun k hk => by
      by_cases e : k = n
      · subst e; (try simp (disch := omega) only [up1_ne, up1_self] at hk); (try simp (disch := omega) only [up1_ne, up1_self]); try omega
      · (try simp (disch := omega) only [up1_ne, up1_self] at hk); (try simp (disch := omega) only [up1_ne, up1_self]); try (have := W.life k (by omega); omega))
    (fun u hu => by (try simp (disch := omega) only [up1_ne, up1_self] at hu); (try simp (disch := omega) only [up1_ne, up1_self]); try (have := W.usort u (by omega); omega))
    (fun u hu => by (try simp (disch := omega) only [up1_ne, up1_self] at hu); (try simp (disch := omega) only [up1_ne, up1_self]); try (have := W.mak u (by omega); omega))
    (fun u hu => by (try simp (disch := omega) only [up1_ne, up1_self] at hu); (try simp (disch := omega) only [up1_ne, up1_self]); try (have := W.par u (by omega); omega))
    (fun u hu => by (try simp (disch := omega) only [up1_ne, up1_self] at hu); (try simp (disch := omega) only [up1_ne, up1_self]); try (have := W.uhour u (by omega); omega))
    (fun u v hl hv => by (try simp (disch := omega) only [up1_ne, up1_self] at hl); (try simp (disch := omega) only [up1_ne, up1_self] at hv); (try simp (disch := omega) only [up1_ne, up1_self]); try (have := W.line u v (by omega) (by omega); omega))
    (fun u v hl hv he => by (try simp (disch := omega) only [up1_ne, up1_self] at hl); (try simp (disch := omega) only [up1_ne, up1_self] at hv); (try simp (disch := omega) only [up1_ne, up1_self] at he); (try simp (disch := omega) only [up1_ne, up1_self]); try (have := W.same u v (by omega) (by omega) (by omega); omega))
    (fun k hk => by (try simp (disch := omega) only [up1_ne, up1_self] at hk); (try simp (disch := omega) only [up1_ne, up1_self]); try (have := W.wwho k (by omega); omega))
    (fun k hk => by (try simp (disch := omega) only [up1_ne, up1_self] at hk); (try simp (disch := omega) only [up1_ne, up1_self]); try (have := W.wsort k (by omega); omega))
    (fun k hk => by (try simp (disch := omega) only [up1_ne, up1_self] at hk); (try simp (disch := omega) only [up1_ne, up1_self]); try (have := W.worth k (by omega); omega))
    (fun k hk => by (try simp (disch := omega) only [up1_ne, up1_self] at hk); (try simp (disch := omega) only [up1_ne, up1_self]); try (have := W.wby k (by omega); omega))
    (fun k hk => by (try simp (disch := omega) only [up1_ne, up1_self] at hk); (try simp (disch := omega) only [up1_ne, up1_self]); try (have := W.told k (by omega); omega))
    (fun a1 b1 ha1 hb1 ht1 => by (try simp (disch := omega) only [up1_ne, up1_self] at ha1); (try simp (disch := omega) only [up1_ne, up1_self] at hb1); (try simp (disch := omega) only [up1_ne, up1_self] at ht1); (try simp (disch := omega) only [up1_ne, up1_self]); try (have := W.tin a1 b1 (by omega) (by omega) (by omega); omega))
    (fun k hk => by (try simp (disch := omega) only [up1_ne, up1_self] at hk); (try simp (disch := omega) only [up1_ne, up1_self]); try (have := W.pai k (by omega); omega))
    (fun k hk => by (try simp (disch := omega) only [up1_ne, up1_self] at hk); (try simp (disch := omega) only [up1_ne, up1_self]); try (have := W.hou k (by omega); omega))
theorem WS_want {h : Nat → Int} {n : Nat} {a s v b : Int} (W : WS h) (h0 : h 3 = n) (hn : n < 8) (ha : 0 ≤ a ∧ a < h 0) (hs : 0 ≤ s ∧ s < h 1) (hv0 : 0 ≤ v ∧ v ≤ 999) (hb : 0 ≤ b ∧ b ≤ 47) : WS (up1 (up1 (up1 (up1 (up1 h (109 + 4 * n) a) (110 + 4 * n) s) (111 + 4 * n) v) (112 + 4 * n) b) 3 ((n : Int) + 1)) := by
  have pe := W.pe; have so := W.so; have un := W.un; have wa := W.wa
  exact WS.mk
    (by (try simp (disch := omega) only [up1_ne, up1_self]); try (have := W.pe; omega))
    (by (try simp (disch := omega) only [up1_ne, up1_self]); try (have := W.so; omega))
    (by (try simp (disch := omega) only [up1_ne, up1_self]); try (have := W.un; omega))
    (by (try simp (disch := omega) only [up1_ne, up1_self]); try (have := W.wa; omega))
    (by (try simp (disch := omega) only [up1_ne, up1_self]); try (have := W.la; omega))
    (by (try simp (disch := omega) only [up1_ne, up1_self]); try (have := W.ba; omega))
    (fun p hp => by (try simp (disch := omega) only [up1_ne, up1_self] at hp); (try simp (disch := omega) only [up1_ne, up1_self]); try (have := W.town p (by omega); omega))
    (fun p hp => by (try simp (disch := omega) only [up1_ne, up1_self] at hp); (try simp (disch := omega) only [up1_ne, up1_self]); try (have := W.ask p (by omega); omega))
    (fun k hk => by (try simp (disch := omega) only [up1_ne, up1_self] at hk); (try simp (disch := omega) only [up1_ne, up1_self]); try (have := W.life k (by omega); omega))
    (fun u hu => by (try simp (disch := omega) only [up1_ne, up1_self] at hu); (try simp (disch := omega) only [up1_ne, up1_self]); try (have := W.usort u (by omega); omega))
    (fun u hu => by (try simp (disch := omega) only [up1_ne, up1_self] at hu); (try simp (disch := omega) only [up1_ne, up1_self]); try (have := W.mak u (by omega); omega))
    (fun u hu => by (try simp (disch := omega) only [up1_ne, up1_self] at hu); (try simp (disch := omega) only [up1_ne, up1_self]); try (have := W.par u (by omega); omega))
    (fun u hu => by (try simp (disch := omega) only [up1_ne, up1_self] at hu); (try simp (disch := omega) only [up1_ne, up1_self]); try (have := W.uhour u (by omega); omega))
    (fun u v hl hv => by (try simp (disch := omega) only [up1_ne, up1_self] at hl); (try simp (disch := omega) only [up1_ne, up1_self] at hv); (try simp (disch := omega) only [up1_ne, up1_self]); try (have := W.line u v (by omega) (by omega); omega))
    (fun u v hl hv he => by (try simp (disch := omega) only [up1_ne, up1_self] at hl); (try simp (disch := omega) only [up1_ne, up1_self] at hv); (try simp (disch := omega) only [up1_ne, up1_self] at he); (try simp (disch := omega) only [up1_ne, up1_self]); try (have := W.same u v (by omega) (by omega) (by omega); omega))
    (fun k hk => by
      by_cases e : k = n
      · subst e; (try simp (disch := omega) only [up1_ne, up1_self] at hk); (try simp (disch := omega) only [up1_ne, up1_self]); try omega
      · (try simp (disch := omega) only [up1_ne, up1_self] at hk); (try simp (disch := omega) only [up1_ne, up1_self]); try (have := W.wwho k (by omega); omega))
    (fun k hk => by
      by_cases e : k = n
      · subst e; (try simp (disch := omega) only [up1_ne, up1_self] at hk); (try simp (disch := omega) only [up1_ne, up1_self]); try omega
      · (try simp (disch := omega) only [up1_ne, up1_self] at hk); (try simp (disch := omega) only [up1_ne, up1_self]); try (have := W.wsort k (by omega); omega))
    (fun k hk => by
      by_cases e : k = n
      · subst e; (try simp (disch := omega) only [up1_ne, up1_self] at hk); (try simp (disch := omega) only [up1_ne, up1_self]); try omega
      · (try simp (disch := omega) only [up1_ne, up1_self] at hk); (try simp (disch := omega) only [up1_ne, up1_self]); try (have := W.worth k (by omega); omega))
    (fun k hk => by
      by_cases e : k = n
      · subst e; (try simp (disch := omega) only [up1_ne, up1_self] at hk); (try simp (disch := omega) only [up1_ne, up1_self]); try omega
      · (try simp (disch := omega) only [up1_ne, up1_self] at hk); (try simp (disch := omega) only [up1_ne, up1_self]); try (have := W.wby k (by omega); omega))
    (fun k hk => by (try simp (disch := omega) only [up1_ne, up1_self] at hk); (try simp (disch := omega) only [up1_ne, up1_self]); try (have := W.told k (by omega); omega))
    (fun a1 b1 ha1 hb1 ht1 => by (try simp (disch := omega) only [up1_ne, up1_self] at ha1); (try simp (disch := omega) only [up1_ne, up1_self] at hb1); (try simp (disch := omega) only [up1_ne, up1_self] at ht1); (try simp (disch := omega) only [up1_ne, up1_self]); try (have := W.tin a1 b1 (by omega) (by omega) (by omega); omega))
    (fun k hk => by (try simp (disch := omega) only [up1_ne, up1_self] at hk); (try simp (disch := omega) only [up1_ne, up1_self]); try (have := W.pai k (by omega); omega))
    (fun k hk => by (try simp (disch := omega) only [up1_ne, up1_self] at hk); (try simp (disch := omega) only [up1_ne, up1_self]); try (have := W.hou k (by omega); omega))
theorem WS_give {h : Nat → Int} {a b : Nat} {v t : Int} (W : WS h) (ha : (a : Int) < h 0) (hb : (b : Int) < h 0) (hab : a ≠ b) (hv0 : 0 ≤ v ∧ v ≤ 99) (ht : 0 ≤ t ∧ t ≤ 9) : WS (up1 (up1 (up1 h (141 + (8 * a + b)) v) (205 + (8 * a + b)) t) (269 + (8 * a + b)) 1) := by
  have pe := W.pe; have so := W.so; have un := W.un; have wa := W.wa
  exact WS.mk
    (by (try simp (disch := omega) only [up1_ne, up1_self]); try (have := W.pe; omega))
    (by (try simp (disch := omega) only [up1_ne, up1_self]); try (have := W.so; omega))
    (by (try simp (disch := omega) only [up1_ne, up1_self]); try (have := W.un; omega))
    (by (try simp (disch := omega) only [up1_ne, up1_self]); try (have := W.wa; omega))
    (by (try simp (disch := omega) only [up1_ne, up1_self]); try (have := W.la; omega))
    (by (try simp (disch := omega) only [up1_ne, up1_self]); try (have := W.ba; omega))
    (fun p hp => by (try simp (disch := omega) only [up1_ne, up1_self] at hp); (try simp (disch := omega) only [up1_ne, up1_self]); try (have := W.town p (by omega); omega))
    (fun p hp => by (try simp (disch := omega) only [up1_ne, up1_self] at hp); (try simp (disch := omega) only [up1_ne, up1_self]); try (have := W.ask p (by omega); omega))
    (fun k hk => by (try simp (disch := omega) only [up1_ne, up1_self] at hk); (try simp (disch := omega) only [up1_ne, up1_self]); try (have := W.life k (by omega); omega))
    (fun u hu => by (try simp (disch := omega) only [up1_ne, up1_self] at hu); (try simp (disch := omega) only [up1_ne, up1_self]); try (have := W.usort u (by omega); omega))
    (fun u hu => by (try simp (disch := omega) only [up1_ne, up1_self] at hu); (try simp (disch := omega) only [up1_ne, up1_self]); try (have := W.mak u (by omega); omega))
    (fun u hu => by (try simp (disch := omega) only [up1_ne, up1_self] at hu); (try simp (disch := omega) only [up1_ne, up1_self]); try (have := W.par u (by omega); omega))
    (fun u hu => by (try simp (disch := omega) only [up1_ne, up1_self] at hu); (try simp (disch := omega) only [up1_ne, up1_self]); try (have := W.uhour u (by omega); omega))
    (fun u v hl hv => by (try simp (disch := omega) only [up1_ne, up1_self] at hl); (try simp (disch := omega) only [up1_ne, up1_self] at hv); (try simp (disch := omega) only [up1_ne, up1_self]); try (have := W.line u v (by omega) (by omega); omega))
    (fun u v hl hv he => by (try simp (disch := omega) only [up1_ne, up1_self] at hl); (try simp (disch := omega) only [up1_ne, up1_self] at hv); (try simp (disch := omega) only [up1_ne, up1_self] at he); (try simp (disch := omega) only [up1_ne, up1_self]); try (have := W.same u v (by omega) (by omega) (by omega); omega))
    (fun k hk => by (try simp (disch := omega) only [up1_ne, up1_self] at hk); (try simp (disch := omega) only [up1_ne, up1_self]); try (have := W.wwho k (by omega); omega))
    (fun k hk => by (try simp (disch := omega) only [up1_ne, up1_self] at hk); (try simp (disch := omega) only [up1_ne, up1_self]); try (have := W.wsort k (by omega); omega))
    (fun k hk => by (try simp (disch := omega) only [up1_ne, up1_self] at hk); (try simp (disch := omega) only [up1_ne, up1_self]); try (have := W.worth k (by omega); omega))
    (fun k hk => by (try simp (disch := omega) only [up1_ne, up1_self] at hk); (try simp (disch := omega) only [up1_ne, up1_self]); try (have := W.wby k (by omega); omega))
    (fun k hk => by
      by_cases e : k = (8 * a + b)
      · subst e; rw [up1_self]; exact Or.inr rfl
      · (try simp (disch := omega) only [up1_ne, up1_self] at hk); (try simp (disch := omega) only [up1_ne, up1_self]); try (have := W.told k (by omega); omega))
    (fun a1 b1 ha1 hb1 ht1 => by
      by_cases e : a1 = a ∧ b1 = b
      · rw [e.1, e.2]; (try simp (disch := omega) only [up1_ne, up1_self]); try omega
      · (try simp (disch := omega) only [up1_ne, up1_self] at ht1); (try simp (disch := omega) only [up1_ne, up1_self]); try (have := W.tin a1 b1 (by omega) (by omega) (by omega); omega))
    (fun k hk => by
      by_cases e : k = (8 * a + b)
      · subst e; (try simp (disch := omega) only [up1_ne, up1_self] at hk); (try simp (disch := omega) only [up1_ne, up1_self]); try omega
      · (try simp (disch := omega) only [up1_ne, up1_self] at hk); (try simp (disch := omega) only [up1_ne, up1_self]); try (have := W.pai k (by omega); omega))
    (fun k hk => by
      by_cases e : k = (8 * a + b)
      · subst e; (try simp (disch := omega) only [up1_ne, up1_self] at hk); (try simp (disch := omega) only [up1_ne, up1_self]); try omega
      · (try simp (disch := omega) only [up1_ne, up1_self] at hk); (try simp (disch := omega) only [up1_ne, up1_self]); try (have := W.hou k (by omega); omega))
theorem WS_law {h : Nat → Int} {n b : Int} (W : WS h) (hn : 2 ≤ n ∧ n ≤ 6) (hb : 0 ≤ b ∧ b ≤ 3) : WS (up1 (up1 h 4 n) 5 b) := by
  have pe := W.pe; have so := W.so; have un := W.un; have wa := W.wa
  exact WS.mk
    (by (try simp (disch := omega) only [up1_ne, up1_self]); try (have := W.pe; omega))
    (by (try simp (disch := omega) only [up1_ne, up1_self]); try (have := W.so; omega))
    (by (try simp (disch := omega) only [up1_ne, up1_self]); try (have := W.un; omega))
    (by (try simp (disch := omega) only [up1_ne, up1_self]); try (have := W.wa; omega))
    (by simp (disch := omega) only [up1_ne, up1_self]; try omega)
    (by simp (disch := omega) only [up1_ne, up1_self]; try omega)
    (fun p hp => by (try simp (disch := omega) only [up1_ne, up1_self] at hp); (try simp (disch := omega) only [up1_ne, up1_self]); try (have := W.town p (by omega); omega))
    (fun p hp => by (try simp (disch := omega) only [up1_ne, up1_self] at hp); (try simp (disch := omega) only [up1_ne, up1_self]); try (have := W.ask p (by omega); omega))
    (fun k hk => by (try simp (disch := omega) only [up1_ne, up1_self] at hk); (try simp (disch := omega) only [up1_ne, up1_self]); try (have := W.life k (by omega); omega))
    (fun u hu => by (try simp (disch := omega) only [up1_ne, up1_self] at hu); (try simp (disch := omega) only [up1_ne, up1_self]); try (have := W.usort u (by omega); omega))
    (fun u hu => by (try simp (disch := omega) only [up1_ne, up1_self] at hu); (try simp (disch := omega) only [up1_ne, up1_self]); try (have := W.mak u (by omega); omega))
    (fun u hu => by (try simp (disch := omega) only [up1_ne, up1_self] at hu); (try simp (disch := omega) only [up1_ne, up1_self]); try (have := W.par u (by omega); omega))
    (fun u hu => by (try simp (disch := omega) only [up1_ne, up1_self] at hu); (try simp (disch := omega) only [up1_ne, up1_self]); try (have := W.uhour u (by omega); omega))
    (fun u v hl hv => by (try simp (disch := omega) only [up1_ne, up1_self] at hl); (try simp (disch := omega) only [up1_ne, up1_self] at hv); (try simp (disch := omega) only [up1_ne, up1_self]); try (have := W.line u v (by omega) (by omega); omega))
    (fun u v hl hv he => by (try simp (disch := omega) only [up1_ne, up1_self] at hl); (try simp (disch := omega) only [up1_ne, up1_self] at hv); (try simp (disch := omega) only [up1_ne, up1_self] at he); (try simp (disch := omega) only [up1_ne, up1_self]); try (have := W.same u v (by omega) (by omega) (by omega); omega))
    (fun k hk => by (try simp (disch := omega) only [up1_ne, up1_self] at hk); (try simp (disch := omega) only [up1_ne, up1_self]); try (have := W.wwho k (by omega); omega))
    (fun k hk => by (try simp (disch := omega) only [up1_ne, up1_self] at hk); (try simp (disch := omega) only [up1_ne, up1_self]); try (have := W.wsort k (by omega); omega))
    (fun k hk => by (try simp (disch := omega) only [up1_ne, up1_self] at hk); (try simp (disch := omega) only [up1_ne, up1_self]); try (have := W.worth k (by omega); omega))
    (fun k hk => by (try simp (disch := omega) only [up1_ne, up1_self] at hk); (try simp (disch := omega) only [up1_ne, up1_self]); try (have := W.wby k (by omega); omega))
    (fun k hk => by (try simp (disch := omega) only [up1_ne, up1_self] at hk); (try simp (disch := omega) only [up1_ne, up1_self]); try (have := W.told k (by omega); omega))
    (fun a1 b1 ha1 hb1 ht1 => by (try simp (disch := omega) only [up1_ne, up1_self] at ha1); (try simp (disch := omega) only [up1_ne, up1_self] at hb1); (try simp (disch := omega) only [up1_ne, up1_self] at ht1); (try simp (disch := omega) only [up1_ne, up1_self]); try (have := W.tin a1 b1 (by omega) (by omega) (by omega); omega))
    (fun k hk => by (try simp (disch := omega) only [up1_ne, up1_self] at hk); (try simp (disch := omega) only [up1_ne, up1_self]); try (have := W.pai k (by omega); omega))
    (fun k hk => by (try simp (disch := omega) only [up1_ne, up1_self] at hk); (try simp (disch := omega) only [up1_ne, up1_self]); try (have := W.hou k (by omega); omega))
theorem WS_unit {h : Nat → Int} {n : Nat} {ln a b s t : Int} (W : WS h) (h0 : h 2 = n) (hn : n < 16) (hln : 0 ≤ ln ∧ ln ≤ 2000) (ha : 0 ≤ a ∧ a < h 0) (hb : b = -1 ∨ (0 ≤ b ∧ b < h 0 ∧ b ≠ a)) (hs : 0 ≤ s ∧ s < h 1) (ht : 0 ≤ t ∧ t ≤ 47) (hle : ∀ u : Nat, u < n → h (29 + 5 * u) ≤ ln) (heq : ∀ u : Nat, u < n → h (29 + 5 * u) = ln → h (30 + 5 * u) = s ∧ h (31 + 5 * u) = a ∧ h (32 + 5 * u) = b ∧ h (33 + 5 * u) = t) : WS (up1 (up1 (up1 (up1 (up1 (up1 h (29 + 5 * n) ln) (30 + 5 * n) s) (31 + 5 * n) a) (32 + 5 * n) b) (33 + 5 * n) t) 2 ((n : Int) + 1)) := by
  have pe := W.pe; have so := W.so; have un := W.un; have wa := W.wa
  exact WS.mk
    (by (try simp (disch := omega) only [up1_ne, up1_self]); try (have := W.pe; omega))
    (by (try simp (disch := omega) only [up1_ne, up1_self]); try (have := W.so; omega))
    (by (try simp (disch := omega) only [up1_ne, up1_self]); try (have := W.un; omega))
    (by (try simp (disch := omega) only [up1_ne, up1_self]); try (have := W.wa; omega))
    (by (try simp (disch := omega) only [up1_ne, up1_self]); try (have := W.la; omega))
    (by (try simp (disch := omega) only [up1_ne, up1_self]); try (have := W.ba; omega))
    (fun p hp => by (try simp (disch := omega) only [up1_ne, up1_self] at hp); (try simp (disch := omega) only [up1_ne, up1_self]); try (have := W.town p (by omega); omega))
    (fun p hp => by (try simp (disch := omega) only [up1_ne, up1_self] at hp); (try simp (disch := omega) only [up1_ne, up1_self]); try (have := W.ask p (by omega); omega))
    (fun k hk => by (try simp (disch := omega) only [up1_ne, up1_self] at hk); (try simp (disch := omega) only [up1_ne, up1_self]); try (have := W.life k (by omega); omega))
    (fun u hu => by
      by_cases e : u = n
      · subst e; (try simp (disch := omega) only [up1_ne, up1_self] at hu); (try simp (disch := omega) only [up1_ne, up1_self]); try omega
      · (try simp (disch := omega) only [up1_ne, up1_self] at hu); (try simp (disch := omega) only [up1_ne, up1_self]); try (have := W.usort u (by omega); omega))
    (fun u hu => by
      by_cases e : u = n
      · subst e; (try simp (disch := omega) only [up1_ne, up1_self] at hu); (try simp (disch := omega) only [up1_ne, up1_self]); try omega
      · (try simp (disch := omega) only [up1_ne, up1_self] at hu); (try simp (disch := omega) only [up1_ne, up1_self]); try (have := W.mak u (by omega); omega))
    (fun u hu => by
      by_cases e : u = n
      · subst e; (try simp (disch := omega) only [up1_ne, up1_self] at hu); (try simp (disch := omega) only [up1_ne, up1_self]); (refine hb.imp (fun z => z) (fun z => ?_); try omega)
      · (try simp (disch := omega) only [up1_ne, up1_self] at hu); (try simp (disch := omega) only [up1_ne, up1_self]); try (have := W.par u (by omega); omega))
    (fun u hu => by
      by_cases e : u = n
      · subst e; (try simp (disch := omega) only [up1_ne, up1_self] at hu); (try simp (disch := omega) only [up1_ne, up1_self]); try omega
      · (try simp (disch := omega) only [up1_ne, up1_self] at hu); (try simp (disch := omega) only [up1_ne, up1_self]); try (have := W.uhour u (by omega); omega))
    (fun u v hl hv => by
      by_cases e : v = n
      · subst e
        by_cases e2 : u = v
        · subst e2; simp (disch := omega) only [up1_ne, up1_self]; try omega
        · (try simp (disch := omega) only [up1_ne, up1_self] at hv); (try simp (disch := omega) only [up1_ne, up1_self]); have := W.line u u (by omega) (by omega); try (have := hle u (by omega); try omega)
      · (try simp (disch := omega) only [up1_ne, up1_self] at hv); (try simp (disch := omega) only [up1_ne, up1_self]); try (have := W.line u v (by omega) (by omega); omega))
    (fun u v hl hv he => by
      by_cases e : v = n
      · subst e
        by_cases e2 : u = v
        · subst e2; exact ⟨rfl, rfl, rfl, rfl⟩
        · (try simp (disch := omega) only [up1_ne, up1_self] at hv); (try simp (disch := omega) only [up1_ne, up1_self] at he); (try simp (disch := omega) only [up1_ne, up1_self]); exact heq u (by omega) he
      · (try simp (disch := omega) only [up1_ne, up1_self] at hv); (try simp (disch := omega) only [up1_ne, up1_self] at he); (try simp (disch := omega) only [up1_ne, up1_self]); exact W.same u v (by omega) (by omega) he)
    (fun k hk => by (try simp (disch := omega) only [up1_ne, up1_self] at hk); (try simp (disch := omega) only [up1_ne, up1_self]); try (have := W.wwho k (by omega); omega))
    (fun k hk => by (try simp (disch := omega) only [up1_ne, up1_self] at hk); (try simp (disch := omega) only [up1_ne, up1_self]); try (have := W.wsort k (by omega); omega))
    (fun k hk => by (try simp (disch := omega) only [up1_ne, up1_self] at hk); (try simp (disch := omega) only [up1_ne, up1_self]); try (have := W.worth k (by omega); omega))
    (fun k hk => by (try simp (disch := omega) only [up1_ne, up1_self] at hk); (try simp (disch := omega) only [up1_ne, up1_self]); try (have := W.wby k (by omega); omega))
    (fun k hk => by (try simp (disch := omega) only [up1_ne, up1_self] at hk); (try simp (disch := omega) only [up1_ne, up1_self]); try (have := W.told k (by omega); omega))
    (fun a1 b1 ha1 hb1 ht1 => by (try simp (disch := omega) only [up1_ne, up1_self] at ha1); (try simp (disch := omega) only [up1_ne, up1_self] at hb1); (try simp (disch := omega) only [up1_ne, up1_self] at ht1); (try simp (disch := omega) only [up1_ne, up1_self]); try (have := W.tin a1 b1 (by omega) (by omega) (by omega); omega))
    (fun k hk => by (try simp (disch := omega) only [up1_ne, up1_self] at hk); (try simp (disch := omega) only [up1_ne, up1_self]); try (have := W.pai k (by omega); omega))
    (fun k hk => by (try simp (disch := omega) only [up1_ne, up1_self] at hk); (try simp (disch := omega) only [up1_ne, up1_self]); try (have := W.hou k (by omega); omega))
theorem RV_who {ob nm tw mt ak sn lv un ld wn pn hr h nr : Nat → Int} {mt2 : Nat → Int} {n : Nat} {t a c c2 : Int} (W : WS h) (V : RV ob nm tw mt ak sn lv un ld wn pn hr h (fun i => nr (14 + i))) (h0 : h 0 = n) (hn : n < 8) (hc : NameR c c2) (hm : ∀ p q : Nat, p < n + 1 → tb (mt2 p) q = decide (q < n + 1 ∧ (up1 (up1 (up1 h (7 + n) t) (15 + n) a) 0 ((n : Int) + 1)) (7 + p) = (up1 (up1 (up1 h (7 + n) t) (15 + n) a) 0 ((n : Int) + 1)) (7 + q))) : RV (up1 ob 0 ((n : Int) + 1)) (up1 nm n c) (up1 tw n t) mt2 (up1 ak n a) sn lv un ld wn pn hr (up1 (up1 (up1 h (7 + n) t) (15 + n) a) 0 ((n : Int) + 1)) (fun i => (up1 nr (14 + n) c2) (14 + i)) := by
  have pe := W.pe; have so := W.so; have unn := W.un; have wa := W.wa; have people := V.people; have sorts := V.sorts; have units := V.units; have wants := V.wants
  exact RV.mk
    (by (try simp (disch := omega) only [up1_ne, up1_self]); try (have := V.people; omega))
    (by (try simp (disch := omega) only [up1_ne, up1_self]); try (have := V.sorts; omega))
    (by (try simp (disch := omega) only [up1_ne, up1_self]); try (have := V.units; omega))
    (by (try simp (disch := omega) only [up1_ne, up1_self]); try (have := V.wants; omega))
    (by (try simp (disch := omega) only [up1_ne, up1_self]); try (have := V.n; omega))
    (by (try simp (disch := omega) only [up1_ne, up1_self]); try (have := V.back; omega))
    (fun p hp => by
      by_cases e : p = n
      · subst e; (try simp (disch := omega) only [up1_ne, up1_self] at hp); (try simp (disch := omega) only [up1_ne, up1_self]); try rfl
      · (try simp (disch := omega) only [up1_ne, up1_self] at hp); (try simp (disch := omega) only [up1_ne, up1_self]); try (have := V.towns p (by omega); omega))
    (fun p q hp => by
      have hp2 : p < n + 1 := by
        simp (disch := omega) only [up1_ne, up1_self] at hp; try omega
      rw [hm p q hp2]
      apply decide_eq_decide.mpr
      rw [show (up1 (up1 (up1 h (7 + n) t) (15 + n) a) 0 ((n : Int) + 1)) 0 = (n : Int) + 1 from up1_self _ _ _]
      refine and_congr_left (fun _ => ?_)
      omega)
    (fun p hp => by
      by_cases e : p = n
      · subst e; (try simp (disch := omega) only [up1_ne, up1_self] at hp); (try simp (disch := omega) only [up1_ne, up1_self]); try rfl
      · (try simp (disch := omega) only [up1_ne, up1_self] at hp); (try simp (disch := omega) only [up1_ne, up1_self]); try (have := V.asks p (by omega); omega))
    (fun k hk => by (try simp (disch := omega) only [up1_ne, up1_self] at hk); (try simp (disch := omega) only [up1_ne, up1_self]); try (have := V.lives k (by omega); omega))
    (fun u hu => by (try simp (disch := omega) only [up1_ne, up1_self] at hu); (try simp (disch := omega) only [up1_ne, up1_self]); try (have := V.usort u (by omega); omega))
    (fun u hu => by (try simp (disch := omega) only [up1_ne, up1_self] at hu); (try simp (disch := omega) only [up1_ne, up1_self]); try (have := V.mak u (by omega); omega))
    (fun u hu => by (try simp (disch := omega) only [up1_ne, up1_self] at hu); (try simp (disch := omega) only [up1_ne, up1_self]); try (have := V.par u (by omega); omega))
    (fun u hu => by (try simp (disch := omega) only [up1_ne, up1_self] at hu); (try simp (disch := omega) only [up1_ne, up1_self]); try (have := V.uhour u (by omega); omega))
    (fun u hu => by
      have so2 := W.usort u (by (try simp (disch := omega) only [up1_ne, up1_self] at hu); (try simp (disch := omega) only [up1_ne, up1_self]); try omega)
      (try simp (disch := omega) only [up1_ne, up1_self] at hu); (try simp (disch := omega) only [up1_ne, up1_self]); try (have := V.spo u (by omega); omega))
    (fun u hu => by
      (try simp (disch := omega) only [up1_ne, up1_self] at hu)
      have L := V.lead u (by omega)
      have L1 := L.1
      have L2 := L.2.1
      refine ⟨L.1, L.2.1, ?_, fun v hv => ?_⟩
      · (try simp (disch := omega) only [up1_ne, up1_self]); exact L.2.2.1
      · (try simp (disch := omega) only [up1_ne, up1_self]); exact L.2.2.2 v hv)
    (fun i hi => by (try simp (disch := omega) only [up1_ne, up1_self] at hi); (try simp (disch := omega) only [up1_ne, up1_self]); try (have := V.want i (by omega); omega))
    (fun k hk ht1 => by (try simp (disch := omega) only [up1_ne, up1_self] at hk); (try simp (disch := omega) only [up1_ne, up1_self] at ht1); (try simp (disch := omega) only [up1_ne, up1_self]); try (have := V.told k (by omega) (by omega); omega))
    (fun k hk ht1 => by (try simp (disch := omega) only [up1_ne, up1_self] at hk); (try simp (disch := omega) only [up1_ne, up1_self] at ht1); (try simp (disch := omega) only [up1_ne, up1_self]); try (have := V.untold k (by omega) (by omega); omega))
    (fun p hp => by
      by_cases e : p = n
      · subst e; (try simp (disch := omega) only [up1_ne, up1_self] at hp); (try simp (disch := omega) only [up1_ne, up1_self]); exact hc
      · (try simp (disch := omega) only [up1_ne, up1_self] at hp); (try simp (disch := omega) only [up1_ne, up1_self]); exact V.pnames p (by omega))
    (fun k hk => by (try simp (disch := omega) only [up1_ne, up1_self] at hk); (try simp (disch := omega) only [up1_ne, up1_self]); exact V.snames k (by omega))
theorem RV_sort {ob nm tw mt ak sn lv un ld wn pn hr h nr : Nat → Int} {n : Nat} {v c c2 : Int} (W : WS h) (V : RV ob nm tw mt ak sn lv un ld wn pn hr h (fun i => nr (14 + i))) (h0 : h 1 = n) (hn : n < 6) (hc : NameR c c2) : RV (up1 ob 5 ((n : Int) + 1)) nm tw mt ak (up1 sn n c) (up1 lv n v) un ld wn pn hr (up1 (up1 h (23 + n) v) 1 ((n : Int) + 1)) (fun i => (up1 nr (22 + n) c2) (14 + i)) := by
  have pe := W.pe; have so := W.so; have unn := W.un; have wa := W.wa; have people := V.people; have sorts := V.sorts; have units := V.units; have wants := V.wants
  exact RV.mk
    (by (try simp (disch := omega) only [up1_ne, up1_self]); try (have := V.people; omega))
    (by (try simp (disch := omega) only [up1_ne, up1_self]); try (have := V.sorts; omega))
    (by (try simp (disch := omega) only [up1_ne, up1_self]); try (have := V.units; omega))
    (by (try simp (disch := omega) only [up1_ne, up1_self]); try (have := V.wants; omega))
    (by (try simp (disch := omega) only [up1_ne, up1_self]); try (have := V.n; omega))
    (by (try simp (disch := omega) only [up1_ne, up1_self]); try (have := V.back; omega))
    (fun p hp => by (try simp (disch := omega) only [up1_ne, up1_self] at hp); (try simp (disch := omega) only [up1_ne, up1_self]); try (have := V.towns p (by omega); omega))
    (fun p q hp => by
      (try simp (disch := omega) only [up1_ne, up1_self] at hp)
      rw [V.mates p q (by omega)]
      apply decide_eq_decide.mpr
      (try simp (disch := omega) only [up1_ne, up1_self])
      try (
        constructor
        · intro y
          have y1 := y.1
          refine ⟨y.1, ?_⟩
          simp (disch := omega) only [up1_ne, up1_self]
          exact y.2
        · intro y
          have y1 := y.1
          refine ⟨y.1, ?_⟩
          have y2 := y.2
          simp (disch := omega) only [up1_ne, up1_self] at y2
          exact y2))
    (fun p hp => by (try simp (disch := omega) only [up1_ne, up1_self] at hp); (try simp (disch := omega) only [up1_ne, up1_self]); try (have := V.asks p (by omega); omega))
    (fun k hk => by
      by_cases e : k = n
      · subst e; (try simp (disch := omega) only [up1_ne, up1_self] at hk); (try simp (disch := omega) only [up1_ne, up1_self]); try rfl
      · (try simp (disch := omega) only [up1_ne, up1_self] at hk); (try simp (disch := omega) only [up1_ne, up1_self]); try (have := V.lives k (by omega); omega))
    (fun u hu => by (try simp (disch := omega) only [up1_ne, up1_self] at hu); (try simp (disch := omega) only [up1_ne, up1_self]); try (have := V.usort u (by omega); omega))
    (fun u hu => by (try simp (disch := omega) only [up1_ne, up1_self] at hu); (try simp (disch := omega) only [up1_ne, up1_self]); try (have := V.mak u (by omega); omega))
    (fun u hu => by (try simp (disch := omega) only [up1_ne, up1_self] at hu); (try simp (disch := omega) only [up1_ne, up1_self]); try (have := V.par u (by omega); omega))
    (fun u hu => by (try simp (disch := omega) only [up1_ne, up1_self] at hu); (try simp (disch := omega) only [up1_ne, up1_self]); try (have := V.uhour u (by omega); omega))
    (fun u hu => by
      have so2 := W.usort u (by (try simp (disch := omega) only [up1_ne, up1_self] at hu); (try simp (disch := omega) only [up1_ne, up1_self]); try omega)
      (try simp (disch := omega) only [up1_ne, up1_self] at hu); (try simp (disch := omega) only [up1_ne, up1_self]); try (have := V.spo u (by omega); omega))
    (fun u hu => by
      (try simp (disch := omega) only [up1_ne, up1_self] at hu)
      have L := V.lead u (by omega)
      have L1 := L.1
      have L2 := L.2.1
      refine ⟨L.1, L.2.1, ?_, fun v hv => ?_⟩
      · (try simp (disch := omega) only [up1_ne, up1_self]); exact L.2.2.1
      · (try simp (disch := omega) only [up1_ne, up1_self]); exact L.2.2.2 v hv)
    (fun i hi => by (try simp (disch := omega) only [up1_ne, up1_self] at hi); (try simp (disch := omega) only [up1_ne, up1_self]); try (have := V.want i (by omega); omega))
    (fun k hk ht1 => by (try simp (disch := omega) only [up1_ne, up1_self] at hk); (try simp (disch := omega) only [up1_ne, up1_self] at ht1); (try simp (disch := omega) only [up1_ne, up1_self]); try (have := V.told k (by omega) (by omega); omega))
    (fun k hk ht1 => by (try simp (disch := omega) only [up1_ne, up1_self] at hk); (try simp (disch := omega) only [up1_ne, up1_self] at ht1); (try simp (disch := omega) only [up1_ne, up1_self]); try (have := V.untold k (by omega) (by omega); omega))
    (fun p hp => by (try simp (disch := omega) only [up1_ne, up1_self] at hp); (try simp (disch := omega) only [up1_ne, up1_self]); exact V.pnames p (by omega))
    (fun k hk => by
      by_cases e : k = n
      · rw [e, show 14 + (8 + n) = 22 + n by omega]; (try simp (disch := omega) only [up1_ne, up1_self] at hk); (try simp (disch := omega) only [up1_ne, up1_self]); exact hc
      · (try simp (disch := omega) only [up1_ne, up1_self] at hk); (try simp (disch := omega) only [up1_ne, up1_self]); exact V.snames k (by omega))
theorem RV_want {ob nm tw mt ak sn lv un ld wn pn hr h nr : Nat → Int} {n : Nat} {a s v b : Int} (W : WS h) (V : RV ob nm tw mt ak sn lv un ld wn pn hr h (fun i => nr (14 + i))) (h0 : h 3 = n) (hn : n < 8) : RV (up1 ob 11 ((n : Int) + 1)) nm tw mt ak sn lv un ld (up1 (up1 (up1 (up1 wn (4 * n) a) (4 * n + 1) s) (4 * n + 2) v) (4 * n + 3) b) pn hr (up1 (up1 (up1 (up1 (up1 h (109 + 4 * n) a) (110 + 4 * n) s) (111 + 4 * n) v) (112 + 4 * n) b) 3 ((n : Int) + 1)) (fun i => nr (14 + i)) := by
  have pe := W.pe; have so := W.so; have unn := W.un; have wa := W.wa; have people := V.people; have sorts := V.sorts; have units := V.units; have wants := V.wants
  exact RV.mk
    (by (try simp (disch := omega) only [up1_ne, up1_self]); try (have := V.people; omega))
    (by (try simp (disch := omega) only [up1_ne, up1_self]); try (have := V.sorts; omega))
    (by (try simp (disch := omega) only [up1_ne, up1_self]); try (have := V.units; omega))
    (by (try simp (disch := omega) only [up1_ne, up1_self]); try (have := V.wants; omega))
    (by (try simp (disch := omega) only [up1_ne, up1_self]); try (have := V.n; omega))
    (by (try simp (disch := omega) only [up1_ne, up1_self]); try (have := V.back; omega))
    (fun p hp => by (try simp (disch := omega) only [up1_ne, up1_self] at hp); (try simp (disch := omega) only [up1_ne, up1_self]); try (have := V.towns p (by omega); omega))
    (fun p q hp => by
      (try simp (disch := omega) only [up1_ne, up1_self] at hp)
      rw [V.mates p q (by omega)]
      apply decide_eq_decide.mpr
      (try simp (disch := omega) only [up1_ne, up1_self])
      try (
        constructor
        · intro y
          have y1 := y.1
          refine ⟨y.1, ?_⟩
          simp (disch := omega) only [up1_ne, up1_self]
          exact y.2
        · intro y
          have y1 := y.1
          refine ⟨y.1, ?_⟩
          have y2 := y.2
          simp (disch := omega) only [up1_ne, up1_self] at y2
          exact y2))
    (fun p hp => by (try simp (disch := omega) only [up1_ne, up1_self] at hp); (try simp (disch := omega) only [up1_ne, up1_self]); try (have := V.asks p (by omega); omega))
    (fun k hk => by (try simp (disch := omega) only [up1_ne, up1_self] at hk); (try simp (disch := omega) only [up1_ne, up1_self]); try (have := V.lives k (by omega); omega))
    (fun u hu => by (try simp (disch := omega) only [up1_ne, up1_self] at hu); (try simp (disch := omega) only [up1_ne, up1_self]); try (have := V.usort u (by omega); omega))
    (fun u hu => by (try simp (disch := omega) only [up1_ne, up1_self] at hu); (try simp (disch := omega) only [up1_ne, up1_self]); try (have := V.mak u (by omega); omega))
    (fun u hu => by (try simp (disch := omega) only [up1_ne, up1_self] at hu); (try simp (disch := omega) only [up1_ne, up1_self]); try (have := V.par u (by omega); omega))
    (fun u hu => by (try simp (disch := omega) only [up1_ne, up1_self] at hu); (try simp (disch := omega) only [up1_ne, up1_self]); try (have := V.uhour u (by omega); omega))
    (fun u hu => by
      have so2 := W.usort u (by (try simp (disch := omega) only [up1_ne, up1_self] at hu); (try simp (disch := omega) only [up1_ne, up1_self]); try omega)
      (try simp (disch := omega) only [up1_ne, up1_self] at hu); (try simp (disch := omega) only [up1_ne, up1_self]); try (have := V.spo u (by omega); omega))
    (fun u hu => by
      (try simp (disch := omega) only [up1_ne, up1_self] at hu)
      have L := V.lead u (by omega)
      have L1 := L.1
      have L2 := L.2.1
      refine ⟨L.1, L.2.1, ?_, fun v hv => ?_⟩
      · (try simp (disch := omega) only [up1_ne, up1_self]); exact L.2.2.1
      · (try simp (disch := omega) only [up1_ne, up1_self]); exact L.2.2.2 v hv)
    (fun i hi => by
      (try simp (disch := omega) only [up1_ne, up1_self] at hi)
      rcases (show i < 4 * n ∨ i = 4 * n ∨ i = 4 * n + 1 ∨ i = 4 * n + 2 ∨ i = 4 * n + 3 by omega) with e | e | e | e | e
      · (try simp (disch := omega) only [up1_ne, up1_self]); exact V.want i (by omega)
      · rw [e]; (try simp (disch := omega) only [up1_ne, up1_self])
      · rw [e, show 109 + (4 * n + 1) = 110 + 4 * n by omega]; (try simp (disch := omega) only [up1_ne, up1_self])
      · rw [e, show 109 + (4 * n + 2) = 111 + 4 * n by omega]; (try simp (disch := omega) only [up1_ne, up1_self])
      · rw [e, show 109 + (4 * n + 3) = 112 + 4 * n by omega]; (try simp (disch := omega) only [up1_ne, up1_self]))
    (fun k hk ht1 => by (try simp (disch := omega) only [up1_ne, up1_self] at hk); (try simp (disch := omega) only [up1_ne, up1_self] at ht1); (try simp (disch := omega) only [up1_ne, up1_self]); try (have := V.told k (by omega) (by omega); omega))
    (fun k hk ht1 => by (try simp (disch := omega) only [up1_ne, up1_self] at hk); (try simp (disch := omega) only [up1_ne, up1_self] at ht1); (try simp (disch := omega) only [up1_ne, up1_self]); try (have := V.untold k (by omega) (by omega); omega))
    (fun p hp => by (try simp (disch := omega) only [up1_ne, up1_self] at hp); (try simp (disch := omega) only [up1_ne, up1_self]); exact V.pnames p (by omega))
    (fun k hk => by (try simp (disch := omega) only [up1_ne, up1_self] at hk); (try simp (disch := omega) only [up1_ne, up1_self]); exact V.snames k (by omega))
theorem RV_give {ob nm tw mt ak sn lv un ld wn pn hr h nr : Nat → Int} {a b : Nat} {v t : Int} (W : WS h) (V : RV ob nm tw mt ak sn lv un ld wn pn hr h (fun i => nr (14 + i))) (ha : a < 8) (hb : b < 8) : RV ob nm tw mt ak sn lv un ld wn (up1 pn (8 * a + b) v) (up1 hr (8 * a + b) t) (up1 (up1 (up1 h (141 + (8 * a + b)) v) (205 + (8 * a + b)) t) (269 + (8 * a + b)) 1) (fun i => nr (14 + i)) := by
  have pe := W.pe; have so := W.so; have unn := W.un; have wa := W.wa; have people := V.people; have sorts := V.sorts; have units := V.units; have wants := V.wants
  exact RV.mk
    (by (try simp (disch := omega) only [up1_ne, up1_self]); try (have := V.people; omega))
    (by (try simp (disch := omega) only [up1_ne, up1_self]); try (have := V.sorts; omega))
    (by (try simp (disch := omega) only [up1_ne, up1_self]); try (have := V.units; omega))
    (by (try simp (disch := omega) only [up1_ne, up1_self]); try (have := V.wants; omega))
    (by (try simp (disch := omega) only [up1_ne, up1_self]); try (have := V.n; omega))
    (by (try simp (disch := omega) only [up1_ne, up1_self]); try (have := V.back; omega))
    (fun p hp => by (try simp (disch := omega) only [up1_ne, up1_self] at hp); (try simp (disch := omega) only [up1_ne, up1_self]); try (have := V.towns p (by omega); omega))
    (fun p q hp => by
      (try simp (disch := omega) only [up1_ne, up1_self] at hp)
      rw [V.mates p q (by omega)]
      apply decide_eq_decide.mpr
      (try simp (disch := omega) only [up1_ne, up1_self])
      try (
        constructor
        · intro y
          have y1 := y.1
          refine ⟨y.1, ?_⟩
          simp (disch := omega) only [up1_ne, up1_self]
          exact y.2
        · intro y
          have y1 := y.1
          refine ⟨y.1, ?_⟩
          have y2 := y.2
          simp (disch := omega) only [up1_ne, up1_self] at y2
          exact y2))
    (fun p hp => by (try simp (disch := omega) only [up1_ne, up1_self] at hp); (try simp (disch := omega) only [up1_ne, up1_self]); try (have := V.asks p (by omega); omega))
    (fun k hk => by (try simp (disch := omega) only [up1_ne, up1_self] at hk); (try simp (disch := omega) only [up1_ne, up1_self]); try (have := V.lives k (by omega); omega))
    (fun u hu => by (try simp (disch := omega) only [up1_ne, up1_self] at hu); (try simp (disch := omega) only [up1_ne, up1_self]); try (have := V.usort u (by omega); omega))
    (fun u hu => by (try simp (disch := omega) only [up1_ne, up1_self] at hu); (try simp (disch := omega) only [up1_ne, up1_self]); try (have := V.mak u (by omega); omega))
    (fun u hu => by (try simp (disch := omega) only [up1_ne, up1_self] at hu); (try simp (disch := omega) only [up1_ne, up1_self]); try (have := V.par u (by omega); omega))
    (fun u hu => by (try simp (disch := omega) only [up1_ne, up1_self] at hu); (try simp (disch := omega) only [up1_ne, up1_self]); try (have := V.uhour u (by omega); omega))
    (fun u hu => by
      have so2 := W.usort u (by (try simp (disch := omega) only [up1_ne, up1_self] at hu); (try simp (disch := omega) only [up1_ne, up1_self]); try omega)
      (try simp (disch := omega) only [up1_ne, up1_self] at hu); (try simp (disch := omega) only [up1_ne, up1_self]); try (have := V.spo u (by omega); omega))
    (fun u hu => by
      (try simp (disch := omega) only [up1_ne, up1_self] at hu)
      have L := V.lead u (by omega)
      have L1 := L.1
      have L2 := L.2.1
      refine ⟨L.1, L.2.1, ?_, fun v hv => ?_⟩
      · (try simp (disch := omega) only [up1_ne, up1_self]); exact L.2.2.1
      · (try simp (disch := omega) only [up1_ne, up1_self]); exact L.2.2.2 v hv)
    (fun i hi => by (try simp (disch := omega) only [up1_ne, up1_self] at hi); (try simp (disch := omega) only [up1_ne, up1_self]); try (have := V.want i (by omega); omega))
    (fun k hk ht1 => by
      by_cases e : k = (8 * a + b)
      · subst e; (try simp (disch := omega) only [up1_ne, up1_self] at hk); (try simp (disch := omega) only [up1_ne, up1_self] at ht1); (try simp (disch := omega) only [up1_ne, up1_self]); trivial
      · (try simp (disch := omega) only [up1_ne, up1_self] at hk); (try simp (disch := omega) only [up1_ne, up1_self] at ht1); (try simp (disch := omega) only [up1_ne, up1_self]); exact V.told k hk ht1)
    (fun k hk ht1 => by
      by_cases e : k = (8 * a + b)
      · subst e; (try simp (disch := omega) only [up1_ne, up1_self] at hk); (try simp (disch := omega) only [up1_ne, up1_self] at ht1); (try simp (disch := omega) only [up1_ne, up1_self]); exact absurd ht1 (by decide)
      · (try simp (disch := omega) only [up1_ne, up1_self] at hk); (try simp (disch := omega) only [up1_ne, up1_self] at ht1); (try simp (disch := omega) only [up1_ne, up1_self]); exact V.untold k hk ht1)
    (fun p hp => by (try simp (disch := omega) only [up1_ne, up1_self] at hp); (try simp (disch := omega) only [up1_ne, up1_self]); exact V.pnames p (by omega))
    (fun k hk => by (try simp (disch := omega) only [up1_ne, up1_self] at hk); (try simp (disch := omega) only [up1_ne, up1_self]); exact V.snames k (by omega))
theorem RV_law {ob nm tw mt ak sn lv un ld wn pn hr h nr : Nat → Int} {n b : Int} (W : WS h) (V : RV ob nm tw mt ak sn lv un ld wn pn hr h (fun i => nr (14 + i))) : RV (up1 (up1 ob 15 n) 16 b) nm tw mt ak sn lv un ld wn pn hr (up1 (up1 h 4 n) 5 b) (fun i => nr (14 + i)) := by
  have pe := W.pe; have so := W.so; have unn := W.un; have wa := W.wa; have people := V.people; have sorts := V.sorts; have units := V.units; have wants := V.wants
  exact RV.mk
    (by (try simp (disch := omega) only [up1_ne, up1_self]); try (have := V.people; omega))
    (by (try simp (disch := omega) only [up1_ne, up1_self]); try (have := V.sorts; omega))
    (by (try simp (disch := omega) only [up1_ne, up1_self]); try (have := V.units; omega))
    (by (try simp (disch := omega) only [up1_ne, up1_self]); try (have := V.wants; omega))
    (by (try simp (disch := omega) only [up1_ne, up1_self]); try (have := V.n; omega))
    (by (try simp (disch := omega) only [up1_ne, up1_self]); try (have := V.back; omega))
    (fun p hp => by (try simp (disch := omega) only [up1_ne, up1_self] at hp); (try simp (disch := omega) only [up1_ne, up1_self]); try (have := V.towns p (by omega); omega))
    (fun p q hp => by
      (try simp (disch := omega) only [up1_ne, up1_self] at hp)
      rw [V.mates p q (by omega)]
      apply decide_eq_decide.mpr
      (try simp (disch := omega) only [up1_ne, up1_self])
      try (
        constructor
        · intro y
          have y1 := y.1
          refine ⟨y.1, ?_⟩
          simp (disch := omega) only [up1_ne, up1_self]
          exact y.2
        · intro y
          have y1 := y.1
          refine ⟨y.1, ?_⟩
          have y2 := y.2
          simp (disch := omega) only [up1_ne, up1_self] at y2
          exact y2))
    (fun p hp => by (try simp (disch := omega) only [up1_ne, up1_self] at hp); (try simp (disch := omega) only [up1_ne, up1_self]); try (have := V.asks p (by omega); omega))
    (fun k hk => by (try simp (disch := omega) only [up1_ne, up1_self] at hk); (try simp (disch := omega) only [up1_ne, up1_self]); try (have := V.lives k (by omega); omega))
    (fun u hu => by (try simp (disch := omega) only [up1_ne, up1_self] at hu); (try simp (disch := omega) only [up1_ne, up1_self]); try (have := V.usort u (by omega); omega))
    (fun u hu => by (try simp (disch := omega) only [up1_ne, up1_self] at hu); (try simp (disch := omega) only [up1_ne, up1_self]); try (have := V.mak u (by omega); omega))
    (fun u hu => by (try simp (disch := omega) only [up1_ne, up1_self] at hu); (try simp (disch := omega) only [up1_ne, up1_self]); try (have := V.par u (by omega); omega))
    (fun u hu => by (try simp (disch := omega) only [up1_ne, up1_self] at hu); (try simp (disch := omega) only [up1_ne, up1_self]); try (have := V.uhour u (by omega); omega))
    (fun u hu => by
      have so2 := W.usort u (by (try simp (disch := omega) only [up1_ne, up1_self] at hu); (try simp (disch := omega) only [up1_ne, up1_self]); try omega)
      (try simp (disch := omega) only [up1_ne, up1_self] at hu); (try simp (disch := omega) only [up1_ne, up1_self]); try (have := V.spo u (by omega); omega))
    (fun u hu => by
      (try simp (disch := omega) only [up1_ne, up1_self] at hu)
      have L := V.lead u (by omega)
      have L1 := L.1
      have L2 := L.2.1
      refine ⟨L.1, L.2.1, ?_, fun v hv => ?_⟩
      · (try simp (disch := omega) only [up1_ne, up1_self]); exact L.2.2.1
      · (try simp (disch := omega) only [up1_ne, up1_self]); exact L.2.2.2 v hv)
    (fun i hi => by (try simp (disch := omega) only [up1_ne, up1_self] at hi); (try simp (disch := omega) only [up1_ne, up1_self]); try (have := V.want i (by omega); omega))
    (fun k hk ht1 => by (try simp (disch := omega) only [up1_ne, up1_self] at hk); (try simp (disch := omega) only [up1_ne, up1_self] at ht1); (try simp (disch := omega) only [up1_ne, up1_self]); try (have := V.told k (by omega) (by omega); omega))
    (fun k hk ht1 => by (try simp (disch := omega) only [up1_ne, up1_self] at hk); (try simp (disch := omega) only [up1_ne, up1_self] at ht1); (try simp (disch := omega) only [up1_ne, up1_self]); try (have := V.untold k (by omega) (by omega); omega))
    (fun p hp => by (try simp (disch := omega) only [up1_ne, up1_self] at hp); (try simp (disch := omega) only [up1_ne, up1_self]); exact V.pnames p (by omega))
    (fun k hk => by (try simp (disch := omega) only [up1_ne, up1_self] at hk); (try simp (disch := omega) only [up1_ne, up1_self]); exact V.snames k (by omega))
theorem RV_unit {ob nm tw mt ak sn lv un ld wn pn hr h nr : Nat → Int} {n : Nat} {ln a b s t f : Int} (W : WS h) (V : RV ob nm tw mt ak sn lv un ld wn pn hr h (fun i => nr (14 + i))) (h0 : h 2 = n) (hn : n < 16) (hs : 0 ≤ s ∧ s < h 1) (hf : 0 ≤ f ∧ f ≤ n ∧ (f < n → h (29 + 5 * f.toNat) = ln) ∧ ∀ v : Nat, (v : Int) < f → h (29 + 5 * v) ≠ ln) : RV (up1 ob 8 ((n : Int) + 1)) nm tw mt ak sn lv (up1 (up1 (up1 (up1 (up1 un (5 * n) s) (5 * n + 1) a) (5 * n + 2) b) (5 * n + 3) t) (5 * n + 4) (t + lv s.toNat)) (up1 ld n f) wn pn hr (up1 (up1 (up1 (up1 (up1 (up1 h (29 + 5 * n) ln) (30 + 5 * n) s) (31 + 5 * n) a) (32 + 5 * n) b) (33 + 5 * n) t) 2 ((n : Int) + 1)) (fun i => nr (14 + i)) := by
  have pe := W.pe; have so := W.so; have unn := W.un; have wa := W.wa; have people := V.people; have sorts := V.sorts; have units := V.units; have wants := V.wants
  exact RV.mk
    (by (try simp (disch := omega) only [up1_ne, up1_self]); try (have := V.people; omega))
    (by (try simp (disch := omega) only [up1_ne, up1_self]); try (have := V.sorts; omega))
    (by (try simp (disch := omega) only [up1_ne, up1_self]); try (have := V.units; omega))
    (by (try simp (disch := omega) only [up1_ne, up1_self]); try (have := V.wants; omega))
    (by (try simp (disch := omega) only [up1_ne, up1_self]); try (have := V.n; omega))
    (by (try simp (disch := omega) only [up1_ne, up1_self]); try (have := V.back; omega))
    (fun p hp => by (try simp (disch := omega) only [up1_ne, up1_self] at hp); (try simp (disch := omega) only [up1_ne, up1_self]); try (have := V.towns p (by omega); omega))
    (fun p q hp => by
      (try simp (disch := omega) only [up1_ne, up1_self] at hp)
      rw [V.mates p q (by omega)]
      apply decide_eq_decide.mpr
      (try simp (disch := omega) only [up1_ne, up1_self])
      try (
        constructor
        · intro y
          have y1 := y.1
          refine ⟨y.1, ?_⟩
          simp (disch := omega) only [up1_ne, up1_self]
          exact y.2
        · intro y
          have y1 := y.1
          refine ⟨y.1, ?_⟩
          have y2 := y.2
          simp (disch := omega) only [up1_ne, up1_self] at y2
          exact y2))
    (fun p hp => by (try simp (disch := omega) only [up1_ne, up1_self] at hp); (try simp (disch := omega) only [up1_ne, up1_self]); try (have := V.asks p (by omega); omega))
    (fun k hk => by (try simp (disch := omega) only [up1_ne, up1_self] at hk); (try simp (disch := omega) only [up1_ne, up1_self]); try (have := V.lives k (by omega); omega))
    (fun u hu => by
      by_cases e : u = n
      · subst e; (try simp (disch := omega) only [up1_ne, up1_self] at hu); (try simp (disch := omega) only [up1_ne, up1_self]); try done
      · (try simp (disch := omega) only [up1_ne, up1_self] at hu); (try simp (disch := omega) only [up1_ne, up1_self]); try (have := V.usort u (by omega); omega))
    (fun u hu => by
      by_cases e : u = n
      · subst e; (try simp (disch := omega) only [up1_ne, up1_self] at hu); (try simp (disch := omega) only [up1_ne, up1_self]); try done
      · (try simp (disch := omega) only [up1_ne, up1_self] at hu); (try simp (disch := omega) only [up1_ne, up1_self]); try (have := V.mak u (by omega); omega))
    (fun u hu => by
      by_cases e : u = n
      · subst e; (try simp (disch := omega) only [up1_ne, up1_self] at hu); (try simp (disch := omega) only [up1_ne, up1_self]); try done
      · (try simp (disch := omega) only [up1_ne, up1_self] at hu); (try simp (disch := omega) only [up1_ne, up1_self]); try (have := V.par u (by omega); omega))
    (fun u hu => by
      by_cases e : u = n
      · subst e; (try simp (disch := omega) only [up1_ne, up1_self] at hu); (try simp (disch := omega) only [up1_ne, up1_self]); try done
      · (try simp (disch := omega) only [up1_ne, up1_self] at hu); (try simp (disch := omega) only [up1_ne, up1_self]); try (have := V.uhour u (by omega); omega))
    (fun u hu => by
      by_cases e : u = n
      · subst e
        have lv1 := V.lives s.toNat (by omega)
        (try simp (disch := omega) only [up1_ne, up1_self] at hu); (try simp (disch := omega) only [up1_ne, up1_self])
        rw [lv1]
      · (try simp (disch := omega) only [up1_ne, up1_self] at hu)
        have so2 := W.usort u (by omega)
        (try simp (disch := omega) only [up1_ne, up1_self] at hu); (try simp (disch := omega) only [up1_ne, up1_self]); try (have := V.spo u (by omega); omega))
    (fun u hu => by
      by_cases e : u = n
      · subst e
        (try simp (disch := omega) only [up1_ne, up1_self] at hu); (try simp (disch := omega) only [up1_ne, up1_self])
        refine ⟨hf.1, hf.2.1, ?_, fun v hv => ?_⟩
        · by_cases z : f = u
          · rw [z, Int.toNat_natCast]; (try simp (disch := omega) only [up1_ne, up1_self])
          · (try simp (disch := omega) only [up1_ne, up1_self]); exact hf.2.2.1 (by omega)
        · (try simp (disch := omega) only [up1_ne, up1_self]); exact hf.2.2.2 v hv
      · (try simp (disch := omega) only [up1_ne, up1_self] at hu); (try simp (disch := omega) only [up1_ne, up1_self])
        have L := V.lead u (by omega)
        refine ⟨L.1, L.2.1, ?_, fun v hv => ?_⟩
        · (try simp (disch := omega) only [up1_ne, up1_self]); exact L.2.2.1
        · (try simp (disch := omega) only [up1_ne, up1_self]); exact L.2.2.2 v hv)
    (fun i hi => by (try simp (disch := omega) only [up1_ne, up1_self] at hi); (try simp (disch := omega) only [up1_ne, up1_self]); try (have := V.want i (by omega); omega))
    (fun k hk ht1 => by (try simp (disch := omega) only [up1_ne, up1_self] at hk); (try simp (disch := omega) only [up1_ne, up1_self] at ht1); (try simp (disch := omega) only [up1_ne, up1_self]); try (have := V.told k (by omega) (by omega); omega))
    (fun k hk ht1 => by (try simp (disch := omega) only [up1_ne, up1_self] at hk); (try simp (disch := omega) only [up1_ne, up1_self] at ht1); (try simp (disch := omega) only [up1_ne, up1_self]); try (have := V.untold k (by omega) (by omega); omega))
    (fun p hp => by (try simp (disch := omega) only [up1_ne, up1_self] at hp); (try simp (disch := omega) only [up1_ne, up1_self]); exact V.pnames p (by omega))
    (fun k hk => by (try simp (disch := omega) only [up1_ne, up1_self] at hk); (try simp (disch := omega) only [up1_ne, up1_self]); exact V.snames k (by omega))
