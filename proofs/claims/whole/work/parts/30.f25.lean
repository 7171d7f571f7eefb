/-! TannerBuntingLaw.law([I)Z -/
def fj_lw_law_j77 (k : Nat → Nat → Nat → Int32 → tb_Hp → Option (Int32 × tb_Hp)) (w : tb_Hp) : Option (Int32 × tb_Hp) := some ((0, w))
set_option maxHeartbeats 4000000 in
set_option maxRecDepth 20000 in
theorem dj_lw_law_j77 (k : Nat → Nat → Nat → Int32 → tb_Hp → Option (Int32 × tb_Hp)) (w : tb_Hp) (o : Int32 × tb_Hp) (h : fj_lw_law_j77 k  w = some o) (r : Option Value × tb_Hp) (hx : r = (some (.int o.1), o.2)) (hk : ∀ (v0 : Nat) (v1 : Nat) (v2 : Nat) (v3 : Int32) (w : tb_Hp), k v0 v1 v2 v3 w = some o → tb_Ev tb_P 68 299 (11, [(0, .ref v0), (1, .ref v1), (2, .ref v2), (3, .int v3)], [], w) r) : tb_Ev tb_P 68 299 (79, [], [], w) r := by
  unfold fj_lw_law_j77 at h
  refine tb_Es (k := 1) (st' := (80, [], [.int 0], w)) rfl ?_
  obtain rfl := Option.some.inj h
  replace hx : r = _ := hx
  subst hx
  exact tb_Er rfl rfl
def fj_lw_law_j94 (k : Nat → Nat → Nat → Int32 → tb_Hp → Option (Int32 × tb_Hp)) (w : tb_Hp) : Option (Int32 × tb_Hp) := some ((0, w))
set_option maxHeartbeats 4000000 in
set_option maxRecDepth 20000 in
theorem dj_lw_law_j94 (k : Nat → Nat → Nat → Int32 → tb_Hp → Option (Int32 × tb_Hp)) (w : tb_Hp) (o : Int32 × tb_Hp) (h : fj_lw_law_j94 k  w = some o) (r : Option Value × tb_Hp) (hx : r = (some (.int o.1), o.2)) (hk : ∀ (v0 : Nat) (v1 : Nat) (v2 : Nat) (v3 : Int32) (w : tb_Hp), k v0 v1 v2 v3 w = some o → tb_Ev tb_P 68 299 (11, [(0, .ref v0), (1, .ref v1), (2, .ref v2), (3, .int v3)], [], w) r) : tb_Ev tb_P 68 299 (97, [], [], w) r := by
  unfold fj_lw_law_j94 at h
  refine tb_Es (k := 1) (st' := (98, [], [.int 0], w)) rfl ?_
  obtain rfl := Option.some.inj h
  replace hx : r = _ := hx
  subst hx
  exact tb_Er rfl rfl
def fj_lw_law_j101 (k : Nat → Nat → Nat → Int32 → tb_Hp → Option (Int32 × tb_Hp)) (w : tb_Hp) : Option (Int32 × tb_Hp) := some ((0, w))
set_option maxHeartbeats 4000000 in
set_option maxRecDepth 20000 in
theorem dj_lw_law_j101 (k : Nat → Nat → Nat → Int32 → tb_Hp → Option (Int32 × tb_Hp)) (w : tb_Hp) (o : Int32 × tb_Hp) (h : fj_lw_law_j101 k  w = some o) (r : Option Value × tb_Hp) (hx : r = (some (.int o.1), o.2)) (hk : ∀ (v0 : Nat) (v1 : Nat) (v2 : Nat) (v3 : Int32) (w : tb_Hp), k v0 v1 v2 v3 w = some o → tb_Ev tb_P 68 299 (11, [(0, .ref v0), (1, .ref v1), (2, .ref v2), (3, .int v3)], [], w) r) : tb_Ev tb_P 68 299 (105, [], [], w) r := by
  unfold fj_lw_law_j101 at h
  refine tb_Es (k := 1) (st' := (106, [], [.int 0], w)) rfl ?_
  obtain rfl := Option.some.inj h
  replace hx : r = _ := hx
  subst hx
  exact tb_Er rfl rfl
def fj_lw_law_j108 (k : Nat → Nat → Nat → Int32 → tb_Hp → Option (Int32 × tb_Hp)) (w : tb_Hp) : Option (Int32 × tb_Hp) := some ((0, w))
set_option maxHeartbeats 4000000 in
set_option maxRecDepth 20000 in
theorem dj_lw_law_j108 (k : Nat → Nat → Nat → Int32 → tb_Hp → Option (Int32 × tb_Hp)) (w : tb_Hp) (o : Int32 × tb_Hp) (h : fj_lw_law_j108 k  w = some o) (r : Option Value × tb_Hp) (hx : r = (some (.int o.1), o.2)) (hk : ∀ (v0 : Nat) (v1 : Nat) (v2 : Nat) (v3 : Int32) (w : tb_Hp), k v0 v1 v2 v3 w = some o → tb_Ev tb_P 68 299 (11, [(0, .ref v0), (1, .ref v1), (2, .ref v2), (3, .int v3)], [], w) r) : tb_Ev tb_P 68 299 (113, [], [], w) r := by
  unfold fj_lw_law_j108 at h
  refine tb_Es (k := 1) (st' := (114, [], [.int 0], w)) rfl ?_
  obtain rfl := Option.some.inj h
  replace hx : r = _ := hx
  subst hx
  exact tb_Er rfl rfl
def fj_lw_law_j125 (k : Nat → Nat → Nat → Int32 → tb_Hp → Option (Int32 × tb_Hp)) (w : tb_Hp) : Option (Int32 × tb_Hp) := some ((0, w))
set_option maxHeartbeats 4000000 in
set_option maxRecDepth 20000 in
theorem dj_lw_law_j125 (k : Nat → Nat → Nat → Int32 → tb_Hp → Option (Int32 × tb_Hp)) (w : tb_Hp) (o : Int32 × tb_Hp) (h : fj_lw_law_j125 k  w = some o) (r : Option Value × tb_Hp) (hx : r = (some (.int o.1), o.2)) (hk : ∀ (v0 : Nat) (v1 : Nat) (v2 : Nat) (v3 : Int32) (w : tb_Hp), k v0 v1 v2 v3 w = some o → tb_Ev tb_P 68 299 (11, [(0, .ref v0), (1, .ref v1), (2, .ref v2), (3, .int v3)], [], w) r) : tb_Ev tb_P 68 299 (131, [], [], w) r := by
  unfold fj_lw_law_j125 at h
  refine tb_Es (k := 1) (st' := (132, [], [.int 0], w)) rfl ?_
  obtain rfl := Option.some.inj h
  replace hx : r = _ := hx
  subst hx
  exact tb_Er rfl rfl
def fj_lw_law_j152 (k : Nat → Nat → Nat → Int32 → tb_Hp → Option (Int32 × tb_Hp)) (w : tb_Hp) : Option (Int32 × tb_Hp) := some ((0, w))
set_option maxHeartbeats 4000000 in
set_option maxRecDepth 20000 in
theorem dj_lw_law_j152 (k : Nat → Nat → Nat → Int32 → tb_Hp → Option (Int32 × tb_Hp)) (w : tb_Hp) (o : Int32 × tb_Hp) (h : fj_lw_law_j152 k  w = some o) (r : Option Value × tb_Hp) (hx : r = (some (.int o.1), o.2)) (hk : ∀ (v0 : Nat) (v1 : Nat) (v2 : Nat) (v3 : Int32) (w : tb_Hp), k v0 v1 v2 v3 w = some o → tb_Ev tb_P 68 299 (11, [(0, .ref v0), (1, .ref v1), (2, .ref v2), (3, .int v3)], [], w) r) : tb_Ev tb_P 68 299 (159, [], [], w) r := by
  unfold fj_lw_law_j152 at h
  refine tb_Es (k := 1) (st' := (160, [], [.int 0], w)) rfl ?_
  obtain rfl := Option.some.inj h
  replace hx : r = _ := hx
  subst hx
  exact tb_Er rfl rfl
def fj_lw_law_j179 (k : Nat → Nat → Nat → Int32 → tb_Hp → Option (Int32 × tb_Hp)) (w : tb_Hp) : Option (Int32 × tb_Hp) := some ((0, w))
set_option maxHeartbeats 4000000 in
set_option maxRecDepth 20000 in
theorem dj_lw_law_j179 (k : Nat → Nat → Nat → Int32 → tb_Hp → Option (Int32 × tb_Hp)) (w : tb_Hp) (o : Int32 × tb_Hp) (h : fj_lw_law_j179 k  w = some o) (r : Option Value × tb_Hp) (hx : r = (some (.int o.1), o.2)) (hk : ∀ (v0 : Nat) (v1 : Nat) (v2 : Nat) (v3 : Int32) (w : tb_Hp), k v0 v1 v2 v3 w = some o → tb_Ev tb_P 68 299 (11, [(0, .ref v0), (1, .ref v1), (2, .ref v2), (3, .int v3)], [], w) r) : tb_Ev tb_P 68 299 (187, [], [], w) r := by
  unfold fj_lw_law_j179 at h
  refine tb_Es (k := 1) (st' := (188, [], [.int 0], w)) rfl ?_
  obtain rfl := Option.some.inj h
  replace hx : r = _ := hx
  subst hx
  exact tb_Er rfl rfl
def fj_lw_law_j186 (k : Nat → Nat → Nat → Int32 → tb_Hp → Option (Int32 × tb_Hp)) (w : tb_Hp) : Option (Int32 × tb_Hp) := some ((0, w))
set_option maxHeartbeats 4000000 in
set_option maxRecDepth 20000 in
theorem dj_lw_law_j186 (k : Nat → Nat → Nat → Int32 → tb_Hp → Option (Int32 × tb_Hp)) (w : tb_Hp) (o : Int32 × tb_Hp) (h : fj_lw_law_j186 k  w = some o) (r : Option Value × tb_Hp) (hx : r = (some (.int o.1), o.2)) (hk : ∀ (v0 : Nat) (v1 : Nat) (v2 : Nat) (v3 : Int32) (w : tb_Hp), k v0 v1 v2 v3 w = some o → tb_Ev tb_P 68 299 (11, [(0, .ref v0), (1, .ref v1), (2, .ref v2), (3, .int v3)], [], w) r) : tb_Ev tb_P 68 299 (195, [], [], w) r := by
  unfold fj_lw_law_j186 at h
  refine tb_Es (k := 1) (st' := (196, [], [.int 0], w)) rfl ?_
  obtain rfl := Option.some.inj h
  replace hx : r = _ := hx
  subst hx
  exact tb_Er rfl rfl
def fj_lw_law_j213 (k : Nat → Nat → Nat → Int32 → tb_Hp → Option (Int32 × tb_Hp)) (w : tb_Hp) : Option (Int32 × tb_Hp) := some ((0, w))
set_option maxHeartbeats 4000000 in
set_option maxRecDepth 20000 in
theorem dj_lw_law_j213 (k : Nat → Nat → Nat → Int32 → tb_Hp → Option (Int32 × tb_Hp)) (w : tb_Hp) (o : Int32 × tb_Hp) (h : fj_lw_law_j213 k  w = some o) (r : Option Value × tb_Hp) (hx : r = (some (.int o.1), o.2)) (hk : ∀ (v0 : Nat) (v1 : Nat) (v2 : Nat) (v3 : Int32) (w : tb_Hp), k v0 v1 v2 v3 w = some o → tb_Ev tb_P 68 299 (11, [(0, .ref v0), (1, .ref v1), (2, .ref v2), (3, .int v3)], [], w) r) : tb_Ev tb_P 68 299 (223, [], [], w) r := by
  unfold fj_lw_law_j213 at h
  refine tb_Es (k := 1) (st' := (224, [], [.int 0], w)) rfl ?_
  obtain rfl := Option.some.inj h
  replace hx : r = _ := hx
  subst hx
  exact tb_Er rfl rfl
def fj_lw_law_j230 (k : Nat → Nat → Nat → Int32 → tb_Hp → Option (Int32 × tb_Hp)) (w : tb_Hp) : Option (Int32 × tb_Hp) := some ((0, w))
set_option maxHeartbeats 4000000 in
set_option maxRecDepth 20000 in
theorem dj_lw_law_j230 (k : Nat → Nat → Nat → Int32 → tb_Hp → Option (Int32 × tb_Hp)) (w : tb_Hp) (o : Int32 × tb_Hp) (h : fj_lw_law_j230 k  w = some o) (r : Option Value × tb_Hp) (hx : r = (some (.int o.1), o.2)) (hk : ∀ (v0 : Nat) (v1 : Nat) (v2 : Nat) (v3 : Int32) (w : tb_Hp), k v0 v1 v2 v3 w = some o → tb_Ev tb_P 68 299 (11, [(0, .ref v0), (1, .ref v1), (2, .ref v2), (3, .int v3)], [], w) r) : tb_Ev tb_P 68 299 (241, [], [], w) r := by
  unfold fj_lw_law_j230 at h
  refine tb_Es (k := 1) (st' := (242, [], [.int 0], w)) rfl ?_
  obtain rfl := Option.some.inj h
  replace hx : r = _ := hx
  subst hx
  exact tb_Er rfl rfl
def fj_lw_law_j267 (k : Nat → Nat → Nat → Int32 → tb_Hp → Option (Int32 × tb_Hp)) (w : tb_Hp) : Option (Int32 × tb_Hp) := some ((0, w))
set_option maxHeartbeats 4000000 in
set_option maxRecDepth 20000 in
theorem dj_lw_law_j267 (k : Nat → Nat → Nat → Int32 → tb_Hp → Option (Int32 × tb_Hp)) (w : tb_Hp) (o : Int32 × tb_Hp) (h : fj_lw_law_j267 k  w = some o) (r : Option Value × tb_Hp) (hx : r = (some (.int o.1), o.2)) (hk : ∀ (v0 : Nat) (v1 : Nat) (v2 : Nat) (v3 : Int32) (w : tb_Hp), k v0 v1 v2 v3 w = some o → tb_Ev tb_P 68 299 (11, [(0, .ref v0), (1, .ref v1), (2, .ref v2), (3, .int v3)], [], w) r) : tb_Ev tb_P 68 299 (279, [], [], w) r := by
  unfold fj_lw_law_j267 at h
  refine tb_Es (k := 1) (st' := (280, [], [.int 0], w)) rfl ?_
  obtain rfl := Option.some.inj h
  replace hx : r = _ := hx
  subst hx
  exact tb_Er rfl rfl
def fj_lw_law_j294 (k : Nat → Nat → Nat → Int32 → tb_Hp → Option (Int32 × tb_Hp)) (w : tb_Hp) : Option (Int32 × tb_Hp) := some ((0, w))
set_option maxHeartbeats 4000000 in
set_option maxRecDepth 20000 in
theorem dj_lw_law_j294 (k : Nat → Nat → Nat → Int32 → tb_Hp → Option (Int32 × tb_Hp)) (w : tb_Hp) (o : Int32 × tb_Hp) (h : fj_lw_law_j294 k  w = some o) (r : Option Value × tb_Hp) (hx : r = (some (.int o.1), o.2)) (hk : ∀ (v0 : Nat) (v1 : Nat) (v2 : Nat) (v3 : Int32) (w : tb_Hp), k v0 v1 v2 v3 w = some o → tb_Ev tb_P 68 299 (11, [(0, .ref v0), (1, .ref v1), (2, .ref v2), (3, .int v3)], [], w) r) : tb_Ev tb_P 68 299 (307, [], [], w) r := by
  unfold fj_lw_law_j294 at h
  refine tb_Es (k := 1) (st' := (308, [], [.int 0], w)) rfl ?_
  obtain rfl := Option.some.inj h
  replace hx : r = _ := hx
  subst hx
  exact tb_Er rfl rfl
def fj_lw_law_j301 (k : Nat → Nat → Nat → Int32 → tb_Hp → Option (Int32 × tb_Hp)) (w : tb_Hp) : Option (Int32 × tb_Hp) := some ((0, w))
set_option maxHeartbeats 4000000 in
set_option maxRecDepth 20000 in
theorem dj_lw_law_j301 (k : Nat → Nat → Nat → Int32 → tb_Hp → Option (Int32 × tb_Hp)) (w : tb_Hp) (o : Int32 × tb_Hp) (h : fj_lw_law_j301 k  w = some o) (r : Option Value × tb_Hp) (hx : r = (some (.int o.1), o.2)) (hk : ∀ (v0 : Nat) (v1 : Nat) (v2 : Nat) (v3 : Int32) (w : tb_Hp), k v0 v1 v2 v3 w = some o → tb_Ev tb_P 68 299 (11, [(0, .ref v0), (1, .ref v1), (2, .ref v2), (3, .int v3)], [], w) r) : tb_Ev tb_P 68 299 (315, [], [], w) r := by
  unfold fj_lw_law_j301 at h
  refine tb_Es (k := 1) (st' := (316, [], [.int 0], w)) rfl ?_
  obtain rfl := Option.some.inj h
  replace hx : r = _ := hx
  subst hx
  exact tb_Er rfl rfl
def fj_lw_law_j328 (k : Nat → Nat → Nat → Int32 → tb_Hp → Option (Int32 × tb_Hp)) (w : tb_Hp) : Option (Int32 × tb_Hp) := some ((0, w))
set_option maxHeartbeats 4000000 in
set_option maxRecDepth 20000 in
theorem dj_lw_law_j328 (k : Nat → Nat → Nat → Int32 → tb_Hp → Option (Int32 × tb_Hp)) (w : tb_Hp) (o : Int32 × tb_Hp) (h : fj_lw_law_j328 k  w = some o) (r : Option Value × tb_Hp) (hx : r = (some (.int o.1), o.2)) (hk : ∀ (v0 : Nat) (v1 : Nat) (v2 : Nat) (v3 : Int32) (w : tb_Hp), k v0 v1 v2 v3 w = some o → tb_Ev tb_P 68 299 (11, [(0, .ref v0), (1, .ref v1), (2, .ref v2), (3, .int v3)], [], w) r) : tb_Ev tb_P 68 299 (343, [], [], w) r := by
  unfold fj_lw_law_j328 at h
  refine tb_Es (k := 1) (st' := (344, [], [.int 0], w)) rfl ?_
  obtain rfl := Option.some.inj h
  replace hx : r = _ := hx
  subst hx
  exact tb_Er rfl rfl
def fj_lw_law_j345 (k : Nat → Nat → Nat → Int32 → tb_Hp → Option (Int32 × tb_Hp)) (w : tb_Hp) : Option (Int32 × tb_Hp) := some ((0, w))
set_option maxHeartbeats 4000000 in
set_option maxRecDepth 20000 in
theorem dj_lw_law_j345 (k : Nat → Nat → Nat → Int32 → tb_Hp → Option (Int32 × tb_Hp)) (w : tb_Hp) (o : Int32 × tb_Hp) (h : fj_lw_law_j345 k  w = some o) (r : Option Value × tb_Hp) (hx : r = (some (.int o.1), o.2)) (hk : ∀ (v0 : Nat) (v1 : Nat) (v2 : Nat) (v3 : Int32) (w : tb_Hp), k v0 v1 v2 v3 w = some o → tb_Ev tb_P 68 299 (11, [(0, .ref v0), (1, .ref v1), (2, .ref v2), (3, .int v3)], [], w) r) : tb_Ev tb_P 68 299 (361, [], [], w) r := by
  unfold fj_lw_law_j345 at h
  refine tb_Es (k := 1) (st' := (362, [], [.int 0], w)) rfl ?_
  obtain rfl := Option.some.inj h
  replace hx : r = _ := hx
  subst hx
  exact tb_Er rfl rfl
def fj_lw_law_j362 (k : Nat → Nat → Nat → Int32 → tb_Hp → Option (Int32 × tb_Hp)) (w : tb_Hp) : Option (Int32 × tb_Hp) := some ((0, w))
set_option maxHeartbeats 4000000 in
set_option maxRecDepth 20000 in
theorem dj_lw_law_j362 (k : Nat → Nat → Nat → Int32 → tb_Hp → Option (Int32 × tb_Hp)) (w : tb_Hp) (o : Int32 × tb_Hp) (h : fj_lw_law_j362 k  w = some o) (r : Option Value × tb_Hp) (hx : r = (some (.int o.1), o.2)) (hk : ∀ (v0 : Nat) (v1 : Nat) (v2 : Nat) (v3 : Int32) (w : tb_Hp), k v0 v1 v2 v3 w = some o → tb_Ev tb_P 68 299 (11, [(0, .ref v0), (1, .ref v1), (2, .ref v2), (3, .int v3)], [], w) r) : tb_Ev tb_P 68 299 (379, [], [], w) r := by
  unfold fj_lw_law_j362 at h
  refine tb_Es (k := 1) (st' := (380, [], [.int 0], w)) rfl ?_
  obtain rfl := Option.some.inj h
  replace hx : r = _ := hx
  subst hx
  exact tb_Er rfl rfl
def fj_lw_law_j379 (k : Nat → Nat → Nat → Int32 → tb_Hp → Option (Int32 × tb_Hp)) (w : tb_Hp) : Option (Int32 × tb_Hp) := some ((0, w))
set_option maxHeartbeats 4000000 in
set_option maxRecDepth 20000 in
theorem dj_lw_law_j379 (k : Nat → Nat → Nat → Int32 → tb_Hp → Option (Int32 × tb_Hp)) (w : tb_Hp) (o : Int32 × tb_Hp) (h : fj_lw_law_j379 k  w = some o) (r : Option Value × tb_Hp) (hx : r = (some (.int o.1), o.2)) (hk : ∀ (v0 : Nat) (v1 : Nat) (v2 : Nat) (v3 : Int32) (w : tb_Hp), k v0 v1 v2 v3 w = some o → tb_Ev tb_P 68 299 (11, [(0, .ref v0), (1, .ref v1), (2, .ref v2), (3, .int v3)], [], w) r) : tb_Ev tb_P 68 299 (397, [], [], w) r := by
  unfold fj_lw_law_j379 at h
  refine tb_Es (k := 1) (st' := (398, [], [.int 0], w)) rfl ?_
  obtain rfl := Option.some.inj h
  replace hx : r = _ := hx
  subst hx
  exact tb_Er rfl rfl
def fj_lw_law_j386 (k : Nat → Nat → Nat → Int32 → tb_Hp → Option (Int32 × tb_Hp)) (w : tb_Hp) : Option (Int32 × tb_Hp) := some ((0, w))
set_option maxHeartbeats 4000000 in
set_option maxRecDepth 20000 in
theorem dj_lw_law_j386 (k : Nat → Nat → Nat → Int32 → tb_Hp → Option (Int32 × tb_Hp)) (w : tb_Hp) (o : Int32 × tb_Hp) (h : fj_lw_law_j386 k  w = some o) (r : Option Value × tb_Hp) (hx : r = (some (.int o.1), o.2)) (hk : ∀ (v0 : Nat) (v1 : Nat) (v2 : Nat) (v3 : Int32) (w : tb_Hp), k v0 v1 v2 v3 w = some o → tb_Ev tb_P 68 299 (11, [(0, .ref v0), (1, .ref v1), (2, .ref v2), (3, .int v3)], [], w) r) : tb_Ev tb_P 68 299 (405, [], [], w) r := by
  unfold fj_lw_law_j386 at h
  refine tb_Es (k := 1) (st' := (406, [], [.int 0], w)) rfl ?_
  obtain rfl := Option.some.inj h
  replace hx : r = _ := hx
  subst hx
  exact tb_Er rfl rfl
def fj_lw_law_j413 (k : Nat → Nat → Nat → Int32 → tb_Hp → Option (Int32 × tb_Hp)) (w : tb_Hp) : Option (Int32 × tb_Hp) := some ((0, w))
set_option maxHeartbeats 4000000 in
set_option maxRecDepth 20000 in
theorem dj_lw_law_j413 (k : Nat → Nat → Nat → Int32 → tb_Hp → Option (Int32 × tb_Hp)) (w : tb_Hp) (o : Int32 × tb_Hp) (h : fj_lw_law_j413 k  w = some o) (r : Option Value × tb_Hp) (hx : r = (some (.int o.1), o.2)) (hk : ∀ (v0 : Nat) (v1 : Nat) (v2 : Nat) (v3 : Int32) (w : tb_Hp), k v0 v1 v2 v3 w = some o → tb_Ev tb_P 68 299 (11, [(0, .ref v0), (1, .ref v1), (2, .ref v2), (3, .int v3)], [], w) r) : tb_Ev tb_P 68 299 (433, [], [], w) r := by
  unfold fj_lw_law_j413 at h
  refine tb_Es (k := 1) (st' := (434, [], [.int 0], w)) rfl ?_
  obtain rfl := Option.some.inj h
  replace hx : r = _ := hx
  subst hx
  exact tb_Er rfl rfl
def fj_lw_law_j430 (k : Nat → Nat → Nat → Int32 → tb_Hp → Option (Int32 × tb_Hp)) (w : tb_Hp) : Option (Int32 × tb_Hp) := some ((0, w))
set_option maxHeartbeats 4000000 in
set_option maxRecDepth 20000 in
theorem dj_lw_law_j430 (k : Nat → Nat → Nat → Int32 → tb_Hp → Option (Int32 × tb_Hp)) (w : tb_Hp) (o : Int32 × tb_Hp) (h : fj_lw_law_j430 k  w = some o) (r : Option Value × tb_Hp) (hx : r = (some (.int o.1), o.2)) (hk : ∀ (v0 : Nat) (v1 : Nat) (v2 : Nat) (v3 : Int32) (w : tb_Hp), k v0 v1 v2 v3 w = some o → tb_Ev tb_P 68 299 (11, [(0, .ref v0), (1, .ref v1), (2, .ref v2), (3, .int v3)], [], w) r) : tb_Ev tb_P 68 299 (451, [], [], w) r := by
  unfold fj_lw_law_j430 at h
  refine tb_Es (k := 1) (st' := (452, [], [.int 0], w)) rfl ?_
  obtain rfl := Option.some.inj h
  replace hx : r = _ := hx
  subst hx
  exact tb_Er rfl rfl
def fj_lw_law_j447 (k : Nat → Nat → Nat → Int32 → tb_Hp → Option (Int32 × tb_Hp)) (w : tb_Hp) : Option (Int32 × tb_Hp) := some ((0, w))
set_option maxHeartbeats 4000000 in
set_option maxRecDepth 20000 in
theorem dj_lw_law_j447 (k : Nat → Nat → Nat → Int32 → tb_Hp → Option (Int32 × tb_Hp)) (w : tb_Hp) (o : Int32 × tb_Hp) (h : fj_lw_law_j447 k  w = some o) (r : Option Value × tb_Hp) (hx : r = (some (.int o.1), o.2)) (hk : ∀ (v0 : Nat) (v1 : Nat) (v2 : Nat) (v3 : Int32) (w : tb_Hp), k v0 v1 v2 v3 w = some o → tb_Ev tb_P 68 299 (11, [(0, .ref v0), (1, .ref v1), (2, .ref v2), (3, .int v3)], [], w) r) : tb_Ev tb_P 68 299 (469, [], [], w) r := by
  unfold fj_lw_law_j447 at h
  refine tb_Es (k := 1) (st' := (470, [], [.int 0], w)) rfl ?_
  obtain rfl := Option.some.inj h
  replace hx : r = _ := hx
  subst hx
  exact tb_Er rfl rfl
def fj_lw_law_j474 (k : Nat → Nat → Nat → Int32 → tb_Hp → Option (Int32 × tb_Hp)) (w : tb_Hp) : Option (Int32 × tb_Hp) := some ((0, w))
set_option maxHeartbeats 4000000 in
set_option maxRecDepth 20000 in
theorem dj_lw_law_j474 (k : Nat → Nat → Nat → Int32 → tb_Hp → Option (Int32 × tb_Hp)) (w : tb_Hp) (o : Int32 × tb_Hp) (h : fj_lw_law_j474 k  w = some o) (r : Option Value × tb_Hp) (hx : r = (some (.int o.1), o.2)) (hk : ∀ (v0 : Nat) (v1 : Nat) (v2 : Nat) (v3 : Int32) (w : tb_Hp), k v0 v1 v2 v3 w = some o → tb_Ev tb_P 68 299 (11, [(0, .ref v0), (1, .ref v1), (2, .ref v2), (3, .int v3)], [], w) r) : tb_Ev tb_P 68 299 (497, [], [], w) r := by
  unfold fj_lw_law_j474 at h
  refine tb_Es (k := 1) (st' := (498, [], [.int 0], w)) rfl ?_
  obtain rfl := Option.some.inj h
  replace hx : r = _ := hx
  subst hx
  exact tb_Er rfl rfl
def fj_lw_law_j491 (k : Nat → Nat → Nat → Int32 → tb_Hp → Option (Int32 × tb_Hp)) (w : tb_Hp) : Option (Int32 × tb_Hp) := some ((0, w))
set_option maxHeartbeats 4000000 in
set_option maxRecDepth 20000 in
theorem dj_lw_law_j491 (k : Nat → Nat → Nat → Int32 → tb_Hp → Option (Int32 × tb_Hp)) (w : tb_Hp) (o : Int32 × tb_Hp) (h : fj_lw_law_j491 k  w = some o) (r : Option Value × tb_Hp) (hx : r = (some (.int o.1), o.2)) (hk : ∀ (v0 : Nat) (v1 : Nat) (v2 : Nat) (v3 : Int32) (w : tb_Hp), k v0 v1 v2 v3 w = some o → tb_Ev tb_P 68 299 (11, [(0, .ref v0), (1, .ref v1), (2, .ref v2), (3, .int v3)], [], w) r) : tb_Ev tb_P 68 299 (515, [], [], w) r := by
  unfold fj_lw_law_j491 at h
  refine tb_Es (k := 1) (st' := (516, [], [.int 0], w)) rfl ?_
  obtain rfl := Option.some.inj h
  replace hx : r = _ := hx
  subst hx
  exact tb_Er rfl rfl
def fj_lw_law_j518 (k : Nat → Nat → Nat → Int32 → tb_Hp → Option (Int32 × tb_Hp)) (w : tb_Hp) : Option (Int32 × tb_Hp) := some ((0, w))
set_option maxHeartbeats 4000000 in
set_option maxRecDepth 20000 in
theorem dj_lw_law_j518 (k : Nat → Nat → Nat → Int32 → tb_Hp → Option (Int32 × tb_Hp)) (w : tb_Hp) (o : Int32 × tb_Hp) (h : fj_lw_law_j518 k  w = some o) (r : Option Value × tb_Hp) (hx : r = (some (.int o.1), o.2)) (hk : ∀ (v0 : Nat) (v1 : Nat) (v2 : Nat) (v3 : Int32) (w : tb_Hp), k v0 v1 v2 v3 w = some o → tb_Ev tb_P 68 299 (11, [(0, .ref v0), (1, .ref v1), (2, .ref v2), (3, .int v3)], [], w) r) : tb_Ev tb_P 68 299 (543, [], [], w) r := by
  unfold fj_lw_law_j518 at h
  refine tb_Es (k := 1) (st' := (544, [], [.int 0], w)) rfl ?_
  obtain rfl := Option.some.inj h
  replace hx : r = _ := hx
  subst hx
  exact tb_Er rfl rfl
def fj_lw_law_j535 (k : Nat → Nat → Nat → Int32 → tb_Hp → Option (Int32 × tb_Hp)) (w : tb_Hp) : Option (Int32 × tb_Hp) := some ((0, w))
set_option maxHeartbeats 4000000 in
set_option maxRecDepth 20000 in
theorem dj_lw_law_j535 (k : Nat → Nat → Nat → Int32 → tb_Hp → Option (Int32 × tb_Hp)) (w : tb_Hp) (o : Int32 × tb_Hp) (h : fj_lw_law_j535 k  w = some o) (r : Option Value × tb_Hp) (hx : r = (some (.int o.1), o.2)) (hk : ∀ (v0 : Nat) (v1 : Nat) (v2 : Nat) (v3 : Int32) (w : tb_Hp), k v0 v1 v2 v3 w = some o → tb_Ev tb_P 68 299 (11, [(0, .ref v0), (1, .ref v1), (2, .ref v2), (3, .int v3)], [], w) r) : tb_Ev tb_P 68 299 (561, [], [], w) r := by
  unfold fj_lw_law_j535 at h
  refine tb_Es (k := 1) (st' := (562, [], [.int 0], w)) rfl ?_
  obtain rfl := Option.some.inj h
  replace hx : r = _ := hx
  subst hx
  exact tb_Er rfl rfl
def fj_lw_law_j572 (k : Nat → Nat → Nat → Int32 → tb_Hp → Option (Int32 × tb_Hp)) (w : tb_Hp) : Option (Int32 × tb_Hp) := some ((0, w))
set_option maxHeartbeats 4000000 in
set_option maxRecDepth 20000 in
theorem dj_lw_law_j572 (k : Nat → Nat → Nat → Int32 → tb_Hp → Option (Int32 × tb_Hp)) (w : tb_Hp) (o : Int32 × tb_Hp) (h : fj_lw_law_j572 k  w = some o) (r : Option Value × tb_Hp) (hx : r = (some (.int o.1), o.2)) (hk : ∀ (v0 : Nat) (v1 : Nat) (v2 : Nat) (v3 : Int32) (w : tb_Hp), k v0 v1 v2 v3 w = some o → tb_Ev tb_P 68 299 (11, [(0, .ref v0), (1, .ref v1), (2, .ref v2), (3, .int v3)], [], w) r) : tb_Ev tb_P 68 299 (599, [], [], w) r := by
  unfold fj_lw_law_j572 at h
  refine tb_Es (k := 1) (st' := (600, [], [.int 0], w)) rfl ?_
  obtain rfl := Option.some.inj h
  replace hx : r = _ := hx
  subst hx
  exact tb_Er rfl rfl
def fj_lw_law_j599 (k : Nat → Nat → Nat → Int32 → tb_Hp → Option (Int32 × tb_Hp)) (w : tb_Hp) : Option (Int32 × tb_Hp) := some ((0, w))
set_option maxHeartbeats 4000000 in
set_option maxRecDepth 20000 in
theorem dj_lw_law_j599 (k : Nat → Nat → Nat → Int32 → tb_Hp → Option (Int32 × tb_Hp)) (w : tb_Hp) (o : Int32 × tb_Hp) (h : fj_lw_law_j599 k  w = some o) (r : Option Value × tb_Hp) (hx : r = (some (.int o.1), o.2)) (hk : ∀ (v0 : Nat) (v1 : Nat) (v2 : Nat) (v3 : Int32) (w : tb_Hp), k v0 v1 v2 v3 w = some o → tb_Ev tb_P 68 299 (11, [(0, .ref v0), (1, .ref v1), (2, .ref v2), (3, .int v3)], [], w) r) : tb_Ev tb_P 68 299 (627, [], [], w) r := by
  unfold fj_lw_law_j599 at h
  refine tb_Es (k := 1) (st' := (628, [], [.int 0], w)) rfl ?_
  obtain rfl := Option.some.inj h
  replace hx : r = _ := hx
  subst hx
  exact tb_Er rfl rfl
def fj_lw_law_j646 (k : Nat → Nat → Nat → Int32 → tb_Hp → Option (Int32 × tb_Hp)) (w : tb_Hp) : Option (Int32 × tb_Hp) := some ((0, w))
set_option maxHeartbeats 4000000 in
set_option maxRecDepth 20000 in
theorem dj_lw_law_j646 (k : Nat → Nat → Nat → Int32 → tb_Hp → Option (Int32 × tb_Hp)) (w : tb_Hp) (o : Int32 × tb_Hp) (h : fj_lw_law_j646 k  w = some o) (r : Option Value × tb_Hp) (hx : r = (some (.int o.1), o.2)) (hk : ∀ (v0 : Nat) (v1 : Nat) (v2 : Nat) (v3 : Int32) (w : tb_Hp), k v0 v1 v2 v3 w = some o → tb_Ev tb_P 68 299 (11, [(0, .ref v0), (1, .ref v1), (2, .ref v2), (3, .int v3)], [], w) r) : tb_Ev tb_P 68 299 (675, [], [], w) r := by
  unfold fj_lw_law_j646 at h
  refine tb_Es (k := 1) (st' := (676, [], [.int 0], w)) rfl ?_
  obtain rfl := Option.some.inj h
  replace hx : r = _ := hx
  subst hx
  exact tb_Er rfl rfl
def fj_lw_law_j673 (k : Nat → Nat → Nat → Int32 → tb_Hp → Option (Int32 × tb_Hp)) (w : tb_Hp) : Option (Int32 × tb_Hp) := some ((0, w))
set_option maxHeartbeats 4000000 in
set_option maxRecDepth 20000 in
theorem dj_lw_law_j673 (k : Nat → Nat → Nat → Int32 → tb_Hp → Option (Int32 × tb_Hp)) (w : tb_Hp) (o : Int32 × tb_Hp) (h : fj_lw_law_j673 k  w = some o) (r : Option Value × tb_Hp) (hx : r = (some (.int o.1), o.2)) (hk : ∀ (v0 : Nat) (v1 : Nat) (v2 : Nat) (v3 : Int32) (w : tb_Hp), k v0 v1 v2 v3 w = some o → tb_Ev tb_P 68 299 (11, [(0, .ref v0), (1, .ref v1), (2, .ref v2), (3, .int v3)], [], w) r) : tb_Ev tb_P 68 299 (703, [], [], w) r := by
  unfold fj_lw_law_j673 at h
  refine tb_Es (k := 1) (st' := (704, [], [.int 0], w)) rfl ?_
  obtain rfl := Option.some.inj h
  replace hx : r = _ := hx
  subst hx
  exact tb_Er rfl rfl
def fj_lw_law_j710 (k : Nat → Nat → Nat → Int32 → tb_Hp → Option (Int32 × tb_Hp)) (w : tb_Hp) : Option (Int32 × tb_Hp) := some ((0, w))
set_option maxHeartbeats 4000000 in
set_option maxRecDepth 20000 in
theorem dj_lw_law_j710 (k : Nat → Nat → Nat → Int32 → tb_Hp → Option (Int32 × tb_Hp)) (w : tb_Hp) (o : Int32 × tb_Hp) (h : fj_lw_law_j710 k  w = some o) (r : Option Value × tb_Hp) (hx : r = (some (.int o.1), o.2)) (hk : ∀ (v0 : Nat) (v1 : Nat) (v2 : Nat) (v3 : Int32) (w : tb_Hp), k v0 v1 v2 v3 w = some o → tb_Ev tb_P 68 299 (11, [(0, .ref v0), (1, .ref v1), (2, .ref v2), (3, .int v3)], [], w) r) : tb_Ev tb_P 68 299 (741, [], [], w) r := by
  unfold fj_lw_law_j710 at h
  refine tb_Es (k := 1) (st' := (742, [], [.int 0], w)) rfl ?_
  obtain rfl := Option.some.inj h
  replace hx : r = _ := hx
  subst hx
  exact tb_Er rfl rfl
def fj_lw_law_j727 (k : Nat → Nat → Nat → Int32 → tb_Hp → Option (Int32 × tb_Hp)) (w : tb_Hp) : Option (Int32 × tb_Hp) := some ((0, w))
set_option maxHeartbeats 4000000 in
set_option maxRecDepth 20000 in
theorem dj_lw_law_j727 (k : Nat → Nat → Nat → Int32 → tb_Hp → Option (Int32 × tb_Hp)) (w : tb_Hp) (o : Int32 × tb_Hp) (h : fj_lw_law_j727 k  w = some o) (r : Option Value × tb_Hp) (hx : r = (some (.int o.1), o.2)) (hk : ∀ (v0 : Nat) (v1 : Nat) (v2 : Nat) (v3 : Int32) (w : tb_Hp), k v0 v1 v2 v3 w = some o → tb_Ev tb_P 68 299 (11, [(0, .ref v0), (1, .ref v1), (2, .ref v2), (3, .int v3)], [], w) r) : tb_Ev tb_P 68 299 (759, [], [], w) r := by
  unfold fj_lw_law_j727 at h
  refine tb_Es (k := 1) (st' := (760, [], [.int 0], w)) rfl ?_
  obtain rfl := Option.some.inj h
  replace hx : r = _ := hx
  subst hx
  exact tb_Er rfl rfl
def fj_lw_law_j754 (k : Nat → Nat → Nat → Int32 → tb_Hp → Option (Int32 × tb_Hp)) (w : tb_Hp) : Option (Int32 × tb_Hp) := some ((0, w))
set_option maxHeartbeats 4000000 in
set_option maxRecDepth 20000 in
theorem dj_lw_law_j754 (k : Nat → Nat → Nat → Int32 → tb_Hp → Option (Int32 × tb_Hp)) (w : tb_Hp) (o : Int32 × tb_Hp) (h : fj_lw_law_j754 k  w = some o) (r : Option Value × tb_Hp) (hx : r = (some (.int o.1), o.2)) (hk : ∀ (v0 : Nat) (v1 : Nat) (v2 : Nat) (v3 : Int32) (w : tb_Hp), k v0 v1 v2 v3 w = some o → tb_Ev tb_P 68 299 (11, [(0, .ref v0), (1, .ref v1), (2, .ref v2), (3, .int v3)], [], w) r) : tb_Ev tb_P 68 299 (787, [], [], w) r := by
  unfold fj_lw_law_j754 at h
  refine tb_Es (k := 1) (st' := (788, [], [.int 0], w)) rfl ?_
  obtain rfl := Option.some.inj h
  replace hx : r = _ := hx
  subst hx
  exact tb_Er rfl rfl
def fj_lw_law_j771 (k : Nat → Nat → Nat → Int32 → tb_Hp → Option (Int32 × tb_Hp)) (w : tb_Hp) : Option (Int32 × tb_Hp) := some ((0, w))
set_option maxHeartbeats 4000000 in
set_option maxRecDepth 20000 in
theorem dj_lw_law_j771 (k : Nat → Nat → Nat → Int32 → tb_Hp → Option (Int32 × tb_Hp)) (w : tb_Hp) (o : Int32 × tb_Hp) (h : fj_lw_law_j771 k  w = some o) (r : Option Value × tb_Hp) (hx : r = (some (.int o.1), o.2)) (hk : ∀ (v0 : Nat) (v1 : Nat) (v2 : Nat) (v3 : Int32) (w : tb_Hp), k v0 v1 v2 v3 w = some o → tb_Ev tb_P 68 299 (11, [(0, .ref v0), (1, .ref v1), (2, .ref v2), (3, .int v3)], [], w) r) : tb_Ev tb_P 68 299 (805, [], [], w) r := by
  unfold fj_lw_law_j771 at h
  refine tb_Es (k := 1) (st' := (806, [], [.int 0], w)) rfl ?_
  obtain rfl := Option.some.inj h
  replace hx : r = _ := hx
  subst hx
  exact tb_Er rfl rfl
def fj_lw_law_j818 (k : Nat → Nat → Nat → Int32 → tb_Hp → Option (Int32 × tb_Hp)) (w : tb_Hp) : Option (Int32 × tb_Hp) := some ((0, w))
set_option maxHeartbeats 4000000 in
set_option maxRecDepth 20000 in
theorem dj_lw_law_j818 (k : Nat → Nat → Nat → Int32 → tb_Hp → Option (Int32 × tb_Hp)) (w : tb_Hp) (o : Int32 × tb_Hp) (h : fj_lw_law_j818 k  w = some o) (r : Option Value × tb_Hp) (hx : r = (some (.int o.1), o.2)) (hk : ∀ (v0 : Nat) (v1 : Nat) (v2 : Nat) (v3 : Int32) (w : tb_Hp), k v0 v1 v2 v3 w = some o → tb_Ev tb_P 68 299 (11, [(0, .ref v0), (1, .ref v1), (2, .ref v2), (3, .int v3)], [], w) r) : tb_Ev tb_P 68 299 (853, [], [], w) r := by
  unfold fj_lw_law_j818 at h
  refine tb_Es (k := 1) (st' := (854, [], [.int 0], w)) rfl ?_
  obtain rfl := Option.some.inj h
  replace hx : r = _ := hx
  subst hx
  exact tb_Er rfl rfl
def fj_lw_law_j835 (k : Nat → Nat → Nat → Int32 → tb_Hp → Option (Int32 × tb_Hp)) (w : tb_Hp) : Option (Int32 × tb_Hp) := some ((0, w))
set_option maxHeartbeats 4000000 in
set_option maxRecDepth 20000 in
theorem dj_lw_law_j835 (k : Nat → Nat → Nat → Int32 → tb_Hp → Option (Int32 × tb_Hp)) (w : tb_Hp) (o : Int32 × tb_Hp) (h : fj_lw_law_j835 k  w = some o) (r : Option Value × tb_Hp) (hx : r = (some (.int o.1), o.2)) (hk : ∀ (v0 : Nat) (v1 : Nat) (v2 : Nat) (v3 : Int32) (w : tb_Hp), k v0 v1 v2 v3 w = some o → tb_Ev tb_P 68 299 (11, [(0, .ref v0), (1, .ref v1), (2, .ref v2), (3, .int v3)], [], w) r) : tb_Ev tb_P 68 299 (871, [], [], w) r := by
  unfold fj_lw_law_j835 at h
  refine tb_Es (k := 1) (st' := (872, [], [.int 0], w)) rfl ?_
  obtain rfl := Option.some.inj h
  replace hx : r = _ := hx
  subst hx
  exact tb_Er rfl rfl
def fj_lw_law_j852 (k : Nat → Nat → Nat → Int32 → tb_Hp → Option (Int32 × tb_Hp)) (w : tb_Hp) : Option (Int32 × tb_Hp) := some ((0, w))
set_option maxHeartbeats 4000000 in
set_option maxRecDepth 20000 in
theorem dj_lw_law_j852 (k : Nat → Nat → Nat → Int32 → tb_Hp → Option (Int32 × tb_Hp)) (w : tb_Hp) (o : Int32 × tb_Hp) (h : fj_lw_law_j852 k  w = some o) (r : Option Value × tb_Hp) (hx : r = (some (.int o.1), o.2)) (hk : ∀ (v0 : Nat) (v1 : Nat) (v2 : Nat) (v3 : Int32) (w : tb_Hp), k v0 v1 v2 v3 w = some o → tb_Ev tb_P 68 299 (11, [(0, .ref v0), (1, .ref v1), (2, .ref v2), (3, .int v3)], [], w) r) : tb_Ev tb_P 68 299 (889, [], [], w) r := by
  unfold fj_lw_law_j852 at h
  refine tb_Es (k := 1) (st' := (890, [], [.int 0], w)) rfl ?_
  obtain rfl := Option.some.inj h
  replace hx : r = _ := hx
  subst hx
  exact tb_Er rfl rfl
def fj_lw_law_j869 (k : Nat → Nat → Nat → Int32 → tb_Hp → Option (Int32 × tb_Hp)) (w : tb_Hp) : Option (Int32 × tb_Hp) := some ((0, w))
set_option maxHeartbeats 4000000 in
set_option maxRecDepth 20000 in
theorem dj_lw_law_j869 (k : Nat → Nat → Nat → Int32 → tb_Hp → Option (Int32 × tb_Hp)) (w : tb_Hp) (o : Int32 × tb_Hp) (h : fj_lw_law_j869 k  w = some o) (r : Option Value × tb_Hp) (hx : r = (some (.int o.1), o.2)) (hk : ∀ (v0 : Nat) (v1 : Nat) (v2 : Nat) (v3 : Int32) (w : tb_Hp), k v0 v1 v2 v3 w = some o → tb_Ev tb_P 68 299 (11, [(0, .ref v0), (1, .ref v1), (2, .ref v2), (3, .int v3)], [], w) r) : tb_Ev tb_P 68 299 (907, [], [], w) r := by
  unfold fj_lw_law_j869 at h
  refine tb_Es (k := 1) (st' := (908, [], [.int 0], w)) rfl ?_
  obtain rfl := Option.some.inj h
  replace hx : r = _ := hx
  subst hx
  exact tb_Er rfl rfl
def fj_lw_law_j873 (k : Nat → Nat → Nat → Int32 → tb_Hp → Option (Int32 × tb_Hp)) (w : tb_Hp) : Option (Int32 × tb_Hp) := some ((1, w))
set_option maxHeartbeats 4000000 in
set_option maxRecDepth 20000 in
theorem dj_lw_law_j873 (k : Nat → Nat → Nat → Int32 → tb_Hp → Option (Int32 × tb_Hp)) (w : tb_Hp) (o : Int32 × tb_Hp) (h : fj_lw_law_j873 k  w = some o) (r : Option Value × tb_Hp) (hx : r = (some (.int o.1), o.2)) (hk : ∀ (v0 : Nat) (v1 : Nat) (v2 : Nat) (v3 : Int32) (w : tb_Hp), k v0 v1 v2 v3 w = some o → tb_Ev tb_P 68 299 (11, [(0, .ref v0), (1, .ref v1), (2, .ref v2), (3, .int v3)], [], w) r) : tb_Ev tb_P 68 299 (912, [], [], w) r := by
  unfold fj_lw_law_j873 at h
  refine tb_Es (k := 1) (st' := (913, [], [.int 1], w)) rfl ?_
  obtain rfl := Option.some.inj h
  replace hx : r = _ := hx
  subst hx
  exact tb_Er rfl rfl
def fl_lw_law_10 : Nat → Nat → Nat → Nat → Int32 → tb_Hp → Option (Int32 × tb_Hp)
  | 0, _, _, _, _, _ => none
  | n + 1, v0, v1, v2, v3, w => (tb_al v0 w).bind fun x5 => (if v3 ≤ (x5 - 6) then (tb_lI [1, 9] v0 v3 w).bind fun x6 => (if (x6 &&& 63) = 0 then (tb_lI [1, 9] v0 (v3 + 1) w).bind fun x7 => (tb_lI [1, 9] v0 (v3 + 2) w).bind fun x8 => (tb_lI [1, 9] v0 (v3 + 3) w).bind fun x9 => (tb_lI [1, 9] v0 (v3 + 4) w).bind fun x10 => (tb_lI [1, 9] v0 (v3 + 5) w).bind fun x11 => (tb_on 21 v1 w (fb_x_feed v1 x7 x8 x9 x10 x11 w)).bind fun x12 => (tb_lI [1, 9] v0 (v3 + 1) x12.2).bind fun x13 => (tb_lI [1, 9] v0 (v3 + 2) x12.2).bind fun x14 => (tb_lI [1, 9] v0 (v3 + 3) x12.2).bind fun x15 => (tb_lI [1, 9] v0 (v3 + 4) x12.2).bind fun x16 => (tb_lI [1, 9] v0 (v3 + 5) x12.2).bind fun x17 => (tb_on 22 v2 x12.2 (fb_m_feed v2 x13 x14 x15 x16 x17 x12.2)).bind fun x18 => (if x12.1 = x18.1 then fl_lw_law_10 n v0 v1 v2 (v3 + 6) x18.2 else fj_lw_law_j77 (fl_lw_law_10 n)  x18.2) else (if (x6 &&& 63) = 1 then (tb_lI [1, 9] v0 (v3 + 1) w).bind fun x19 => (tb_on 21 v1 w (fb_x_end v1 x19 w)).bind fun x20 => (tb_lI [1, 9] v0 (v3 + 1) x20.2).bind fun x21 => (tb_on 22 v2 x20.2 (fb_m_end v2 x21 x20.2)).bind fun x22 => (if x20.1 = x22.1 then fl_lw_law_10 n v0 v1 v2 (v3 + 6) x22.2 else fj_lw_law_j94 (fl_lw_law_10 n)  x22.2) else (if (x6 &&& 63) = 2 then (tb_on 21 v1 w (fb_x_street v1 w)).bind fun x23 => (tb_on 22 v2 x23.2 (fb_m_street v2 x23.2)).bind fun x24 => (if x23.1 = x24.1 then fl_lw_law_10 n v0 v1 v2 (v3 + 6) x24.2 else fj_lw_law_j101 (fl_lw_law_10 n)  x24.2) else (if (x6 &&& 63) = 3 then (tb_on 21 v1 w (fb_x_rule v1 w)).bind fun x25 => (tb_on 22 v2 x25.2 (fb_m_rule v2 x25.2)).bind fun x26 => (if x25.1 = x26.1 then fl_lw_law_10 n v0 v1 v2 (v3 + 6) x26.2 else fj_lw_law_j108 (fl_lw_law_10 n)  x26.2) else (if (x6 &&& 63) = 4 then (tb_lI [1, 9] v0 (v3 + 1) w).bind fun x27 => (tb_on 21 v1 w (fb_x_force v1 x27 w)).bind fun x28 => (tb_lI [1, 9] v0 (v3 + 1) x28.2).bind fun x29 => (tb_on 22 v2 x28.2 (fb_m_force v2 x29 x28.2)).bind fun x30 => (if x28.1 = x30.1 then fl_lw_law_10 n v0 v1 v2 (v3 + 6) x30.2 else fj_lw_law_j125 (fl_lw_law_10 n)  x30.2) else (if (x6 &&& 63) = 5 then (tb_lI [1, 9] v0 (v3 + 1) w).bind fun x31 => (tb_lI [1, 9] v0 (v3 + 2) w).bind fun x32 => (tb_on 21 v1 w (fb_x_house v1 x31 x32 w)).bind fun x33 => (tb_lI [1, 9] v0 (v3 + 1) x33.2).bind fun x34 => (tb_lI [1, 9] v0 (v3 + 2) x33.2).bind fun x35 => (tb_on 22 v2 x33.2 (fb_m_house v2 x34 x35 x33.2)).bind fun x36 => (if x33.1 = x36.1 then fl_lw_law_10 n v0 v1 v2 (v3 + 6) x36.2 else fj_lw_law_j152 (fl_lw_law_10 n)  x36.2) else (if (x6 &&& 63) = 6 then (tb_lI [1, 9] v0 (v3 + 1) w).bind fun x37 => (tb_lI [1, 9] v0 (v3 + 2) w).bind fun x38 => (tb_on 21 v1 w (fb_x_line v1 x37 x38 w)).bind fun x39 => (tb_lI [1, 9] v0 (v3 + 1) x39.2).bind fun x40 => (tb_lI [1, 9] v0 (v3 + 2) x39.2).bind fun x41 => (tb_on 22 v2 x39.2 (fb_m_line v2 x40 x41 x39.2)).bind fun x42 => (if x39.1 = x42.1 then fl_lw_law_10 n v0 v1 v2 (v3 + 6) x42.2 else fj_lw_law_j179 (fl_lw_law_10 n)  x42.2) else (if (x6 &&& 63) = 7 then (tb_on 21 v1 w (fb_x_year v1 w)).bind fun x43 => (tb_on 22 v2 x43.2 (fb_m_year v2 x43.2)).bind fun x44 => (if x43.1 = x44.1 then fl_lw_law_10 n v0 v1 v2 (v3 + 6) x44.2 else fj_lw_law_j186 (fl_lw_law_10 n)  x44.2) else (if (x6 &&& 63) = 8 then (tb_lI [1, 9] v0 (v3 + 1) w).bind fun x45 => (tb_lI [1, 9] v0 (v3 + 2) w).bind fun x46 => (tb_on 21 v1 w (fb_x_tighten v1 x45 x46 w)).bind fun x47 => (tb_lI [1, 9] v0 (v3 + 1) x47.2).bind fun x48 => (tb_lI [1, 9] v0 (v3 + 2) x47.2).bind fun x49 => (tb_on 22 v2 x47.2 (fb_m_tighten v2 x48 x49 x47.2)).bind fun x50 => (if x47.1 = x50.1 then fl_lw_law_10 n v0 v1 v2 (v3 + 6) x50.2 else fj_lw_law_j213 (fl_lw_law_10 n)  x50.2) else (if (x6 &&& 63) = 9 then (tb_lI [1, 9] v0 (v3 + 1) w).bind fun x51 => (tb_on 21 v1 w (fb_x_cut v1 x51 w)).bind fun x52 => (tb_lI [1, 9] v0 (v3 + 1) x52.2).bind fun x53 => (tb_on 22 v2 x52.2 (fb_m_cut v2 x53 x52.2)).bind fun x54 => (if x52.1 = x54.1 then fl_lw_law_10 n v0 v1 v2 (v3 + 6) x54.2 else fj_lw_law_j230 (fl_lw_law_10 n)  x54.2) else (if (x6 &&& 63) = 10 then (tb_lI [1, 9] v0 (v3 + 1) w).bind fun x55 => (tb_lI [1, 9] v0 (v3 + 2) w).bind fun x56 => (tb_lI [1, 9] v0 (v3 + 3) w).bind fun x57 => (tb_on 21 v1 w (fb_x_hang v1 x55 x56 x57 w)).bind fun x58 => (tb_lI [1, 9] v0 (v3 + 1) x58.2).bind fun x59 => (tb_lI [1, 9] v0 (v3 + 2) x58.2).bind fun x60 => (tb_lI [1, 9] v0 (v3 + 3) x58.2).bind fun x61 => (tb_on 22 v2 x58.2 (fb_m_hang v2 x59 x60 x61 x58.2)).bind fun x62 => (if x58.1 = x62.1 then fl_lw_law_10 n v0 v1 v2 (v3 + 6) x62.2 else fj_lw_law_j267 (fl_lw_law_10 n)  x62.2) else (if (x6 &&& 63) = 11 then (tb_lI [1, 9] v0 (v3 + 1) w).bind fun x63 => (tb_lI [1, 9] v0 (v3 + 2) w).bind fun x64 => (tb_on 21 v1 w (fb_x_prop v1 x63 x64 w)).bind fun x65 => (tb_lI [1, 9] v0 (v3 + 1) x65.2).bind fun x66 => (tb_lI [1, 9] v0 (v3 + 2) x65.2).bind fun x67 => (tb_on 22 v2 x65.2 (fb_m_prop v2 x66 x67 x65.2)).bind fun x68 => (if x65.1 = x68.1 then fl_lw_law_10 n v0 v1 v2 (v3 + 6) x68.2 else fj_lw_law_j294 (fl_lw_law_10 n)  x68.2) else (if (x6 &&& 63) = 12 then (tb_on 21 v1 w (fb_x_undo v1 w)).bind fun x69 => (tb_on 22 v2 x69.2 (fb_m_undo v2 x69.2)).bind fun x70 => (if x69.1 = x70.1 then fl_lw_law_10 n v0 v1 v2 (v3 + 6) x70.2 else fj_lw_law_j301 (fl_lw_law_10 n)  x70.2) else (if (x6 &&& 63) = 13 then (tb_lI [1, 9] v0 (v3 + 1) w).bind fun x71 => (tb_lI [1, 9] v0 (v3 + 2) w).bind fun x72 => (tb_on 21 v1 w (fb_x_ahead v1 x71 x72 w)).bind fun x73 => (tb_lI [1, 9] v0 (v3 + 1) x73.2).bind fun x74 => (tb_lI [1, 9] v0 (v3 + 2) x73.2).bind fun x75 => (tb_on 22 v2 x73.2 (fb_m_ahead v2 x74 x75 x73.2)).bind fun x76 => (if x73.1 = x76.1 then fl_lw_law_10 n v0 v1 v2 (v3 + 6) x76.2 else fj_lw_law_j328 (fl_lw_law_10 n)  x76.2) else (if (x6 &&& 63) = 14 then (tb_lI [1, 9] v0 (v3 + 1) w).bind fun x77 => (tb_on 21 v1 w (fb_x_falls v1 x77 w)).bind fun x78 => (tb_lI [1, 9] v0 (v3 + 1) x78.2).bind fun x79 => (tb_on 22 v2 x78.2 (fb_m_falls v2 x79 x78.2)).bind fun x80 => (if x78.1 = x80.1 then fl_lw_law_10 n v0 v1 v2 (v3 + 6) x80.2 else fj_lw_law_j345 (fl_lw_law_10 n)  x80.2) else (if (x6 &&& 63) = 15 then (tb_lI [1, 9] v0 (v3 + 1) w).bind fun x81 => (tb_on 21 v1 w (fb_x_lasts v1 x81 w)).bind fun x82 => (tb_lI [1, 9] v0 (v3 + 1) x82.2).bind fun x83 => (tb_on 22 v2 x82.2 (fb_m_lasts v2 x83 x82.2)).bind fun x84 => (if x82.1 = x84.1 then fl_lw_law_10 n v0 v1 v2 (v3 + 6) x84.2 else fj_lw_law_j362 (fl_lw_law_10 n)  x84.2) else (if (x6 &&& 63) = 16 then (tb_lI [1, 9] v0 (v3 + 1) w).bind fun x85 => (tb_on 21 v1 w (fb_x_spare v1 x85 w)).bind fun x86 => (tb_lI [1, 9] v0 (v3 + 1) x86.2).bind fun x87 => (tb_on 22 v2 x86.2 (fb_m_spare v2 x87 x86.2)).bind fun x88 => (if x86.1 = x88.1 then fl_lw_law_10 n v0 v1 v2 (v3 + 6) x88.2 else fj_lw_law_j379 (fl_lw_law_10 n)  x88.2) else (if (x6 &&& 63) = 17 then (tb_on 21 v1 w (fb_x_needed v1 w)).bind fun x89 => (tb_on 22 v2 x89.2 (fb_m_needed v2 x89.2)).bind fun x90 => (if x89.1 = x90.1 then fl_lw_law_10 n v0 v1 v2 (v3 + 6) x90.2 else fj_lw_law_j386 (fl_lw_law_10 n)  x90.2) else (if (x6 &&& 63) = 18 then (tb_lI [1, 9] v0 (v3 + 1) w).bind fun x91 => (tb_lI [1, 9] v0 (v3 + 2) w).bind fun x92 => (tb_on 21 v1 w (fb_x_fewest v1 x91 x92 w)).bind fun x93 => (tb_lI [1, 9] v0 (v3 + 1) x93.2).bind fun x94 => (tb_lI [1, 9] v0 (v3 + 2) x93.2).bind fun x95 => (tb_on 22 v2 x93.2 (fb_m_fewest v2 x94 x95 x93.2)).bind fun x96 => (if x93.1 = x96.1 then fl_lw_law_10 n v0 v1 v2 (v3 + 6) x96.2 else fj_lw_law_j413 (fl_lw_law_10 n)  x96.2) else (if (x6 &&& 63) = 19 then (tb_lI [1, 9] v0 (v3 + 1) w).bind fun x97 => (tb_on 21 v1 w (fb_x_down v1 x97 w)).bind fun x98 => (tb_lI [1, 9] v0 (v3 + 1) x98.2).bind fun x99 => (tb_on 22 v2 x98.2 (fb_m_down v2 x99 x98.2)).bind fun x100 => (if x98.1 = x100.1 then fl_lw_law_10 n v0 v1 v2 (v3 + 6) x100.2 else fj_lw_law_j430 (fl_lw_law_10 n)  x100.2) else (if (x6 &&& 63) = 20 then (tb_lI [1, 9] v0 (v3 + 1) w).bind fun x101 => (tb_on 21 v1 w (fb_x_byThese v1 x101 w)).bind fun x102 => (tb_lI [1, 9] v0 (v3 + 1) x102.2).bind fun x103 => (tb_on 22 v2 x102.2 (fb_m_byThese v2 x103 x102.2)).bind fun x104 => (if x102.1 = x104.1 then fl_lw_law_10 n v0 v1 v2 (v3 + 6) x104.2 else fj_lw_law_j447 (fl_lw_law_10 n)  x104.2) else (if (x6 &&& 63) = 21 then (tb_lI [1, 9] v0 (v3 + 1) w).bind fun x105 => (tb_lI [1, 9] v0 (v3 + 2) w).bind fun x106 => (tb_on 21 v1 w (fb_x_way v1 x105 x106 w)).bind fun x107 => (tb_lI [1, 9] v0 (v3 + 1) x107.2).bind fun x108 => (tb_lI [1, 9] v0 (v3 + 2) x107.2).bind fun x109 => (tb_on 22 v2 x107.2 (fb_m_way v2 x108 x109 x107.2)).bind fun x110 => (if x107.1 = x110.1 then fl_lw_law_10 n v0 v1 v2 (v3 + 6) x110.2 else fj_lw_law_j474 (fl_lw_law_10 n)  x110.2) else (if (x6 &&& 63) = 22 then (tb_lI [1, 9] v0 (v3 + 1) w).bind fun x111 => (tb_on 21 v1 w (fb_x_blocks v1 x111 w)).bind fun x112 => (tb_lI [1, 9] v0 (v3 + 1) x112.2).bind fun x113 => (tb_on 22 v2 x112.2 (fb_m_blocks v2 x113 x112.2)).bind fun x114 => (if x112.1 = x114.1 then fl_lw_law_10 n v0 v1 v2 (v3 + 6) x114.2 else fj_lw_law_j491 (fl_lw_law_10 n)  x114.2) else (if (x6 &&& 63) = 23 then (tb_lI [1, 9] v0 (v3 + 1) w).bind fun x115 => (tb_lI [1, 9] v0 (v3 + 2) w).bind fun x116 => (tb_on 21 v1 w (fb_x_propped v1 x115 x116 w)).bind fun x117 => (tb_lI [1, 9] v0 (v3 + 1) x117.2).bind fun x118 => (tb_lI [1, 9] v0 (v3 + 2) x117.2).bind fun x119 => (tb_on 22 v2 x117.2 (fb_m_propped v2 x118 x119 x117.2)).bind fun x120 => (if x117.1 = x120.1 then fl_lw_law_10 n v0 v1 v2 (v3 + 6) x120.2 else fj_lw_law_j518 (fl_lw_law_10 n)  x120.2) else (if (x6 &&& 63) = 24 then (tb_lI [1, 9] v0 (v3 + 1) w).bind fun x121 => (tb_on 21 v1 w (fb_x_marry v1 x121 w)).bind fun x122 => (tb_lI [1, 9] v0 (v3 + 1) x122.2).bind fun x123 => (tb_on 22 v2 x122.2 (fb_m_marry v2 x123 x122.2)).bind fun x124 => (if x122.1 = x124.1 then fl_lw_law_10 n v0 v1 v2 (v3 + 6) x124.2 else fj_lw_law_j535 (fl_lw_law_10 n)  x124.2) else (if (x6 &&& 63) = 25 then (tb_lI [1, 9] v0 (v3 + 1) w).bind fun x125 => (tb_lI [1, 9] v0 (v3 + 2) w).bind fun x126 => (tb_lI [1, 9] v0 (v3 + 3) w).bind fun x127 => (tb_on 21 v1 w (fb_x_newLine v1 x125 x126 x127 w)).bind fun x128 => (tb_lI [1, 9] v0 (v3 + 1) x128.2).bind fun x129 => (tb_lI [1, 9] v0 (v3 + 2) x128.2).bind fun x130 => (tb_lI [1, 9] v0 (v3 + 3) x128.2).bind fun x131 => (tb_on 22 v2 x128.2 (fb_m_newLine v2 x129 x130 x131 x128.2)).bind fun x132 => (if x128.1 = x132.1 then fl_lw_law_10 n v0 v1 v2 (v3 + 6) x132.2 else fj_lw_law_j572 (fl_lw_law_10 n)  x132.2) else (if (x6 &&& 63) = 26 then (tb_lI [1, 9] v0 (v3 + 1) w).bind fun x133 => (tb_lI [1, 9] v0 (v3 + 2) w).bind fun x134 => (tb_on 21 v1 w (fb_x_pulled v1 x133 x134 w)).bind fun x135 => (tb_lI [1, 9] v0 (v3 + 1) x135.2).bind fun x136 => (tb_lI [1, 9] v0 (v3 + 2) x135.2).bind fun x137 => (tb_on 22 v2 x135.2 (fb_m_pulled v2 x136 x137 x135.2)).bind fun x138 => (if x135.1 = x138.1 then fl_lw_law_10 n v0 v1 v2 (v3 + 6) x138.2 else fj_lw_law_j599 (fl_lw_law_10 n)  x138.2) else (if (x6 &&& 63) = 27 then (tb_lI [1, 9] v0 (v3 + 1) w).bind fun x139 => (tb_lI [1, 9] v0 (v3 + 2) w).bind fun x140 => (tb_lI [1, 9] v0 (v3 + 3) w).bind fun x141 => (tb_lI [1, 9] v0 (v3 + 4) w).bind fun x142 => (tb_on 21 v1 w (fb_x_rests v1 x139 x140 x141 x142 w)).bind fun x143 => (tb_lI [1, 9] v0 (v3 + 1) x143.2).bind fun x144 => (tb_lI [1, 9] v0 (v3 + 2) x143.2).bind fun x145 => (tb_lI [1, 9] v0 (v3 + 3) x143.2).bind fun x146 => (tb_lI [1, 9] v0 (v3 + 4) x143.2).bind fun x147 => (tb_on 22 v2 x143.2 (fb_m_rests v2 x144 x145 x146 x147 x143.2)).bind fun x148 => (if x143.1 = x148.1 then fl_lw_law_10 n v0 v1 v2 (v3 + 6) x148.2 else fj_lw_law_j646 (fl_lw_law_10 n)  x148.2) else (if (x6 &&& 63) = 28 then (tb_lI [1, 9] v0 (v3 + 1) w).bind fun x149 => (tb_lI [1, 9] v0 (v3 + 2) w).bind fun x150 => (tb_on 21 v1 w (fb_x_pence v1 x149 x150 w)).bind fun x151 => (tb_lI [1, 9] v0 (v3 + 1) x151.2).bind fun x152 => (tb_lI [1, 9] v0 (v3 + 2) x151.2).bind fun x153 => (tb_on 22 v2 x151.2 (fb_m_pence v2 x152 x153 x151.2)).bind fun x154 => (if x151.1 = x154.1 then fl_lw_law_10 n v0 v1 v2 (v3 + 6) x154.2 else fj_lw_law_j673 (fl_lw_law_10 n)  x154.2) else (if (x6 &&& 63) = 29 then (tb_lI [1, 9] v0 (v3 + 1) w).bind fun x155 => (tb_lI [1, 9] v0 (v3 + 2) w).bind fun x156 => (tb_lI [1, 9] v0 (v3 + 3) w).bind fun x157 => (tb_on 21 v1 w (fb_x_note v1 x155 x156 x157 w)).bind fun x158 => (tb_lI [1, 9] v0 (v3 + 1) x158.2).bind fun x159 => (tb_lI [1, 9] v0 (v3 + 2) x158.2).bind fun x160 => (tb_lI [1, 9] v0 (v3 + 3) x158.2).bind fun x161 => (tb_on 22 v2 x158.2 (fb_m_note v2 x159 x160 x161 x158.2)).bind fun x162 => (if x158.1 = x162.1 then fl_lw_law_10 n v0 v1 v2 (v3 + 6) x162.2 else fj_lw_law_j710 (fl_lw_law_10 n)  x162.2) else (if (x6 &&& 63) = 30 then (tb_lI [1, 9] v0 (v3 + 1) w).bind fun x163 => (tb_on 21 v1 w (fb_x_ruled v1 x163 w)).bind fun x164 => (tb_lI [1, 9] v0 (v3 + 1) x164.2).bind fun x165 => (tb_on 22 v2 x164.2 (fb_m_ruled v2 x165 x164.2)).bind fun x166 => (if x164.1 = x166.1 then fl_lw_law_10 n v0 v1 v2 (v3 + 6) x166.2 else fj_lw_law_j727 (fl_lw_law_10 n)  x166.2) else (if (x6 &&& 63) = 31 then (tb_lI [1, 9] v0 (v3 + 1) w).bind fun x167 => (tb_lI [1, 9] v0 (v3 + 2) w).bind fun x168 => (tb_on 21 v1 w (fb_x_look v1 x167 x168 w)).bind fun x169 => (tb_lI [1, 9] v0 (v3 + 1) x169.2).bind fun x170 => (tb_lI [1, 9] v0 (v3 + 2) x169.2).bind fun x171 => (tb_on 22 v2 x169.2 (fb_m_look v2 x170 x171 x169.2)).bind fun x172 => (if x169.1 = x172.1 then fl_lw_law_10 n v0 v1 v2 (v3 + 6) x172.2 else fj_lw_law_j754 (fl_lw_law_10 n)  x172.2) else (if (x6 &&& 63) = 32 then (tb_lI [1, 9] v0 (v3 + 1) w).bind fun x173 => (tb_on 21 v1 w (fb_x_seed v1 x173 w)).bind fun x174 => (tb_lI [1, 9] v0 (v3 + 1) x174.2).bind fun x175 => (tb_on 22 v2 x174.2 (fb_m_seed v2 x175 x174.2)).bind fun x176 => (if x174.1 = x176.1 then fl_lw_law_10 n v0 v1 v2 (v3 + 6) x176.2 else fj_lw_law_j771 (fl_lw_law_10 n)  x176.2) else (if (x6 &&& 63) = 33 then (tb_lI [1, 9] v0 (v3 + 1) w).bind fun x177 => (tb_lI [1, 9] v0 (v3 + 2) w).bind fun x178 => (tb_lI [1, 9] v0 (v3 + 3) w).bind fun x179 => (tb_lI [1, 9] v0 (v3 + 4) w).bind fun x180 => (tb_on 21 v1 w (fb_x_winters v1 x177 x178 x179 x180 w)).bind fun x181 => (tb_lI [1, 9] v0 (v3 + 1) x181.2).bind fun x182 => (tb_lI [1, 9] v0 (v3 + 2) x181.2).bind fun x183 => (tb_lI [1, 9] v0 (v3 + 3) x181.2).bind fun x184 => (tb_lI [1, 9] v0 (v3 + 4) x181.2).bind fun x185 => (tb_on 22 v2 x181.2 (fb_m_winters v2 x182 x183 x184 x185 x181.2)).bind fun x186 => (if x181.1 = x186.1 then fl_lw_law_10 n v0 v1 v2 (v3 + 6) x186.2 else fj_lw_law_j818 (fl_lw_law_10 n)  x186.2) else (if (x6 &&& 63) = 34 then (tb_lI [1, 9] v0 (v3 + 1) w).bind fun x187 => (tb_on 21 v1 w (fb_x_count v1 x187 w)).bind fun x188 => (tb_lI [1, 9] v0 (v3 + 1) x188.2).bind fun x189 => (tb_on 22 v2 x188.2 (fb_m_count v2 x189 x188.2)).bind fun x190 => (if x188.1 = x190.1 then fl_lw_law_10 n v0 v1 v2 (v3 + 6) x190.2 else fj_lw_law_j835 (fl_lw_law_10 n)  x190.2) else (if (x6 &&& 63) = 35 then (tb_lI [1, 9] v0 (v3 + 1) w).bind fun x191 => (tb_on 21 v1 w (fb_x_image v1 x191 w)).bind fun x192 => (tb_lI [1, 9] v0 (v3 + 1) x192.2).bind fun x193 => (tb_on 22 v2 x192.2 (fb_m_image v2 x193 x192.2)).bind fun x194 => (if x192.1 = x194.1 then fl_lw_law_10 n v0 v1 v2 (v3 + 6) x194.2 else fj_lw_law_j852 (fl_lw_law_10 n)  x194.2) else (if (x6 &&& 63) = 36 then (tb_lI [1, 9] v0 (v3 + 1) w).bind fun x195 => (tb_on 21 v1 w (fb_x_back v1 x195 w)).bind fun x196 => (tb_lI [1, 9] v0 (v3 + 1) x196.2).bind fun x197 => (tb_on 22 v2 x196.2 (fb_m_back v2 x197 x196.2)).bind fun x198 => (if x196.1 = x198.1 then fl_lw_law_10 n v0 v1 v2 (v3 + 6) x198.2 else fj_lw_law_j869 (fl_lw_law_10 n)  x198.2) else fl_lw_law_10 n v0 v1 v2 (v3 + 6) w))))))))))))))))))))))))))))))))))))) else fj_lw_law_j873 (fl_lw_law_10 n)  w)
set_option maxHeartbeats 4000000 in
set_option maxRecDepth 20000 in
theorem dl_lw_law_10 : ∀ (n : Nat) (v0 : Nat) (v1 : Nat) (v2 : Nat) (v3 : Int32) (w : tb_Hp) (o : Int32 × tb_Hp), fl_lw_law_10 n v0 v1 v2 v3 w = some o → ∀ (r : Option Value × tb_Hp), r = (some (.int o.1), o.2) → tb_Ev tb_P 68 299 (11, [(0, .ref v0), (1, .ref v1), (2, .ref v2), (3, .int v3)], [], w) r := by
  intro n
  induction n with
  | zero =>
    intro v0 v1 v2 v3 w o h
    cases h
  | succ n ih =>
    intro v0 v1 v2 v3 w o h r hx
    unfold fl_lw_law_10 at h
    refine tb_Es (k := 2) (st' := (13, [(0, .ref v0), (1, .ref v1), (2, .ref v2), (3, .int v3)], [.ref v0, .int v3], w)) rfl ?_
    replace h := Option.bind_eq_some_iff.mp h
    obtain ⟨x5, ex5, h⟩ := h
    refine tb_e_al rfl ex5 ?_
    refine tb_Es (k := 2) (st' := (16, [(0, .ref v0), (1, .ref v1), (2, .ref v2), (3, .int v3)], [.int (x5 - 6), .int v3], w)) rfl ?_
    refine tb_b_cgt rfl (fun hc => ?_) (fun hc => ?_)
    · rw [if_pos hc] at h
      refine tb_Es (k := 2) (st' := (19, [(0, .ref v0), (1, .ref v1), (2, .ref v2), (3, .int v3)], [.int v3, .ref v0], w)) rfl ?_
      replace h := Option.bind_eq_some_iff.mp h
      obtain ⟨x6, ex6, h⟩ := h
      refine tb_e_lI rfl (Or.inl ⟨rfl, rfl⟩) ex6 ?_
      refine tb_Es (k := 2) (st' := (22, [(0, .ref v0), (1, .ref v1), (2, .ref v2), (3, .int v3)], [.int (x6 &&& 63)], w)) rfl ?_
      refine tb_w_tab rfl (by decide) ?_
      refine tb_w_one (k := 0) (by decide) (fun hc => ?_) (fun hc => ?_)
      · rw [if_pos hc] at h
        refine tb_Es (k := 5) (st' := (28, [(0, .ref v0), (1, .ref v1), (2, .ref v2), (3, .int v3)], [.int (v3 + 1), .ref v0, .ref v1], w)) rfl ?_
        replace h := Option.bind_eq_some_iff.mp h
        obtain ⟨x7, ex7, h⟩ := h
        refine tb_e_lI rfl (Or.inl ⟨rfl, rfl⟩) ex7 ?_
        refine tb_Es (k := 4) (st' := (33, [(0, .ref v0), (1, .ref v1), (2, .ref v2), (3, .int v3)], [.int (v3 + 2), .ref v0, .int x7, .ref v1], w)) rfl ?_
        replace h := Option.bind_eq_some_iff.mp h
        obtain ⟨x8, ex8, h⟩ := h
        refine tb_e_lI rfl (Or.inl ⟨rfl, rfl⟩) ex8 ?_
        refine tb_Es (k := 4) (st' := (38, [(0, .ref v0), (1, .ref v1), (2, .ref v2), (3, .int v3)], [.int (v3 + 3), .ref v0, .int x8, .int x7, .ref v1], w)) rfl ?_
        replace h := Option.bind_eq_some_iff.mp h
        obtain ⟨x9, ex9, h⟩ := h
        refine tb_e_lI rfl (Or.inl ⟨rfl, rfl⟩) ex9 ?_
        refine tb_Es (k := 4) (st' := (43, [(0, .ref v0), (1, .ref v1), (2, .ref v2), (3, .int v3)], [.int (v3 + 4), .ref v0, .int x9, .int x8, .int x7, .ref v1], w)) rfl ?_
        replace h := Option.bind_eq_some_iff.mp h
        obtain ⟨x10, ex10, h⟩ := h
        refine tb_e_lI rfl (Or.inl ⟨rfl, rfl⟩) ex10 ?_
        refine tb_Es (k := 4) (st' := (48, [(0, .ref v0), (1, .ref v1), (2, .ref v2), (3, .int v3)], [.int (v3 + 5), .ref v0, .int x10, .int x9, .int x8, .int x7, .ref v1], w)) rfl ?_
        replace h := Option.bind_eq_some_iff.mp h
        obtain ⟨x11, ex11, h⟩ := h
        refine tb_e_lI rfl (Or.inl ⟨rfl, rfl⟩) ex11 ?_
        replace h := Option.bind_eq_some_iff.mp h
        obtain ⟨x12, ex12, h⟩ := h
        obtain ⟨hkx12, hcall⟩ := tb_on_some ex12
        refine tb_e_cv (v := some (.int x12.1)) rfl (Or.inl ⟨_, rfl⟩) rfl rfl (Nat.le_of_ble_eq_true rfl) rfl (Nat.le_of_ble_eq_true rfl) hkx12 ((dc_x_feed hcall).up (by decide)) ?_
        refine tb_Es (k := 5) (st' := (55, [(0, .ref v0), (1, .ref v1), (2, .ref v2), (3, .int v3)], [.int (v3 + 1), .ref v0, .ref v2, .int x12.1], x12.2)) rfl ?_
        replace h := Option.bind_eq_some_iff.mp h
        obtain ⟨x13, ex13, h⟩ := h
        refine tb_e_lI rfl (Or.inl ⟨rfl, rfl⟩) ex13 ?_
        refine tb_Es (k := 4) (st' := (60, [(0, .ref v0), (1, .ref v1), (2, .ref v2), (3, .int v3)], [.int (v3 + 2), .ref v0, .int x13, .ref v2, .int x12.1], x12.2)) rfl ?_
        replace h := Option.bind_eq_some_iff.mp h
        obtain ⟨x14, ex14, h⟩ := h
        refine tb_e_lI rfl (Or.inl ⟨rfl, rfl⟩) ex14 ?_
        refine tb_Es (k := 4) (st' := (65, [(0, .ref v0), (1, .ref v1), (2, .ref v2), (3, .int v3)], [.int (v3 + 3), .ref v0, .int x14, .int x13, .ref v2, .int x12.1], x12.2)) rfl ?_
        replace h := Option.bind_eq_some_iff.mp h
        obtain ⟨x15, ex15, h⟩ := h
        refine tb_e_lI rfl (Or.inl ⟨rfl, rfl⟩) ex15 ?_
        refine tb_Es (k := 4) (st' := (70, [(0, .ref v0), (1, .ref v1), (2, .ref v2), (3, .int v3)], [.int (v3 + 4), .ref v0, .int x15, .int x14, .int x13, .ref v2, .int x12.1], x12.2)) rfl ?_
        replace h := Option.bind_eq_some_iff.mp h
        obtain ⟨x16, ex16, h⟩ := h
        refine tb_e_lI rfl (Or.inl ⟨rfl, rfl⟩) ex16 ?_
        refine tb_Es (k := 4) (st' := (75, [(0, .ref v0), (1, .ref v1), (2, .ref v2), (3, .int v3)], [.int (v3 + 5), .ref v0, .int x16, .int x15, .int x14, .int x13, .ref v2, .int x12.1], x12.2)) rfl ?_
        replace h := Option.bind_eq_some_iff.mp h
        obtain ⟨x17, ex17, h⟩ := h
        refine tb_e_lI rfl (Or.inl ⟨rfl, rfl⟩) ex17 ?_
        replace h := Option.bind_eq_some_iff.mp h
        obtain ⟨x18, ex18, h⟩ := h
        obtain ⟨hkx18, hcall⟩ := tb_on_some ex18
        refine tb_e_cv (v := some (.int x18.1)) rfl (Or.inl ⟨_, rfl⟩) rfl rfl (Nat.le_of_ble_eq_true rfl) rfl (Nat.le_of_ble_eq_true rfl) hkx18 ((dc_m_feed hcall).up (by decide)) ?_
        refine tb_b_ceq rfl (fun hc => ?_) (fun hc => ?_)
        · rw [if_pos hc] at h
          refine tb_Es (k := 3) (st' := (11, [(0, .ref v0), (1, .ref v1), (2, .ref v2), (3, .int (v3 + 6))], [], x18.2)) rfl ?_
          exact ih v0 v1 v2 (v3 + 6) x18.2 _ h r hx
        · rw [if_neg hc] at h
          refine tb_Es (k := 1) (st' := (79, [], [], x18.2)) rfl ?_
          exact dj_lw_law_j77 (fl_lw_law_10 n)  x18.2 _ h r hx (fun v0_ v1_ v2_ v3_ w_ h_ => ih v0_ v1_ v2_ v3_ w_ _ h_ r hx)
      rw [if_neg hc] at h
      refine tb_w_one (k := 1) (by decide) (fun hc => ?_) (fun hc => ?_)
      · rw [if_pos hc] at h
        refine tb_Es (k := 5) (st' := (86, [(0, .ref v0), (1, .ref v1), (2, .ref v2), (3, .int v3)], [.int (v3 + 1), .ref v0, .ref v1], w)) rfl ?_
        replace h := Option.bind_eq_some_iff.mp h
        obtain ⟨x19, ex19, h⟩ := h
        refine tb_e_lI rfl (Or.inl ⟨rfl, rfl⟩) ex19 ?_
        replace h := Option.bind_eq_some_iff.mp h
        obtain ⟨x20, ex20, h⟩ := h
        obtain ⟨hkx20, hcall⟩ := tb_on_some ex20
        refine tb_e_cv (v := some (.int x20.1)) rfl (Or.inl ⟨_, rfl⟩) rfl rfl (Nat.le_of_ble_eq_true rfl) rfl (Nat.le_of_ble_eq_true rfl) hkx20 ((dc_x_end hcall).up (by decide)) ?_
        refine tb_Es (k := 5) (st' := (93, [(0, .ref v0), (1, .ref v1), (2, .ref v2), (3, .int v3)], [.int (v3 + 1), .ref v0, .ref v2, .int x20.1], x20.2)) rfl ?_
        replace h := Option.bind_eq_some_iff.mp h
        obtain ⟨x21, ex21, h⟩ := h
        refine tb_e_lI rfl (Or.inl ⟨rfl, rfl⟩) ex21 ?_
        replace h := Option.bind_eq_some_iff.mp h
        obtain ⟨x22, ex22, h⟩ := h
        obtain ⟨hkx22, hcall⟩ := tb_on_some ex22
        refine tb_e_cv (v := some (.int x22.1)) rfl (Or.inl ⟨_, rfl⟩) rfl rfl (Nat.le_of_ble_eq_true rfl) rfl (Nat.le_of_ble_eq_true rfl) hkx22 ((dc_m_end hcall).up (by decide)) ?_
        refine tb_b_ceq rfl (fun hc => ?_) (fun hc => ?_)
        · rw [if_pos hc] at h
          refine tb_Es (k := 3) (st' := (11, [(0, .ref v0), (1, .ref v1), (2, .ref v2), (3, .int (v3 + 6))], [], x22.2)) rfl ?_
          exact ih v0 v1 v2 (v3 + 6) x22.2 _ h r hx
        · rw [if_neg hc] at h
          refine tb_Es (k := 1) (st' := (97, [], [], x22.2)) rfl ?_
          exact dj_lw_law_j94 (fl_lw_law_10 n)  x22.2 _ h r hx (fun v0_ v1_ v2_ v3_ w_ h_ => ih v0_ v1_ v2_ v3_ w_ _ h_ r hx)
      rw [if_neg hc] at h
      refine tb_w_one (k := 2) (by decide) (fun hc => ?_) (fun hc => ?_)
      · rw [if_pos hc] at h
        refine tb_Es (k := 1) (st' := (100, [(0, .ref v0), (1, .ref v1), (2, .ref v2), (3, .int v3)], [.ref v1], w)) rfl ?_
        replace h := Option.bind_eq_some_iff.mp h
        obtain ⟨x23, ex23, h⟩ := h
        obtain ⟨hkx23, hcall⟩ := tb_on_some ex23
        refine tb_e_cv (v := some (.int x23.1)) rfl (Or.inl ⟨_, rfl⟩) rfl rfl (Nat.le_of_ble_eq_true rfl) rfl (Nat.le_of_ble_eq_true rfl) hkx23 ((dc_x_street hcall).up (by decide)) ?_
        refine tb_Es (k := 1) (st' := (102, [(0, .ref v0), (1, .ref v1), (2, .ref v2), (3, .int v3)], [.ref v2, .int x23.1], x23.2)) rfl ?_
        replace h := Option.bind_eq_some_iff.mp h
        obtain ⟨x24, ex24, h⟩ := h
        obtain ⟨hkx24, hcall⟩ := tb_on_some ex24
        refine tb_e_cv (v := some (.int x24.1)) rfl (Or.inl ⟨_, rfl⟩) rfl rfl (Nat.le_of_ble_eq_true rfl) rfl (Nat.le_of_ble_eq_true rfl) hkx24 ((dc_m_street hcall).up (by decide)) ?_
        refine tb_b_ceq rfl (fun hc => ?_) (fun hc => ?_)
        · rw [if_pos hc] at h
          refine tb_Es (k := 3) (st' := (11, [(0, .ref v0), (1, .ref v1), (2, .ref v2), (3, .int (v3 + 6))], [], x24.2)) rfl ?_
          exact ih v0 v1 v2 (v3 + 6) x24.2 _ h r hx
        · rw [if_neg hc] at h
          refine tb_Es (k := 1) (st' := (105, [], [], x24.2)) rfl ?_
          exact dj_lw_law_j101 (fl_lw_law_10 n)  x24.2 _ h r hx (fun v0_ v1_ v2_ v3_ w_ h_ => ih v0_ v1_ v2_ v3_ w_ _ h_ r hx)
      rw [if_neg hc] at h
      refine tb_w_one (k := 3) (by decide) (fun hc => ?_) (fun hc => ?_)
      · rw [if_pos hc] at h
        refine tb_Es (k := 1) (st' := (108, [(0, .ref v0), (1, .ref v1), (2, .ref v2), (3, .int v3)], [.ref v1], w)) rfl ?_
        replace h := Option.bind_eq_some_iff.mp h
        obtain ⟨x25, ex25, h⟩ := h
        obtain ⟨hkx25, hcall⟩ := tb_on_some ex25
        refine tb_e_cv (v := some (.int x25.1)) rfl (Or.inl ⟨_, rfl⟩) rfl rfl (Nat.le_of_ble_eq_true rfl) rfl (Nat.le_of_ble_eq_true rfl) hkx25 ((dc_x_rule hcall).up (by decide)) ?_
        refine tb_Es (k := 1) (st' := (110, [(0, .ref v0), (1, .ref v1), (2, .ref v2), (3, .int v3)], [.ref v2, .int x25.1], x25.2)) rfl ?_
        replace h := Option.bind_eq_some_iff.mp h
        obtain ⟨x26, ex26, h⟩ := h
        obtain ⟨hkx26, hcall⟩ := tb_on_some ex26
        refine tb_e_cv (v := some (.int x26.1)) rfl (Or.inl ⟨_, rfl⟩) rfl rfl (Nat.le_of_ble_eq_true rfl) rfl (Nat.le_of_ble_eq_true rfl) hkx26 ((dc_m_rule hcall).up (by decide)) ?_
        refine tb_b_ceq rfl (fun hc => ?_) (fun hc => ?_)
        · rw [if_pos hc] at h
          refine tb_Es (k := 3) (st' := (11, [(0, .ref v0), (1, .ref v1), (2, .ref v2), (3, .int (v3 + 6))], [], x26.2)) rfl ?_
          exact ih v0 v1 v2 (v3 + 6) x26.2 _ h r hx
        · rw [if_neg hc] at h
          refine tb_Es (k := 1) (st' := (113, [], [], x26.2)) rfl ?_
          exact dj_lw_law_j108 (fl_lw_law_10 n)  x26.2 _ h r hx (fun v0_ v1_ v2_ v3_ w_ h_ => ih v0_ v1_ v2_ v3_ w_ _ h_ r hx)
      rw [if_neg hc] at h
      refine tb_w_one (k := 4) (by decide) (fun hc => ?_) (fun hc => ?_)
      · rw [if_pos hc] at h
        refine tb_Es (k := 5) (st' := (120, [(0, .ref v0), (1, .ref v1), (2, .ref v2), (3, .int v3)], [.int (v3 + 1), .ref v0, .ref v1], w)) rfl ?_
        replace h := Option.bind_eq_some_iff.mp h
        obtain ⟨x27, ex27, h⟩ := h
        refine tb_e_lI rfl (Or.inl ⟨rfl, rfl⟩) ex27 ?_
        replace h := Option.bind_eq_some_iff.mp h
        obtain ⟨x28, ex28, h⟩ := h
        obtain ⟨hkx28, hcall⟩ := tb_on_some ex28
        refine tb_e_cv (v := some (.int x28.1)) rfl (Or.inl ⟨_, rfl⟩) rfl rfl (Nat.le_of_ble_eq_true rfl) rfl (Nat.le_of_ble_eq_true rfl) hkx28 ((dc_x_force hcall).up (by decide)) ?_
        refine tb_Es (k := 5) (st' := (127, [(0, .ref v0), (1, .ref v1), (2, .ref v2), (3, .int v3)], [.int (v3 + 1), .ref v0, .ref v2, .int x28.1], x28.2)) rfl ?_
        replace h := Option.bind_eq_some_iff.mp h
        obtain ⟨x29, ex29, h⟩ := h
        refine tb_e_lI rfl (Or.inl ⟨rfl, rfl⟩) ex29 ?_
        replace h := Option.bind_eq_some_iff.mp h
        obtain ⟨x30, ex30, h⟩ := h
        obtain ⟨hkx30, hcall⟩ := tb_on_some ex30
        refine tb_e_cv (v := some (.int x30.1)) rfl (Or.inl ⟨_, rfl⟩) rfl rfl (Nat.le_of_ble_eq_true rfl) rfl (Nat.le_of_ble_eq_true rfl) hkx30 ((dc_m_force hcall).up (by decide)) ?_
        refine tb_b_ceq rfl (fun hc => ?_) (fun hc => ?_)
        · rw [if_pos hc] at h
          refine tb_Es (k := 3) (st' := (11, [(0, .ref v0), (1, .ref v1), (2, .ref v2), (3, .int (v3 + 6))], [], x30.2)) rfl ?_
          exact ih v0 v1 v2 (v3 + 6) x30.2 _ h r hx
        · rw [if_neg hc] at h
          refine tb_Es (k := 1) (st' := (131, [], [], x30.2)) rfl ?_
          exact dj_lw_law_j125 (fl_lw_law_10 n)  x30.2 _ h r hx (fun v0_ v1_ v2_ v3_ w_ h_ => ih v0_ v1_ v2_ v3_ w_ _ h_ r hx)
      rw [if_neg hc] at h
      refine tb_w_one (k := 5) (by decide) (fun hc => ?_) (fun hc => ?_)
      · rw [if_pos hc] at h
        refine tb_Es (k := 5) (st' := (138, [(0, .ref v0), (1, .ref v1), (2, .ref v2), (3, .int v3)], [.int (v3 + 1), .ref v0, .ref v1], w)) rfl ?_
        replace h := Option.bind_eq_some_iff.mp h
        obtain ⟨x31, ex31, h⟩ := h
        refine tb_e_lI rfl (Or.inl ⟨rfl, rfl⟩) ex31 ?_
        refine tb_Es (k := 4) (st' := (143, [(0, .ref v0), (1, .ref v1), (2, .ref v2), (3, .int v3)], [.int (v3 + 2), .ref v0, .int x31, .ref v1], w)) rfl ?_
        replace h := Option.bind_eq_some_iff.mp h
        obtain ⟨x32, ex32, h⟩ := h
        refine tb_e_lI rfl (Or.inl ⟨rfl, rfl⟩) ex32 ?_
        replace h := Option.bind_eq_some_iff.mp h
        obtain ⟨x33, ex33, h⟩ := h
        obtain ⟨hkx33, hcall⟩ := tb_on_some ex33
        refine tb_e_cv (v := some (.int x33.1)) rfl (Or.inl ⟨_, rfl⟩) rfl rfl (Nat.le_of_ble_eq_true rfl) rfl (Nat.le_of_ble_eq_true rfl) hkx33 ((dc_x_house hcall).up (by decide)) ?_
        refine tb_Es (k := 5) (st' := (150, [(0, .ref v0), (1, .ref v1), (2, .ref v2), (3, .int v3)], [.int (v3 + 1), .ref v0, .ref v2, .int x33.1], x33.2)) rfl ?_
        replace h := Option.bind_eq_some_iff.mp h
        obtain ⟨x34, ex34, h⟩ := h
        refine tb_e_lI rfl (Or.inl ⟨rfl, rfl⟩) ex34 ?_
        refine tb_Es (k := 4) (st' := (155, [(0, .ref v0), (1, .ref v1), (2, .ref v2), (3, .int v3)], [.int (v3 + 2), .ref v0, .int x34, .ref v2, .int x33.1], x33.2)) rfl ?_
        replace h := Option.bind_eq_some_iff.mp h
        obtain ⟨x35, ex35, h⟩ := h
        refine tb_e_lI rfl (Or.inl ⟨rfl, rfl⟩) ex35 ?_
        replace h := Option.bind_eq_some_iff.mp h
        obtain ⟨x36, ex36, h⟩ := h
        obtain ⟨hkx36, hcall⟩ := tb_on_some ex36
        refine tb_e_cv (v := some (.int x36.1)) rfl (Or.inl ⟨_, rfl⟩) rfl rfl (Nat.le_of_ble_eq_true rfl) rfl (Nat.le_of_ble_eq_true rfl) hkx36 ((dc_m_house hcall).up (by decide)) ?_
        refine tb_b_ceq rfl (fun hc => ?_) (fun hc => ?_)
        · rw [if_pos hc] at h
          refine tb_Es (k := 3) (st' := (11, [(0, .ref v0), (1, .ref v1), (2, .ref v2), (3, .int (v3 + 6))], [], x36.2)) rfl ?_
          exact ih v0 v1 v2 (v3 + 6) x36.2 _ h r hx
        · rw [if_neg hc] at h
          refine tb_Es (k := 1) (st' := (159, [], [], x36.2)) rfl ?_
          exact dj_lw_law_j152 (fl_lw_law_10 n)  x36.2 _ h r hx (fun v0_ v1_ v2_ v3_ w_ h_ => ih v0_ v1_ v2_ v3_ w_ _ h_ r hx)
      rw [if_neg hc] at h
      refine tb_w_one (k := 6) (by decide) (fun hc => ?_) (fun hc => ?_)
      · rw [if_pos hc] at h
        refine tb_Es (k := 5) (st' := (166, [(0, .ref v0), (1, .ref v1), (2, .ref v2), (3, .int v3)], [.int (v3 + 1), .ref v0, .ref v1], w)) rfl ?_
        replace h := Option.bind_eq_some_iff.mp h
        obtain ⟨x37, ex37, h⟩ := h
        refine tb_e_lI rfl (Or.inl ⟨rfl, rfl⟩) ex37 ?_
        refine tb_Es (k := 4) (st' := (171, [(0, .ref v0), (1, .ref v1), (2, .ref v2), (3, .int v3)], [.int (v3 + 2), .ref v0, .int x37, .ref v1], w)) rfl ?_
        replace h := Option.bind_eq_some_iff.mp h
        obtain ⟨x38, ex38, h⟩ := h
        refine tb_e_lI rfl (Or.inl ⟨rfl, rfl⟩) ex38 ?_
        replace h := Option.bind_eq_some_iff.mp h
        obtain ⟨x39, ex39, h⟩ := h
        obtain ⟨hkx39, hcall⟩ := tb_on_some ex39
        refine tb_e_cv (v := some (.int x39.1)) rfl (Or.inl ⟨_, rfl⟩) rfl rfl (Nat.le_of_ble_eq_true rfl) rfl (Nat.le_of_ble_eq_true rfl) hkx39 ((dc_x_line hcall).up (by decide)) ?_
        refine tb_Es (k := 5) (st' := (178, [(0, .ref v0), (1, .ref v1), (2, .ref v2), (3, .int v3)], [.int (v3 + 1), .ref v0, .ref v2, .int x39.1], x39.2)) rfl ?_
        replace h := Option.bind_eq_some_iff.mp h
        obtain ⟨x40, ex40, h⟩ := h
        refine tb_e_lI rfl (Or.inl ⟨rfl, rfl⟩) ex40 ?_
        refine tb_Es (k := 4) (st' := (183, [(0, .ref v0), (1, .ref v1), (2, .ref v2), (3, .int v3)], [.int (v3 + 2), .ref v0, .int x40, .ref v2, .int x39.1], x39.2)) rfl ?_
        replace h := Option.bind_eq_some_iff.mp h
        obtain ⟨x41, ex41, h⟩ := h
        refine tb_e_lI rfl (Or.inl ⟨rfl, rfl⟩) ex41 ?_
        replace h := Option.bind_eq_some_iff.mp h
        obtain ⟨x42, ex42, h⟩ := h
        obtain ⟨hkx42, hcall⟩ := tb_on_some ex42
        refine tb_e_cv (v := some (.int x42.1)) rfl (Or.inl ⟨_, rfl⟩) rfl rfl (Nat.le_of_ble_eq_true rfl) rfl (Nat.le_of_ble_eq_true rfl) hkx42 ((dc_m_line hcall).up (by decide)) ?_
        refine tb_b_ceq rfl (fun hc => ?_) (fun hc => ?_)
        · rw [if_pos hc] at h
          refine tb_Es (k := 3) (st' := (11, [(0, .ref v0), (1, .ref v1), (2, .ref v2), (3, .int (v3 + 6))], [], x42.2)) rfl ?_
          exact ih v0 v1 v2 (v3 + 6) x42.2 _ h r hx
        · rw [if_neg hc] at h
          refine tb_Es (k := 1) (st' := (187, [], [], x42.2)) rfl ?_
          exact dj_lw_law_j179 (fl_lw_law_10 n)  x42.2 _ h r hx (fun v0_ v1_ v2_ v3_ w_ h_ => ih v0_ v1_ v2_ v3_ w_ _ h_ r hx)
      rw [if_neg hc] at h
      refine tb_w_one (k := 7) (by decide) (fun hc => ?_) (fun hc => ?_)
      · rw [if_pos hc] at h
        refine tb_Es (k := 1) (st' := (190, [(0, .ref v0), (1, .ref v1), (2, .ref v2), (3, .int v3)], [.ref v1], w)) rfl ?_
        replace h := Option.bind_eq_some_iff.mp h
        obtain ⟨x43, ex43, h⟩ := h
        obtain ⟨hkx43, hcall⟩ := tb_on_some ex43
        refine tb_e_cv (v := some (.int x43.1)) rfl (Or.inl ⟨_, rfl⟩) rfl rfl (Nat.le_of_ble_eq_true rfl) rfl (Nat.le_of_ble_eq_true rfl) hkx43 ((dc_x_year hcall).up (by decide)) ?_
        refine tb_Es (k := 1) (st' := (192, [(0, .ref v0), (1, .ref v1), (2, .ref v2), (3, .int v3)], [.ref v2, .int x43.1], x43.2)) rfl ?_
        replace h := Option.bind_eq_some_iff.mp h
        obtain ⟨x44, ex44, h⟩ := h
        obtain ⟨hkx44, hcall⟩ := tb_on_some ex44
        refine tb_e_cv (v := some (.int x44.1)) rfl (Or.inl ⟨_, rfl⟩) rfl rfl (Nat.le_of_ble_eq_true rfl) rfl (Nat.le_of_ble_eq_true rfl) hkx44 ((dc_m_year hcall).up (by decide)) ?_
        refine tb_b_ceq rfl (fun hc => ?_) (fun hc => ?_)
        · rw [if_pos hc] at h
          refine tb_Es (k := 3) (st' := (11, [(0, .ref v0), (1, .ref v1), (2, .ref v2), (3, .int (v3 + 6))], [], x44.2)) rfl ?_
          exact ih v0 v1 v2 (v3 + 6) x44.2 _ h r hx
        · rw [if_neg hc] at h
          refine tb_Es (k := 1) (st' := (195, [], [], x44.2)) rfl ?_
          exact dj_lw_law_j186 (fl_lw_law_10 n)  x44.2 _ h r hx (fun v0_ v1_ v2_ v3_ w_ h_ => ih v0_ v1_ v2_ v3_ w_ _ h_ r hx)
      rw [if_neg hc] at h
      refine tb_w_one (k := 8) (by decide) (fun hc => ?_) (fun hc => ?_)
      · rw [if_pos hc] at h
        refine tb_Es (k := 5) (st' := (202, [(0, .ref v0), (1, .ref v1), (2, .ref v2), (3, .int v3)], [.int (v3 + 1), .ref v0, .ref v1], w)) rfl ?_
        replace h := Option.bind_eq_some_iff.mp h
        obtain ⟨x45, ex45, h⟩ := h
        refine tb_e_lI rfl (Or.inl ⟨rfl, rfl⟩) ex45 ?_
        refine tb_Es (k := 4) (st' := (207, [(0, .ref v0), (1, .ref v1), (2, .ref v2), (3, .int v3)], [.int (v3 + 2), .ref v0, .int x45, .ref v1], w)) rfl ?_
        replace h := Option.bind_eq_some_iff.mp h
        obtain ⟨x46, ex46, h⟩ := h
        refine tb_e_lI rfl (Or.inl ⟨rfl, rfl⟩) ex46 ?_
        replace h := Option.bind_eq_some_iff.mp h
        obtain ⟨x47, ex47, h⟩ := h
        obtain ⟨hkx47, hcall⟩ := tb_on_some ex47
        refine tb_e_cv (v := some (.int x47.1)) rfl (Or.inl ⟨_, rfl⟩) rfl rfl (Nat.le_of_ble_eq_true rfl) rfl (Nat.le_of_ble_eq_true rfl) hkx47 ((dc_x_tighten hcall).up (by decide)) ?_
        refine tb_Es (k := 5) (st' := (214, [(0, .ref v0), (1, .ref v1), (2, .ref v2), (3, .int v3)], [.int (v3 + 1), .ref v0, .ref v2, .int x47.1], x47.2)) rfl ?_
        replace h := Option.bind_eq_some_iff.mp h
        obtain ⟨x48, ex48, h⟩ := h
        refine tb_e_lI rfl (Or.inl ⟨rfl, rfl⟩) ex48 ?_
        refine tb_Es (k := 4) (st' := (219, [(0, .ref v0), (1, .ref v1), (2, .ref v2), (3, .int v3)], [.int (v3 + 2), .ref v0, .int x48, .ref v2, .int x47.1], x47.2)) rfl ?_
        replace h := Option.bind_eq_some_iff.mp h
        obtain ⟨x49, ex49, h⟩ := h
        refine tb_e_lI rfl (Or.inl ⟨rfl, rfl⟩) ex49 ?_
        replace h := Option.bind_eq_some_iff.mp h
        obtain ⟨x50, ex50, h⟩ := h
        obtain ⟨hkx50, hcall⟩ := tb_on_some ex50
        refine tb_e_cv (v := some (.int x50.1)) rfl (Or.inl ⟨_, rfl⟩) rfl rfl (Nat.le_of_ble_eq_true rfl) rfl (Nat.le_of_ble_eq_true rfl) hkx50 ((dc_m_tighten hcall).up (by decide)) ?_
        refine tb_b_ceq rfl (fun hc => ?_) (fun hc => ?_)
        · rw [if_pos hc] at h
          refine tb_Es (k := 3) (st' := (11, [(0, .ref v0), (1, .ref v1), (2, .ref v2), (3, .int (v3 + 6))], [], x50.2)) rfl ?_
          exact ih v0 v1 v2 (v3 + 6) x50.2 _ h r hx
        · rw [if_neg hc] at h
          refine tb_Es (k := 1) (st' := (223, [], [], x50.2)) rfl ?_
          exact dj_lw_law_j213 (fl_lw_law_10 n)  x50.2 _ h r hx (fun v0_ v1_ v2_ v3_ w_ h_ => ih v0_ v1_ v2_ v3_ w_ _ h_ r hx)
      rw [if_neg hc] at h
      refine tb_w_one (k := 9) (by decide) (fun hc => ?_) (fun hc => ?_)
      · rw [if_pos hc] at h
        refine tb_Es (k := 5) (st' := (230, [(0, .ref v0), (1, .ref v1), (2, .ref v2), (3, .int v3)], [.int (v3 + 1), .ref v0, .ref v1], w)) rfl ?_
        replace h := Option.bind_eq_some_iff.mp h
        obtain ⟨x51, ex51, h⟩ := h
        refine tb_e_lI rfl (Or.inl ⟨rfl, rfl⟩) ex51 ?_
        replace h := Option.bind_eq_some_iff.mp h
        obtain ⟨x52, ex52, h⟩ := h
        obtain ⟨hkx52, hcall⟩ := tb_on_some ex52
        refine tb_e_cv (v := some (.int x52.1)) rfl (Or.inl ⟨_, rfl⟩) rfl rfl (Nat.le_of_ble_eq_true rfl) rfl (Nat.le_of_ble_eq_true rfl) hkx52 ((dc_x_cut hcall).up (by decide)) ?_
        refine tb_Es (k := 5) (st' := (237, [(0, .ref v0), (1, .ref v1), (2, .ref v2), (3, .int v3)], [.int (v3 + 1), .ref v0, .ref v2, .int x52.1], x52.2)) rfl ?_
        replace h := Option.bind_eq_some_iff.mp h
        obtain ⟨x53, ex53, h⟩ := h
        refine tb_e_lI rfl (Or.inl ⟨rfl, rfl⟩) ex53 ?_
        replace h := Option.bind_eq_some_iff.mp h
        obtain ⟨x54, ex54, h⟩ := h
        obtain ⟨hkx54, hcall⟩ := tb_on_some ex54
        refine tb_e_cv (v := some (.int x54.1)) rfl (Or.inl ⟨_, rfl⟩) rfl rfl (Nat.le_of_ble_eq_true rfl) rfl (Nat.le_of_ble_eq_true rfl) hkx54 ((dc_m_cut hcall).up (by decide)) ?_
        refine tb_b_ceq rfl (fun hc => ?_) (fun hc => ?_)
        · rw [if_pos hc] at h
          refine tb_Es (k := 3) (st' := (11, [(0, .ref v0), (1, .ref v1), (2, .ref v2), (3, .int (v3 + 6))], [], x54.2)) rfl ?_
          exact ih v0 v1 v2 (v3 + 6) x54.2 _ h r hx
        · rw [if_neg hc] at h
          refine tb_Es (k := 1) (st' := (241, [], [], x54.2)) rfl ?_
          exact dj_lw_law_j230 (fl_lw_law_10 n)  x54.2 _ h r hx (fun v0_ v1_ v2_ v3_ w_ h_ => ih v0_ v1_ v2_ v3_ w_ _ h_ r hx)
      rw [if_neg hc] at h
      refine tb_w_one (k := 10) (by decide) (fun hc => ?_) (fun hc => ?_)
      · rw [if_pos hc] at h
        refine tb_Es (k := 5) (st' := (248, [(0, .ref v0), (1, .ref v1), (2, .ref v2), (3, .int v3)], [.int (v3 + 1), .ref v0, .ref v1], w)) rfl ?_
        replace h := Option.bind_eq_some_iff.mp h
        obtain ⟨x55, ex55, h⟩ := h
        refine tb_e_lI rfl (Or.inl ⟨rfl, rfl⟩) ex55 ?_
        refine tb_Es (k := 4) (st' := (253, [(0, .ref v0), (1, .ref v1), (2, .ref v2), (3, .int v3)], [.int (v3 + 2), .ref v0, .int x55, .ref v1], w)) rfl ?_
        replace h := Option.bind_eq_some_iff.mp h
        obtain ⟨x56, ex56, h⟩ := h
        refine tb_e_lI rfl (Or.inl ⟨rfl, rfl⟩) ex56 ?_
        refine tb_Es (k := 4) (st' := (258, [(0, .ref v0), (1, .ref v1), (2, .ref v2), (3, .int v3)], [.int (v3 + 3), .ref v0, .int x56, .int x55, .ref v1], w)) rfl ?_
        replace h := Option.bind_eq_some_iff.mp h
        obtain ⟨x57, ex57, h⟩ := h
        refine tb_e_lI rfl (Or.inl ⟨rfl, rfl⟩) ex57 ?_
        replace h := Option.bind_eq_some_iff.mp h
        obtain ⟨x58, ex58, h⟩ := h
        obtain ⟨hkx58, hcall⟩ := tb_on_some ex58
        refine tb_e_cv (v := some (.int x58.1)) rfl (Or.inl ⟨_, rfl⟩) rfl rfl (Nat.le_of_ble_eq_true rfl) rfl (Nat.le_of_ble_eq_true rfl) hkx58 ((dc_x_hang hcall).up (by decide)) ?_
        refine tb_Es (k := 5) (st' := (265, [(0, .ref v0), (1, .ref v1), (2, .ref v2), (3, .int v3)], [.int (v3 + 1), .ref v0, .ref v2, .int x58.1], x58.2)) rfl ?_
        replace h := Option.bind_eq_some_iff.mp h
        obtain ⟨x59, ex59, h⟩ := h
        refine tb_e_lI rfl (Or.inl ⟨rfl, rfl⟩) ex59 ?_
        refine tb_Es (k := 4) (st' := (270, [(0, .ref v0), (1, .ref v1), (2, .ref v2), (3, .int v3)], [.int (v3 + 2), .ref v0, .int x59, .ref v2, .int x58.1], x58.2)) rfl ?_
        replace h := Option.bind_eq_some_iff.mp h
        obtain ⟨x60, ex60, h⟩ := h
        refine tb_e_lI rfl (Or.inl ⟨rfl, rfl⟩) ex60 ?_
        refine tb_Es (k := 4) (st' := (275, [(0, .ref v0), (1, .ref v1), (2, .ref v2), (3, .int v3)], [.int (v3 + 3), .ref v0, .int x60, .int x59, .ref v2, .int x58.1], x58.2)) rfl ?_
        replace h := Option.bind_eq_some_iff.mp h
        obtain ⟨x61, ex61, h⟩ := h
        refine tb_e_lI rfl (Or.inl ⟨rfl, rfl⟩) ex61 ?_
        replace h := Option.bind_eq_some_iff.mp h
        obtain ⟨x62, ex62, h⟩ := h
        obtain ⟨hkx62, hcall⟩ := tb_on_some ex62
        refine tb_e_cv (v := some (.int x62.1)) rfl (Or.inl ⟨_, rfl⟩) rfl rfl (Nat.le_of_ble_eq_true rfl) rfl (Nat.le_of_ble_eq_true rfl) hkx62 ((dc_m_hang hcall).up (by decide)) ?_
        refine tb_b_ceq rfl (fun hc => ?_) (fun hc => ?_)
        · rw [if_pos hc] at h
          refine tb_Es (k := 3) (st' := (11, [(0, .ref v0), (1, .ref v1), (2, .ref v2), (3, .int (v3 + 6))], [], x62.2)) rfl ?_
          exact ih v0 v1 v2 (v3 + 6) x62.2 _ h r hx
        · rw [if_neg hc] at h
          refine tb_Es (k := 1) (st' := (279, [], [], x62.2)) rfl ?_
          exact dj_lw_law_j267 (fl_lw_law_10 n)  x62.2 _ h r hx (fun v0_ v1_ v2_ v3_ w_ h_ => ih v0_ v1_ v2_ v3_ w_ _ h_ r hx)
      rw [if_neg hc] at h
      refine tb_w_one (k := 11) (by decide) (fun hc => ?_) (fun hc => ?_)
      · rw [if_pos hc] at h
        refine tb_Es (k := 5) (st' := (286, [(0, .ref v0), (1, .ref v1), (2, .ref v2), (3, .int v3)], [.int (v3 + 1), .ref v0, .ref v1], w)) rfl ?_
        replace h := Option.bind_eq_some_iff.mp h
        obtain ⟨x63, ex63, h⟩ := h
        refine tb_e_lI rfl (Or.inl ⟨rfl, rfl⟩) ex63 ?_
        refine tb_Es (k := 4) (st' := (291, [(0, .ref v0), (1, .ref v1), (2, .ref v2), (3, .int v3)], [.int (v3 + 2), .ref v0, .int x63, .ref v1], w)) rfl ?_
        replace h := Option.bind_eq_some_iff.mp h
        obtain ⟨x64, ex64, h⟩ := h
        refine tb_e_lI rfl (Or.inl ⟨rfl, rfl⟩) ex64 ?_
        replace h := Option.bind_eq_some_iff.mp h
        obtain ⟨x65, ex65, h⟩ := h
        obtain ⟨hkx65, hcall⟩ := tb_on_some ex65
        refine tb_e_cv (v := some (.int x65.1)) rfl (Or.inl ⟨_, rfl⟩) rfl rfl (Nat.le_of_ble_eq_true rfl) rfl (Nat.le_of_ble_eq_true rfl) hkx65 ((dc_x_prop hcall).up (by decide)) ?_
        refine tb_Es (k := 5) (st' := (298, [(0, .ref v0), (1, .ref v1), (2, .ref v2), (3, .int v3)], [.int (v3 + 1), .ref v0, .ref v2, .int x65.1], x65.2)) rfl ?_
        replace h := Option.bind_eq_some_iff.mp h
        obtain ⟨x66, ex66, h⟩ := h
        refine tb_e_lI rfl (Or.inl ⟨rfl, rfl⟩) ex66 ?_
        refine tb_Es (k := 4) (st' := (303, [(0, .ref v0), (1, .ref v1), (2, .ref v2), (3, .int v3)], [.int (v3 + 2), .ref v0, .int x66, .ref v2, .int x65.1], x65.2)) rfl ?_
        replace h := Option.bind_eq_some_iff.mp h
        obtain ⟨x67, ex67, h⟩ := h
        refine tb_e_lI rfl (Or.inl ⟨rfl, rfl⟩) ex67 ?_
        replace h := Option.bind_eq_some_iff.mp h
        obtain ⟨x68, ex68, h⟩ := h
        obtain ⟨hkx68, hcall⟩ := tb_on_some ex68
        refine tb_e_cv (v := some (.int x68.1)) rfl (Or.inl ⟨_, rfl⟩) rfl rfl (Nat.le_of_ble_eq_true rfl) rfl (Nat.le_of_ble_eq_true rfl) hkx68 ((dc_m_prop hcall).up (by decide)) ?_
        refine tb_b_ceq rfl (fun hc => ?_) (fun hc => ?_)
        · rw [if_pos hc] at h
          refine tb_Es (k := 3) (st' := (11, [(0, .ref v0), (1, .ref v1), (2, .ref v2), (3, .int (v3 + 6))], [], x68.2)) rfl ?_
          exact ih v0 v1 v2 (v3 + 6) x68.2 _ h r hx
        · rw [if_neg hc] at h
          refine tb_Es (k := 1) (st' := (307, [], [], x68.2)) rfl ?_
          exact dj_lw_law_j294 (fl_lw_law_10 n)  x68.2 _ h r hx (fun v0_ v1_ v2_ v3_ w_ h_ => ih v0_ v1_ v2_ v3_ w_ _ h_ r hx)
      rw [if_neg hc] at h
      refine tb_w_one (k := 12) (by decide) (fun hc => ?_) (fun hc => ?_)
      · rw [if_pos hc] at h
        refine tb_Es (k := 1) (st' := (310, [(0, .ref v0), (1, .ref v1), (2, .ref v2), (3, .int v3)], [.ref v1], w)) rfl ?_
        replace h := Option.bind_eq_some_iff.mp h
        obtain ⟨x69, ex69, h⟩ := h
        obtain ⟨hkx69, hcall⟩ := tb_on_some ex69
        refine tb_e_cv (v := some (.int x69.1)) rfl (Or.inl ⟨_, rfl⟩) rfl rfl (Nat.le_of_ble_eq_true rfl) rfl (Nat.le_of_ble_eq_true rfl) hkx69 ((dc_x_undo hcall).up (by decide)) ?_
        refine tb_Es (k := 1) (st' := (312, [(0, .ref v0), (1, .ref v1), (2, .ref v2), (3, .int v3)], [.ref v2, .int x69.1], x69.2)) rfl ?_
        replace h := Option.bind_eq_some_iff.mp h
        obtain ⟨x70, ex70, h⟩ := h
        obtain ⟨hkx70, hcall⟩ := tb_on_some ex70
        refine tb_e_cv (v := some (.int x70.1)) rfl (Or.inl ⟨_, rfl⟩) rfl rfl (Nat.le_of_ble_eq_true rfl) rfl (Nat.le_of_ble_eq_true rfl) hkx70 ((dc_m_undo hcall).up (by decide)) ?_
        refine tb_b_ceq rfl (fun hc => ?_) (fun hc => ?_)
        · rw [if_pos hc] at h
          refine tb_Es (k := 3) (st' := (11, [(0, .ref v0), (1, .ref v1), (2, .ref v2), (3, .int (v3 + 6))], [], x70.2)) rfl ?_
          exact ih v0 v1 v2 (v3 + 6) x70.2 _ h r hx
        · rw [if_neg hc] at h
          refine tb_Es (k := 1) (st' := (315, [], [], x70.2)) rfl ?_
          exact dj_lw_law_j301 (fl_lw_law_10 n)  x70.2 _ h r hx (fun v0_ v1_ v2_ v3_ w_ h_ => ih v0_ v1_ v2_ v3_ w_ _ h_ r hx)
      rw [if_neg hc] at h
      refine tb_w_one (k := 13) (by decide) (fun hc => ?_) (fun hc => ?_)
      · rw [if_pos hc] at h
        refine tb_Es (k := 5) (st' := (322, [(0, .ref v0), (1, .ref v1), (2, .ref v2), (3, .int v3)], [.int (v3 + 1), .ref v0, .ref v1], w)) rfl ?_
        replace h := Option.bind_eq_some_iff.mp h
        obtain ⟨x71, ex71, h⟩ := h
        refine tb_e_lI rfl (Or.inl ⟨rfl, rfl⟩) ex71 ?_
        refine tb_Es (k := 4) (st' := (327, [(0, .ref v0), (1, .ref v1), (2, .ref v2), (3, .int v3)], [.int (v3 + 2), .ref v0, .int x71, .ref v1], w)) rfl ?_
        replace h := Option.bind_eq_some_iff.mp h
        obtain ⟨x72, ex72, h⟩ := h
        refine tb_e_lI rfl (Or.inl ⟨rfl, rfl⟩) ex72 ?_
        replace h := Option.bind_eq_some_iff.mp h
        obtain ⟨x73, ex73, h⟩ := h
        obtain ⟨hkx73, hcall⟩ := tb_on_some ex73
        refine tb_e_cv (v := some (.int x73.1)) rfl (Or.inl ⟨_, rfl⟩) rfl rfl (Nat.le_of_ble_eq_true rfl) rfl (Nat.le_of_ble_eq_true rfl) hkx73 ((dc_x_ahead hcall).up (by decide)) ?_
        refine tb_Es (k := 5) (st' := (334, [(0, .ref v0), (1, .ref v1), (2, .ref v2), (3, .int v3)], [.int (v3 + 1), .ref v0, .ref v2, .int x73.1], x73.2)) rfl ?_
        replace h := Option.bind_eq_some_iff.mp h
        obtain ⟨x74, ex74, h⟩ := h
        refine tb_e_lI rfl (Or.inl ⟨rfl, rfl⟩) ex74 ?_
        refine tb_Es (k := 4) (st' := (339, [(0, .ref v0), (1, .ref v1), (2, .ref v2), (3, .int v3)], [.int (v3 + 2), .ref v0, .int x74, .ref v2, .int x73.1], x73.2)) rfl ?_
        replace h := Option.bind_eq_some_iff.mp h
        obtain ⟨x75, ex75, h⟩ := h
        refine tb_e_lI rfl (Or.inl ⟨rfl, rfl⟩) ex75 ?_
        replace h := Option.bind_eq_some_iff.mp h
        obtain ⟨x76, ex76, h⟩ := h
        obtain ⟨hkx76, hcall⟩ := tb_on_some ex76
        refine tb_e_cv (v := some (.int x76.1)) rfl (Or.inl ⟨_, rfl⟩) rfl rfl (Nat.le_of_ble_eq_true rfl) rfl (Nat.le_of_ble_eq_true rfl) hkx76 ((dc_m_ahead hcall).up (by decide)) ?_
        refine tb_b_ceq rfl (fun hc => ?_) (fun hc => ?_)
        · rw [if_pos hc] at h
          refine tb_Es (k := 3) (st' := (11, [(0, .ref v0), (1, .ref v1), (2, .ref v2), (3, .int (v3 + 6))], [], x76.2)) rfl ?_
          exact ih v0 v1 v2 (v3 + 6) x76.2 _ h r hx
        · rw [if_neg hc] at h
          refine tb_Es (k := 1) (st' := (343, [], [], x76.2)) rfl ?_
          exact dj_lw_law_j328 (fl_lw_law_10 n)  x76.2 _ h r hx (fun v0_ v1_ v2_ v3_ w_ h_ => ih v0_ v1_ v2_ v3_ w_ _ h_ r hx)
      rw [if_neg hc] at h
      refine tb_w_one (k := 14) (by decide) (fun hc => ?_) (fun hc => ?_)
      · rw [if_pos hc] at h
        refine tb_Es (k := 5) (st' := (350, [(0, .ref v0), (1, .ref v1), (2, .ref v2), (3, .int v3)], [.int (v3 + 1), .ref v0, .ref v1], w)) rfl ?_
        replace h := Option.bind_eq_some_iff.mp h
        obtain ⟨x77, ex77, h⟩ := h
        refine tb_e_lI rfl (Or.inl ⟨rfl, rfl⟩) ex77 ?_
        replace h := Option.bind_eq_some_iff.mp h
        obtain ⟨x78, ex78, h⟩ := h
        obtain ⟨hkx78, hcall⟩ := tb_on_some ex78
        refine tb_e_cv (v := some (.int x78.1)) rfl (Or.inl ⟨_, rfl⟩) rfl rfl (Nat.le_of_ble_eq_true rfl) rfl (Nat.le_of_ble_eq_true rfl) hkx78 ((dc_x_falls hcall).up (by decide)) ?_
        refine tb_Es (k := 5) (st' := (357, [(0, .ref v0), (1, .ref v1), (2, .ref v2), (3, .int v3)], [.int (v3 + 1), .ref v0, .ref v2, .int x78.1], x78.2)) rfl ?_
        replace h := Option.bind_eq_some_iff.mp h
        obtain ⟨x79, ex79, h⟩ := h
        refine tb_e_lI rfl (Or.inl ⟨rfl, rfl⟩) ex79 ?_
        replace h := Option.bind_eq_some_iff.mp h
        obtain ⟨x80, ex80, h⟩ := h
        obtain ⟨hkx80, hcall⟩ := tb_on_some ex80
        refine tb_e_cv (v := some (.int x80.1)) rfl (Or.inl ⟨_, rfl⟩) rfl rfl (Nat.le_of_ble_eq_true rfl) rfl (Nat.le_of_ble_eq_true rfl) hkx80 ((dc_m_falls hcall).up (by decide)) ?_
        refine tb_b_ceq rfl (fun hc => ?_) (fun hc => ?_)
        · rw [if_pos hc] at h
          refine tb_Es (k := 3) (st' := (11, [(0, .ref v0), (1, .ref v1), (2, .ref v2), (3, .int (v3 + 6))], [], x80.2)) rfl ?_
          exact ih v0 v1 v2 (v3 + 6) x80.2 _ h r hx
        · rw [if_neg hc] at h
          refine tb_Es (k := 1) (st' := (361, [], [], x80.2)) rfl ?_
          exact dj_lw_law_j345 (fl_lw_law_10 n)  x80.2 _ h r hx (fun v0_ v1_ v2_ v3_ w_ h_ => ih v0_ v1_ v2_ v3_ w_ _ h_ r hx)
      rw [if_neg hc] at h
      refine tb_w_one (k := 15) (by decide) (fun hc => ?_) (fun hc => ?_)
      · rw [if_pos hc] at h
        refine tb_Es (k := 5) (st' := (368, [(0, .ref v0), (1, .ref v1), (2, .ref v2), (3, .int v3)], [.int (v3 + 1), .ref v0, .ref v1], w)) rfl ?_
        replace h := Option.bind_eq_some_iff.mp h
        obtain ⟨x81, ex81, h⟩ := h
        refine tb_e_lI rfl (Or.inl ⟨rfl, rfl⟩) ex81 ?_
        replace h := Option.bind_eq_some_iff.mp h
        obtain ⟨x82, ex82, h⟩ := h
        obtain ⟨hkx82, hcall⟩ := tb_on_some ex82
        refine tb_e_cv (v := some (.int x82.1)) rfl (Or.inl ⟨_, rfl⟩) rfl rfl (Nat.le_of_ble_eq_true rfl) rfl (Nat.le_of_ble_eq_true rfl) hkx82 ((dc_x_lasts hcall).up (by decide)) ?_
        refine tb_Es (k := 5) (st' := (375, [(0, .ref v0), (1, .ref v1), (2, .ref v2), (3, .int v3)], [.int (v3 + 1), .ref v0, .ref v2, .int x82.1], x82.2)) rfl ?_
        replace h := Option.bind_eq_some_iff.mp h
        obtain ⟨x83, ex83, h⟩ := h
        refine tb_e_lI rfl (Or.inl ⟨rfl, rfl⟩) ex83 ?_
        replace h := Option.bind_eq_some_iff.mp h
        obtain ⟨x84, ex84, h⟩ := h
        obtain ⟨hkx84, hcall⟩ := tb_on_some ex84
        refine tb_e_cv (v := some (.int x84.1)) rfl (Or.inl ⟨_, rfl⟩) rfl rfl (Nat.le_of_ble_eq_true rfl) rfl (Nat.le_of_ble_eq_true rfl) hkx84 ((dc_m_lasts hcall).up (by decide)) ?_
        refine tb_b_ceq rfl (fun hc => ?_) (fun hc => ?_)
        · rw [if_pos hc] at h
          refine tb_Es (k := 3) (st' := (11, [(0, .ref v0), (1, .ref v1), (2, .ref v2), (3, .int (v3 + 6))], [], x84.2)) rfl ?_
          exact ih v0 v1 v2 (v3 + 6) x84.2 _ h r hx
        · rw [if_neg hc] at h
          refine tb_Es (k := 1) (st' := (379, [], [], x84.2)) rfl ?_
          exact dj_lw_law_j362 (fl_lw_law_10 n)  x84.2 _ h r hx (fun v0_ v1_ v2_ v3_ w_ h_ => ih v0_ v1_ v2_ v3_ w_ _ h_ r hx)
      rw [if_neg hc] at h
      refine tb_w_one (k := 16) (by decide) (fun hc => ?_) (fun hc => ?_)
      · rw [if_pos hc] at h
        refine tb_Es (k := 5) (st' := (386, [(0, .ref v0), (1, .ref v1), (2, .ref v2), (3, .int v3)], [.int (v3 + 1), .ref v0, .ref v1], w)) rfl ?_
        replace h := Option.bind_eq_some_iff.mp h
        obtain ⟨x85, ex85, h⟩ := h
        refine tb_e_lI rfl (Or.inl ⟨rfl, rfl⟩) ex85 ?_
        replace h := Option.bind_eq_some_iff.mp h
        obtain ⟨x86, ex86, h⟩ := h
        obtain ⟨hkx86, hcall⟩ := tb_on_some ex86
        refine tb_e_cv (v := some (.int x86.1)) rfl (Or.inl ⟨_, rfl⟩) rfl rfl (Nat.le_of_ble_eq_true rfl) rfl (Nat.le_of_ble_eq_true rfl) hkx86 ((dc_x_spare hcall).up (by decide)) ?_
        refine tb_Es (k := 5) (st' := (393, [(0, .ref v0), (1, .ref v1), (2, .ref v2), (3, .int v3)], [.int (v3 + 1), .ref v0, .ref v2, .int x86.1], x86.2)) rfl ?_
        replace h := Option.bind_eq_some_iff.mp h
        obtain ⟨x87, ex87, h⟩ := h
        refine tb_e_lI rfl (Or.inl ⟨rfl, rfl⟩) ex87 ?_
        replace h := Option.bind_eq_some_iff.mp h
        obtain ⟨x88, ex88, h⟩ := h
        obtain ⟨hkx88, hcall⟩ := tb_on_some ex88
        refine tb_e_cv (v := some (.int x88.1)) rfl (Or.inl ⟨_, rfl⟩) rfl rfl (Nat.le_of_ble_eq_true rfl) rfl (Nat.le_of_ble_eq_true rfl) hkx88 ((dc_m_spare hcall).up (by decide)) ?_
        refine tb_b_ceq rfl (fun hc => ?_) (fun hc => ?_)
        · rw [if_pos hc] at h
          refine tb_Es (k := 3) (st' := (11, [(0, .ref v0), (1, .ref v1), (2, .ref v2), (3, .int (v3 + 6))], [], x88.2)) rfl ?_
          exact ih v0 v1 v2 (v3 + 6) x88.2 _ h r hx
        · rw [if_neg hc] at h
          refine tb_Es (k := 1) (st' := (397, [], [], x88.2)) rfl ?_
          exact dj_lw_law_j379 (fl_lw_law_10 n)  x88.2 _ h r hx (fun v0_ v1_ v2_ v3_ w_ h_ => ih v0_ v1_ v2_ v3_ w_ _ h_ r hx)
      rw [if_neg hc] at h
      refine tb_w_one (k := 17) (by decide) (fun hc => ?_) (fun hc => ?_)
      · rw [if_pos hc] at h
        refine tb_Es (k := 1) (st' := (400, [(0, .ref v0), (1, .ref v1), (2, .ref v2), (3, .int v3)], [.ref v1], w)) rfl ?_
        replace h := Option.bind_eq_some_iff.mp h
        obtain ⟨x89, ex89, h⟩ := h
        obtain ⟨hkx89, hcall⟩ := tb_on_some ex89
        refine tb_e_cv (v := some (.int x89.1)) rfl (Or.inl ⟨_, rfl⟩) rfl rfl (Nat.le_of_ble_eq_true rfl) rfl (Nat.le_of_ble_eq_true rfl) hkx89 ((dc_x_needed hcall).up (by decide)) ?_
        refine tb_Es (k := 1) (st' := (402, [(0, .ref v0), (1, .ref v1), (2, .ref v2), (3, .int v3)], [.ref v2, .int x89.1], x89.2)) rfl ?_
        replace h := Option.bind_eq_some_iff.mp h
        obtain ⟨x90, ex90, h⟩ := h
        obtain ⟨hkx90, hcall⟩ := tb_on_some ex90
        refine tb_e_cv (v := some (.int x90.1)) rfl (Or.inl ⟨_, rfl⟩) rfl rfl (Nat.le_of_ble_eq_true rfl) rfl (Nat.le_of_ble_eq_true rfl) hkx90 ((dc_m_needed hcall).up (by decide)) ?_
        refine tb_b_ceq rfl (fun hc => ?_) (fun hc => ?_)
        · rw [if_pos hc] at h
          refine tb_Es (k := 3) (st' := (11, [(0, .ref v0), (1, .ref v1), (2, .ref v2), (3, .int (v3 + 6))], [], x90.2)) rfl ?_
          exact ih v0 v1 v2 (v3 + 6) x90.2 _ h r hx
        · rw [if_neg hc] at h
          refine tb_Es (k := 1) (st' := (405, [], [], x90.2)) rfl ?_
          exact dj_lw_law_j386 (fl_lw_law_10 n)  x90.2 _ h r hx (fun v0_ v1_ v2_ v3_ w_ h_ => ih v0_ v1_ v2_ v3_ w_ _ h_ r hx)
      rw [if_neg hc] at h
      refine tb_w_one (k := 18) (by decide) (fun hc => ?_) (fun hc => ?_)
      · rw [if_pos hc] at h
        refine tb_Es (k := 5) (st' := (412, [(0, .ref v0), (1, .ref v1), (2, .ref v2), (3, .int v3)], [.int (v3 + 1), .ref v0, .ref v1], w)) rfl ?_
        replace h := Option.bind_eq_some_iff.mp h
        obtain ⟨x91, ex91, h⟩ := h
        refine tb_e_lI rfl (Or.inl ⟨rfl, rfl⟩) ex91 ?_
        refine tb_Es (k := 4) (st' := (417, [(0, .ref v0), (1, .ref v1), (2, .ref v2), (3, .int v3)], [.int (v3 + 2), .ref v0, .int x91, .ref v1], w)) rfl ?_
        replace h := Option.bind_eq_some_iff.mp h
        obtain ⟨x92, ex92, h⟩ := h
        refine tb_e_lI rfl (Or.inl ⟨rfl, rfl⟩) ex92 ?_
        replace h := Option.bind_eq_some_iff.mp h
        obtain ⟨x93, ex93, h⟩ := h
        obtain ⟨hkx93, hcall⟩ := tb_on_some ex93
        refine tb_e_cv (v := some (.int x93.1)) rfl (Or.inl ⟨_, rfl⟩) rfl rfl (Nat.le_of_ble_eq_true rfl) rfl (Nat.le_of_ble_eq_true rfl) hkx93 ((dc_x_fewest hcall).up (by decide)) ?_
        refine tb_Es (k := 5) (st' := (424, [(0, .ref v0), (1, .ref v1), (2, .ref v2), (3, .int v3)], [.int (v3 + 1), .ref v0, .ref v2, .int x93.1], x93.2)) rfl ?_
        replace h := Option.bind_eq_some_iff.mp h
        obtain ⟨x94, ex94, h⟩ := h
        refine tb_e_lI rfl (Or.inl ⟨rfl, rfl⟩) ex94 ?_
        refine tb_Es (k := 4) (st' := (429, [(0, .ref v0), (1, .ref v1), (2, .ref v2), (3, .int v3)], [.int (v3 + 2), .ref v0, .int x94, .ref v2, .int x93.1], x93.2)) rfl ?_
        replace h := Option.bind_eq_some_iff.mp h
        obtain ⟨x95, ex95, h⟩ := h
        refine tb_e_lI rfl (Or.inl ⟨rfl, rfl⟩) ex95 ?_
        replace h := Option.bind_eq_some_iff.mp h
        obtain ⟨x96, ex96, h⟩ := h
        obtain ⟨hkx96, hcall⟩ := tb_on_some ex96
        refine tb_e_cv (v := some (.int x96.1)) rfl (Or.inl ⟨_, rfl⟩) rfl rfl (Nat.le_of_ble_eq_true rfl) rfl (Nat.le_of_ble_eq_true rfl) hkx96 ((dc_m_fewest hcall).up (by decide)) ?_
        refine tb_b_ceq rfl (fun hc => ?_) (fun hc => ?_)
        · rw [if_pos hc] at h
          refine tb_Es (k := 3) (st' := (11, [(0, .ref v0), (1, .ref v1), (2, .ref v2), (3, .int (v3 + 6))], [], x96.2)) rfl ?_
          exact ih v0 v1 v2 (v3 + 6) x96.2 _ h r hx
        · rw [if_neg hc] at h
          refine tb_Es (k := 1) (st' := (433, [], [], x96.2)) rfl ?_
          exact dj_lw_law_j413 (fl_lw_law_10 n)  x96.2 _ h r hx (fun v0_ v1_ v2_ v3_ w_ h_ => ih v0_ v1_ v2_ v3_ w_ _ h_ r hx)
      rw [if_neg hc] at h
      refine tb_w_one (k := 19) (by decide) (fun hc => ?_) (fun hc => ?_)
      · rw [if_pos hc] at h
        refine tb_Es (k := 5) (st' := (440, [(0, .ref v0), (1, .ref v1), (2, .ref v2), (3, .int v3)], [.int (v3 + 1), .ref v0, .ref v1], w)) rfl ?_
        replace h := Option.bind_eq_some_iff.mp h
        obtain ⟨x97, ex97, h⟩ := h
        refine tb_e_lI rfl (Or.inl ⟨rfl, rfl⟩) ex97 ?_
        replace h := Option.bind_eq_some_iff.mp h
        obtain ⟨x98, ex98, h⟩ := h
        obtain ⟨hkx98, hcall⟩ := tb_on_some ex98
        refine tb_e_cv (v := some (.int x98.1)) rfl (Or.inl ⟨_, rfl⟩) rfl rfl (Nat.le_of_ble_eq_true rfl) rfl (Nat.le_of_ble_eq_true rfl) hkx98 ((dc_x_down hcall).up (by decide)) ?_
        refine tb_Es (k := 5) (st' := (447, [(0, .ref v0), (1, .ref v1), (2, .ref v2), (3, .int v3)], [.int (v3 + 1), .ref v0, .ref v2, .int x98.1], x98.2)) rfl ?_
        replace h := Option.bind_eq_some_iff.mp h
        obtain ⟨x99, ex99, h⟩ := h
        refine tb_e_lI rfl (Or.inl ⟨rfl, rfl⟩) ex99 ?_
        replace h := Option.bind_eq_some_iff.mp h
        obtain ⟨x100, ex100, h⟩ := h
        obtain ⟨hkx100, hcall⟩ := tb_on_some ex100
        refine tb_e_cv (v := some (.int x100.1)) rfl (Or.inl ⟨_, rfl⟩) rfl rfl (Nat.le_of_ble_eq_true rfl) rfl (Nat.le_of_ble_eq_true rfl) hkx100 ((dc_m_down hcall).up (by decide)) ?_
        refine tb_b_ceq rfl (fun hc => ?_) (fun hc => ?_)
        · rw [if_pos hc] at h
          refine tb_Es (k := 3) (st' := (11, [(0, .ref v0), (1, .ref v1), (2, .ref v2), (3, .int (v3 + 6))], [], x100.2)) rfl ?_
          exact ih v0 v1 v2 (v3 + 6) x100.2 _ h r hx
        · rw [if_neg hc] at h
          refine tb_Es (k := 1) (st' := (451, [], [], x100.2)) rfl ?_
          exact dj_lw_law_j430 (fl_lw_law_10 n)  x100.2 _ h r hx (fun v0_ v1_ v2_ v3_ w_ h_ => ih v0_ v1_ v2_ v3_ w_ _ h_ r hx)
      rw [if_neg hc] at h
      refine tb_w_one (k := 20) (by decide) (fun hc => ?_) (fun hc => ?_)
      · rw [if_pos hc] at h
        refine tb_Es (k := 5) (st' := (458, [(0, .ref v0), (1, .ref v1), (2, .ref v2), (3, .int v3)], [.int (v3 + 1), .ref v0, .ref v1], w)) rfl ?_
        replace h := Option.bind_eq_some_iff.mp h
        obtain ⟨x101, ex101, h⟩ := h
        refine tb_e_lI rfl (Or.inl ⟨rfl, rfl⟩) ex101 ?_
        replace h := Option.bind_eq_some_iff.mp h
        obtain ⟨x102, ex102, h⟩ := h
        obtain ⟨hkx102, hcall⟩ := tb_on_some ex102
        refine tb_e_cv (v := some (.int x102.1)) rfl (Or.inl ⟨_, rfl⟩) rfl rfl (Nat.le_of_ble_eq_true rfl) rfl (Nat.le_of_ble_eq_true rfl) hkx102 ((dc_x_byThese hcall).up (by decide)) ?_
        refine tb_Es (k := 5) (st' := (465, [(0, .ref v0), (1, .ref v1), (2, .ref v2), (3, .int v3)], [.int (v3 + 1), .ref v0, .ref v2, .int x102.1], x102.2)) rfl ?_
        replace h := Option.bind_eq_some_iff.mp h
        obtain ⟨x103, ex103, h⟩ := h
        refine tb_e_lI rfl (Or.inl ⟨rfl, rfl⟩) ex103 ?_
        replace h := Option.bind_eq_some_iff.mp h
        obtain ⟨x104, ex104, h⟩ := h
        obtain ⟨hkx104, hcall⟩ := tb_on_some ex104
        refine tb_e_cv (v := some (.int x104.1)) rfl (Or.inl ⟨_, rfl⟩) rfl rfl (Nat.le_of_ble_eq_true rfl) rfl (Nat.le_of_ble_eq_true rfl) hkx104 ((dc_m_byThese hcall).up (by decide)) ?_
        refine tb_b_ceq rfl (fun hc => ?_) (fun hc => ?_)
        · rw [if_pos hc] at h
          refine tb_Es (k := 3) (st' := (11, [(0, .ref v0), (1, .ref v1), (2, .ref v2), (3, .int (v3 + 6))], [], x104.2)) rfl ?_
          exact ih v0 v1 v2 (v3 + 6) x104.2 _ h r hx
        · rw [if_neg hc] at h
          refine tb_Es (k := 1) (st' := (469, [], [], x104.2)) rfl ?_
          exact dj_lw_law_j447 (fl_lw_law_10 n)  x104.2 _ h r hx (fun v0_ v1_ v2_ v3_ w_ h_ => ih v0_ v1_ v2_ v3_ w_ _ h_ r hx)
      rw [if_neg hc] at h
      refine tb_w_one (k := 21) (by decide) (fun hc => ?_) (fun hc => ?_)
      · rw [if_pos hc] at h
        refine tb_Es (k := 5) (st' := (476, [(0, .ref v0), (1, .ref v1), (2, .ref v2), (3, .int v3)], [.int (v3 + 1), .ref v0, .ref v1], w)) rfl ?_
        replace h := Option.bind_eq_some_iff.mp h
        obtain ⟨x105, ex105, h⟩ := h
        refine tb_e_lI rfl (Or.inl ⟨rfl, rfl⟩) ex105 ?_
        refine tb_Es (k := 4) (st' := (481, [(0, .ref v0), (1, .ref v1), (2, .ref v2), (3, .int v3)], [.int (v3 + 2), .ref v0, .int x105, .ref v1], w)) rfl ?_
        replace h := Option.bind_eq_some_iff.mp h
        obtain ⟨x106, ex106, h⟩ := h
        refine tb_e_lI rfl (Or.inl ⟨rfl, rfl⟩) ex106 ?_
        replace h := Option.bind_eq_some_iff.mp h
        obtain ⟨x107, ex107, h⟩ := h
        obtain ⟨hkx107, hcall⟩ := tb_on_some ex107
        refine tb_e_cv (v := some (.int x107.1)) rfl (Or.inl ⟨_, rfl⟩) rfl rfl (Nat.le_of_ble_eq_true rfl) rfl (Nat.le_of_ble_eq_true rfl) hkx107 ((dc_x_way hcall).up (by decide)) ?_
        refine tb_Es (k := 5) (st' := (488, [(0, .ref v0), (1, .ref v1), (2, .ref v2), (3, .int v3)], [.int (v3 + 1), .ref v0, .ref v2, .int x107.1], x107.2)) rfl ?_
        replace h := Option.bind_eq_some_iff.mp h
        obtain ⟨x108, ex108, h⟩ := h
        refine tb_e_lI rfl (Or.inl ⟨rfl, rfl⟩) ex108 ?_
        refine tb_Es (k := 4) (st' := (493, [(0, .ref v0), (1, .ref v1), (2, .ref v2), (3, .int v3)], [.int (v3 + 2), .ref v0, .int x108, .ref v2, .int x107.1], x107.2)) rfl ?_
        replace h := Option.bind_eq_some_iff.mp h
        obtain ⟨x109, ex109, h⟩ := h
        refine tb_e_lI rfl (Or.inl ⟨rfl, rfl⟩) ex109 ?_
        replace h := Option.bind_eq_some_iff.mp h
        obtain ⟨x110, ex110, h⟩ := h
        obtain ⟨hkx110, hcall⟩ := tb_on_some ex110
        refine tb_e_cv (v := some (.int x110.1)) rfl (Or.inl ⟨_, rfl⟩) rfl rfl (Nat.le_of_ble_eq_true rfl) rfl (Nat.le_of_ble_eq_true rfl) hkx110 ((dc_m_way hcall).up (by decide)) ?_
        refine tb_b_ceq rfl (fun hc => ?_) (fun hc => ?_)
        · rw [if_pos hc] at h
          refine tb_Es (k := 3) (st' := (11, [(0, .ref v0), (1, .ref v1), (2, .ref v2), (3, .int (v3 + 6))], [], x110.2)) rfl ?_
          exact ih v0 v1 v2 (v3 + 6) x110.2 _ h r hx
        · rw [if_neg hc] at h
          refine tb_Es (k := 1) (st' := (497, [], [], x110.2)) rfl ?_
          exact dj_lw_law_j474 (fl_lw_law_10 n)  x110.2 _ h r hx (fun v0_ v1_ v2_ v3_ w_ h_ => ih v0_ v1_ v2_ v3_ w_ _ h_ r hx)
      rw [if_neg hc] at h
      refine tb_w_one (k := 22) (by decide) (fun hc => ?_) (fun hc => ?_)
      · rw [if_pos hc] at h
        refine tb_Es (k := 5) (st' := (504, [(0, .ref v0), (1, .ref v1), (2, .ref v2), (3, .int v3)], [.int (v3 + 1), .ref v0, .ref v1], w)) rfl ?_
        replace h := Option.bind_eq_some_iff.mp h
        obtain ⟨x111, ex111, h⟩ := h
        refine tb_e_lI rfl (Or.inl ⟨rfl, rfl⟩) ex111 ?_
        replace h := Option.bind_eq_some_iff.mp h
        obtain ⟨x112, ex112, h⟩ := h
        obtain ⟨hkx112, hcall⟩ := tb_on_some ex112
        refine tb_e_cv (v := some (.int x112.1)) rfl (Or.inl ⟨_, rfl⟩) rfl rfl (Nat.le_of_ble_eq_true rfl) rfl (Nat.le_of_ble_eq_true rfl) hkx112 ((dc_x_blocks hcall).up (by decide)) ?_
        refine tb_Es (k := 5) (st' := (511, [(0, .ref v0), (1, .ref v1), (2, .ref v2), (3, .int v3)], [.int (v3 + 1), .ref v0, .ref v2, .int x112.1], x112.2)) rfl ?_
        replace h := Option.bind_eq_some_iff.mp h
        obtain ⟨x113, ex113, h⟩ := h
        refine tb_e_lI rfl (Or.inl ⟨rfl, rfl⟩) ex113 ?_
        replace h := Option.bind_eq_some_iff.mp h
        obtain ⟨x114, ex114, h⟩ := h
        obtain ⟨hkx114, hcall⟩ := tb_on_some ex114
        refine tb_e_cv (v := some (.int x114.1)) rfl (Or.inl ⟨_, rfl⟩) rfl rfl (Nat.le_of_ble_eq_true rfl) rfl (Nat.le_of_ble_eq_true rfl) hkx114 ((dc_m_blocks hcall).up (by decide)) ?_
        refine tb_b_ceq rfl (fun hc => ?_) (fun hc => ?_)
        · rw [if_pos hc] at h
          refine tb_Es (k := 3) (st' := (11, [(0, .ref v0), (1, .ref v1), (2, .ref v2), (3, .int (v3 + 6))], [], x114.2)) rfl ?_
          exact ih v0 v1 v2 (v3 + 6) x114.2 _ h r hx
        · rw [if_neg hc] at h
          refine tb_Es (k := 1) (st' := (515, [], [], x114.2)) rfl ?_
          exact dj_lw_law_j491 (fl_lw_law_10 n)  x114.2 _ h r hx (fun v0_ v1_ v2_ v3_ w_ h_ => ih v0_ v1_ v2_ v3_ w_ _ h_ r hx)
      rw [if_neg hc] at h
      refine tb_w_one (k := 23) (by decide) (fun hc => ?_) (fun hc => ?_)
      · rw [if_pos hc] at h
        refine tb_Es (k := 5) (st' := (522, [(0, .ref v0), (1, .ref v1), (2, .ref v2), (3, .int v3)], [.int (v3 + 1), .ref v0, .ref v1], w)) rfl ?_
        replace h := Option.bind_eq_some_iff.mp h
        obtain ⟨x115, ex115, h⟩ := h
        refine tb_e_lI rfl (Or.inl ⟨rfl, rfl⟩) ex115 ?_
        refine tb_Es (k := 4) (st' := (527, [(0, .ref v0), (1, .ref v1), (2, .ref v2), (3, .int v3)], [.int (v3 + 2), .ref v0, .int x115, .ref v1], w)) rfl ?_
        replace h := Option.bind_eq_some_iff.mp h
        obtain ⟨x116, ex116, h⟩ := h
        refine tb_e_lI rfl (Or.inl ⟨rfl, rfl⟩) ex116 ?_
        replace h := Option.bind_eq_some_iff.mp h
        obtain ⟨x117, ex117, h⟩ := h
        obtain ⟨hkx117, hcall⟩ := tb_on_some ex117
        refine tb_e_cv (v := some (.int x117.1)) rfl (Or.inl ⟨_, rfl⟩) rfl rfl (Nat.le_of_ble_eq_true rfl) rfl (Nat.le_of_ble_eq_true rfl) hkx117 ((dc_x_propped hcall).up (by decide)) ?_
        refine tb_Es (k := 5) (st' := (534, [(0, .ref v0), (1, .ref v1), (2, .ref v2), (3, .int v3)], [.int (v3 + 1), .ref v0, .ref v2, .int x117.1], x117.2)) rfl ?_
        replace h := Option.bind_eq_some_iff.mp h
        obtain ⟨x118, ex118, h⟩ := h
        refine tb_e_lI rfl (Or.inl ⟨rfl, rfl⟩) ex118 ?_
        refine tb_Es (k := 4) (st' := (539, [(0, .ref v0), (1, .ref v1), (2, .ref v2), (3, .int v3)], [.int (v3 + 2), .ref v0, .int x118, .ref v2, .int x117.1], x117.2)) rfl ?_
        replace h := Option.bind_eq_some_iff.mp h
        obtain ⟨x119, ex119, h⟩ := h
        refine tb_e_lI rfl (Or.inl ⟨rfl, rfl⟩) ex119 ?_
        replace h := Option.bind_eq_some_iff.mp h
        obtain ⟨x120, ex120, h⟩ := h
        obtain ⟨hkx120, hcall⟩ := tb_on_some ex120
        refine tb_e_cv (v := some (.int x120.1)) rfl (Or.inl ⟨_, rfl⟩) rfl rfl (Nat.le_of_ble_eq_true rfl) rfl (Nat.le_of_ble_eq_true rfl) hkx120 ((dc_m_propped hcall).up (by decide)) ?_
        refine tb_b_ceq rfl (fun hc => ?_) (fun hc => ?_)
        · rw [if_pos hc] at h
          refine tb_Es (k := 3) (st' := (11, [(0, .ref v0), (1, .ref v1), (2, .ref v2), (3, .int (v3 + 6))], [], x120.2)) rfl ?_
          exact ih v0 v1 v2 (v3 + 6) x120.2 _ h r hx
        · rw [if_neg hc] at h
          refine tb_Es (k := 1) (st' := (543, [], [], x120.2)) rfl ?_
          exact dj_lw_law_j518 (fl_lw_law_10 n)  x120.2 _ h r hx (fun v0_ v1_ v2_ v3_ w_ h_ => ih v0_ v1_ v2_ v3_ w_ _ h_ r hx)
      rw [if_neg hc] at h
      refine tb_w_one (k := 24) (by decide) (fun hc => ?_) (fun hc => ?_)
      · rw [if_pos hc] at h
        refine tb_Es (k := 5) (st' := (550, [(0, .ref v0), (1, .ref v1), (2, .ref v2), (3, .int v3)], [.int (v3 + 1), .ref v0, .ref v1], w)) rfl ?_
        replace h := Option.bind_eq_some_iff.mp h
        obtain ⟨x121, ex121, h⟩ := h
        refine tb_e_lI rfl (Or.inl ⟨rfl, rfl⟩) ex121 ?_
        replace h := Option.bind_eq_some_iff.mp h
        obtain ⟨x122, ex122, h⟩ := h
        obtain ⟨hkx122, hcall⟩ := tb_on_some ex122
        refine tb_e_cv (v := some (.int x122.1)) rfl (Or.inl ⟨_, rfl⟩) rfl rfl (Nat.le_of_ble_eq_true rfl) rfl (Nat.le_of_ble_eq_true rfl) hkx122 ((dc_x_marry hcall).up (by decide)) ?_
        refine tb_Es (k := 5) (st' := (557, [(0, .ref v0), (1, .ref v1), (2, .ref v2), (3, .int v3)], [.int (v3 + 1), .ref v0, .ref v2, .int x122.1], x122.2)) rfl ?_
        replace h := Option.bind_eq_some_iff.mp h
        obtain ⟨x123, ex123, h⟩ := h
        refine tb_e_lI rfl (Or.inl ⟨rfl, rfl⟩) ex123 ?_
        replace h := Option.bind_eq_some_iff.mp h
        obtain ⟨x124, ex124, h⟩ := h
        obtain ⟨hkx124, hcall⟩ := tb_on_some ex124
        refine tb_e_cv (v := some (.int x124.1)) rfl (Or.inl ⟨_, rfl⟩) rfl rfl (Nat.le_of_ble_eq_true rfl) rfl (Nat.le_of_ble_eq_true rfl) hkx124 ((dc_m_marry hcall).up (by decide)) ?_
        refine tb_b_ceq rfl (fun hc => ?_) (fun hc => ?_)
        · rw [if_pos hc] at h
          refine tb_Es (k := 3) (st' := (11, [(0, .ref v0), (1, .ref v1), (2, .ref v2), (3, .int (v3 + 6))], [], x124.2)) rfl ?_
          exact ih v0 v1 v2 (v3 + 6) x124.2 _ h r hx
        · rw [if_neg hc] at h
          refine tb_Es (k := 1) (st' := (561, [], [], x124.2)) rfl ?_
          exact dj_lw_law_j535 (fl_lw_law_10 n)  x124.2 _ h r hx (fun v0_ v1_ v2_ v3_ w_ h_ => ih v0_ v1_ v2_ v3_ w_ _ h_ r hx)
      rw [if_neg hc] at h
      refine tb_w_one (k := 25) (by decide) (fun hc => ?_) (fun hc => ?_)
      · rw [if_pos hc] at h
        refine tb_Es (k := 5) (st' := (568, [(0, .ref v0), (1, .ref v1), (2, .ref v2), (3, .int v3)], [.int (v3 + 1), .ref v0, .ref v1], w)) rfl ?_
        replace h := Option.bind_eq_some_iff.mp h
        obtain ⟨x125, ex125, h⟩ := h
        refine tb_e_lI rfl (Or.inl ⟨rfl, rfl⟩) ex125 ?_
        refine tb_Es (k := 4) (st' := (573, [(0, .ref v0), (1, .ref v1), (2, .ref v2), (3, .int v3)], [.int (v3 + 2), .ref v0, .int x125, .ref v1], w)) rfl ?_
        replace h := Option.bind_eq_some_iff.mp h
        obtain ⟨x126, ex126, h⟩ := h
        refine tb_e_lI rfl (Or.inl ⟨rfl, rfl⟩) ex126 ?_
        refine tb_Es (k := 4) (st' := (578, [(0, .ref v0), (1, .ref v1), (2, .ref v2), (3, .int v3)], [.int (v3 + 3), .ref v0, .int x126, .int x125, .ref v1], w)) rfl ?_
        replace h := Option.bind_eq_some_iff.mp h
        obtain ⟨x127, ex127, h⟩ := h
        refine tb_e_lI rfl (Or.inl ⟨rfl, rfl⟩) ex127 ?_
        replace h := Option.bind_eq_some_iff.mp h
        obtain ⟨x128, ex128, h⟩ := h
        obtain ⟨hkx128, hcall⟩ := tb_on_some ex128
        refine tb_e_cv (v := some (.int x128.1)) rfl (Or.inl ⟨_, rfl⟩) rfl rfl (Nat.le_of_ble_eq_true rfl) rfl (Nat.le_of_ble_eq_true rfl) hkx128 ((dc_x_newLine hcall).up (by decide)) ?_
        refine tb_Es (k := 5) (st' := (585, [(0, .ref v0), (1, .ref v1), (2, .ref v2), (3, .int v3)], [.int (v3 + 1), .ref v0, .ref v2, .int x128.1], x128.2)) rfl ?_
        replace h := Option.bind_eq_some_iff.mp h
        obtain ⟨x129, ex129, h⟩ := h
        refine tb_e_lI rfl (Or.inl ⟨rfl, rfl⟩) ex129 ?_
        refine tb_Es (k := 4) (st' := (590, [(0, .ref v0), (1, .ref v1), (2, .ref v2), (3, .int v3)], [.int (v3 + 2), .ref v0, .int x129, .ref v2, .int x128.1], x128.2)) rfl ?_
        replace h := Option.bind_eq_some_iff.mp h
        obtain ⟨x130, ex130, h⟩ := h
        refine tb_e_lI rfl (Or.inl ⟨rfl, rfl⟩) ex130 ?_
        refine tb_Es (k := 4) (st' := (595, [(0, .ref v0), (1, .ref v1), (2, .ref v2), (3, .int v3)], [.int (v3 + 3), .ref v0, .int x130, .int x129, .ref v2, .int x128.1], x128.2)) rfl ?_
        replace h := Option.bind_eq_some_iff.mp h
        obtain ⟨x131, ex131, h⟩ := h
        refine tb_e_lI rfl (Or.inl ⟨rfl, rfl⟩) ex131 ?_
        replace h := Option.bind_eq_some_iff.mp h
        obtain ⟨x132, ex132, h⟩ := h
        obtain ⟨hkx132, hcall⟩ := tb_on_some ex132
        refine tb_e_cv (v := some (.int x132.1)) rfl (Or.inl ⟨_, rfl⟩) rfl rfl (Nat.le_of_ble_eq_true rfl) rfl (Nat.le_of_ble_eq_true rfl) hkx132 ((dc_m_newLine hcall).up (by decide)) ?_
        refine tb_b_ceq rfl (fun hc => ?_) (fun hc => ?_)
        · rw [if_pos hc] at h
          refine tb_Es (k := 3) (st' := (11, [(0, .ref v0), (1, .ref v1), (2, .ref v2), (3, .int (v3 + 6))], [], x132.2)) rfl ?_
          exact ih v0 v1 v2 (v3 + 6) x132.2 _ h r hx
        · rw [if_neg hc] at h
          refine tb_Es (k := 1) (st' := (599, [], [], x132.2)) rfl ?_
          exact dj_lw_law_j572 (fl_lw_law_10 n)  x132.2 _ h r hx (fun v0_ v1_ v2_ v3_ w_ h_ => ih v0_ v1_ v2_ v3_ w_ _ h_ r hx)
      rw [if_neg hc] at h
      refine tb_w_one (k := 26) (by decide) (fun hc => ?_) (fun hc => ?_)
      · rw [if_pos hc] at h
        refine tb_Es (k := 5) (st' := (606, [(0, .ref v0), (1, .ref v1), (2, .ref v2), (3, .int v3)], [.int (v3 + 1), .ref v0, .ref v1], w)) rfl ?_
        replace h := Option.bind_eq_some_iff.mp h
        obtain ⟨x133, ex133, h⟩ := h
        refine tb_e_lI rfl (Or.inl ⟨rfl, rfl⟩) ex133 ?_
        refine tb_Es (k := 4) (st' := (611, [(0, .ref v0), (1, .ref v1), (2, .ref v2), (3, .int v3)], [.int (v3 + 2), .ref v0, .int x133, .ref v1], w)) rfl ?_
        replace h := Option.bind_eq_some_iff.mp h
        obtain ⟨x134, ex134, h⟩ := h
        refine tb_e_lI rfl (Or.inl ⟨rfl, rfl⟩) ex134 ?_
        replace h := Option.bind_eq_some_iff.mp h
        obtain ⟨x135, ex135, h⟩ := h
        obtain ⟨hkx135, hcall⟩ := tb_on_some ex135
        refine tb_e_cv (v := some (.int x135.1)) rfl (Or.inl ⟨_, rfl⟩) rfl rfl (Nat.le_of_ble_eq_true rfl) rfl (Nat.le_of_ble_eq_true rfl) hkx135 ((dc_x_pulled hcall).up (by decide)) ?_
        refine tb_Es (k := 5) (st' := (618, [(0, .ref v0), (1, .ref v1), (2, .ref v2), (3, .int v3)], [.int (v3 + 1), .ref v0, .ref v2, .int x135.1], x135.2)) rfl ?_
        replace h := Option.bind_eq_some_iff.mp h
        obtain ⟨x136, ex136, h⟩ := h
        refine tb_e_lI rfl (Or.inl ⟨rfl, rfl⟩) ex136 ?_
        refine tb_Es (k := 4) (st' := (623, [(0, .ref v0), (1, .ref v1), (2, .ref v2), (3, .int v3)], [.int (v3 + 2), .ref v0, .int x136, .ref v2, .int x135.1], x135.2)) rfl ?_
        replace h := Option.bind_eq_some_iff.mp h
        obtain ⟨x137, ex137, h⟩ := h
        refine tb_e_lI rfl (Or.inl ⟨rfl, rfl⟩) ex137 ?_
        replace h := Option.bind_eq_some_iff.mp h
        obtain ⟨x138, ex138, h⟩ := h
        obtain ⟨hkx138, hcall⟩ := tb_on_some ex138
        refine tb_e_cv (v := some (.int x138.1)) rfl (Or.inl ⟨_, rfl⟩) rfl rfl (Nat.le_of_ble_eq_true rfl) rfl (Nat.le_of_ble_eq_true rfl) hkx138 ((dc_m_pulled hcall).up (by decide)) ?_
        refine tb_b_ceq rfl (fun hc => ?_) (fun hc => ?_)
        · rw [if_pos hc] at h
          refine tb_Es (k := 3) (st' := (11, [(0, .ref v0), (1, .ref v1), (2, .ref v2), (3, .int (v3 + 6))], [], x138.2)) rfl ?_
          exact ih v0 v1 v2 (v3 + 6) x138.2 _ h r hx
        · rw [if_neg hc] at h
          refine tb_Es (k := 1) (st' := (627, [], [], x138.2)) rfl ?_
          exact dj_lw_law_j599 (fl_lw_law_10 n)  x138.2 _ h r hx (fun v0_ v1_ v2_ v3_ w_ h_ => ih v0_ v1_ v2_ v3_ w_ _ h_ r hx)
      rw [if_neg hc] at h
      refine tb_w_one (k := 27) (by decide) (fun hc => ?_) (fun hc => ?_)
      · rw [if_pos hc] at h
        refine tb_Es (k := 5) (st' := (634, [(0, .ref v0), (1, .ref v1), (2, .ref v2), (3, .int v3)], [.int (v3 + 1), .ref v0, .ref v1], w)) rfl ?_
        replace h := Option.bind_eq_some_iff.mp h
        obtain ⟨x139, ex139, h⟩ := h
        refine tb_e_lI rfl (Or.inl ⟨rfl, rfl⟩) ex139 ?_
        refine tb_Es (k := 4) (st' := (639, [(0, .ref v0), (1, .ref v1), (2, .ref v2), (3, .int v3)], [.int (v3 + 2), .ref v0, .int x139, .ref v1], w)) rfl ?_
        replace h := Option.bind_eq_some_iff.mp h
        obtain ⟨x140, ex140, h⟩ := h
        refine tb_e_lI rfl (Or.inl ⟨rfl, rfl⟩) ex140 ?_
        refine tb_Es (k := 4) (st' := (644, [(0, .ref v0), (1, .ref v1), (2, .ref v2), (3, .int v3)], [.int (v3 + 3), .ref v0, .int x140, .int x139, .ref v1], w)) rfl ?_
        replace h := Option.bind_eq_some_iff.mp h
        obtain ⟨x141, ex141, h⟩ := h
        refine tb_e_lI rfl (Or.inl ⟨rfl, rfl⟩) ex141 ?_
        refine tb_Es (k := 4) (st' := (649, [(0, .ref v0), (1, .ref v1), (2, .ref v2), (3, .int v3)], [.int (v3 + 4), .ref v0, .int x141, .int x140, .int x139, .ref v1], w)) rfl ?_
        replace h := Option.bind_eq_some_iff.mp h
        obtain ⟨x142, ex142, h⟩ := h
        refine tb_e_lI rfl (Or.inl ⟨rfl, rfl⟩) ex142 ?_
        replace h := Option.bind_eq_some_iff.mp h
        obtain ⟨x143, ex143, h⟩ := h
        obtain ⟨hkx143, hcall⟩ := tb_on_some ex143
        refine tb_e_cv (v := some (.int x143.1)) rfl (Or.inl ⟨_, rfl⟩) rfl rfl (Nat.le_of_ble_eq_true rfl) rfl (Nat.le_of_ble_eq_true rfl) hkx143 ((dc_x_rests hcall).up (by decide)) ?_
        refine tb_Es (k := 5) (st' := (656, [(0, .ref v0), (1, .ref v1), (2, .ref v2), (3, .int v3)], [.int (v3 + 1), .ref v0, .ref v2, .int x143.1], x143.2)) rfl ?_
        replace h := Option.bind_eq_some_iff.mp h
        obtain ⟨x144, ex144, h⟩ := h
        refine tb_e_lI rfl (Or.inl ⟨rfl, rfl⟩) ex144 ?_
        refine tb_Es (k := 4) (st' := (661, [(0, .ref v0), (1, .ref v1), (2, .ref v2), (3, .int v3)], [.int (v3 + 2), .ref v0, .int x144, .ref v2, .int x143.1], x143.2)) rfl ?_
        replace h := Option.bind_eq_some_iff.mp h
        obtain ⟨x145, ex145, h⟩ := h
        refine tb_e_lI rfl (Or.inl ⟨rfl, rfl⟩) ex145 ?_
        refine tb_Es (k := 4) (st' := (666, [(0, .ref v0), (1, .ref v1), (2, .ref v2), (3, .int v3)], [.int (v3 + 3), .ref v0, .int x145, .int x144, .ref v2, .int x143.1], x143.2)) rfl ?_
        replace h := Option.bind_eq_some_iff.mp h
        obtain ⟨x146, ex146, h⟩ := h
        refine tb_e_lI rfl (Or.inl ⟨rfl, rfl⟩) ex146 ?_
        refine tb_Es (k := 4) (st' := (671, [(0, .ref v0), (1, .ref v1), (2, .ref v2), (3, .int v3)], [.int (v3 + 4), .ref v0, .int x146, .int x145, .int x144, .ref v2, .int x143.1], x143.2)) rfl ?_
        replace h := Option.bind_eq_some_iff.mp h
        obtain ⟨x147, ex147, h⟩ := h
        refine tb_e_lI rfl (Or.inl ⟨rfl, rfl⟩) ex147 ?_
        replace h := Option.bind_eq_some_iff.mp h
        obtain ⟨x148, ex148, h⟩ := h
        obtain ⟨hkx148, hcall⟩ := tb_on_some ex148
        refine tb_e_cv (v := some (.int x148.1)) rfl (Or.inl ⟨_, rfl⟩) rfl rfl (Nat.le_of_ble_eq_true rfl) rfl (Nat.le_of_ble_eq_true rfl) hkx148 ((dc_m_rests hcall).up (by decide)) ?_
        refine tb_b_ceq rfl (fun hc => ?_) (fun hc => ?_)
        · rw [if_pos hc] at h
          refine tb_Es (k := 3) (st' := (11, [(0, .ref v0), (1, .ref v1), (2, .ref v2), (3, .int (v3 + 6))], [], x148.2)) rfl ?_
          exact ih v0 v1 v2 (v3 + 6) x148.2 _ h r hx
        · rw [if_neg hc] at h
          refine tb_Es (k := 1) (st' := (675, [], [], x148.2)) rfl ?_
          exact dj_lw_law_j646 (fl_lw_law_10 n)  x148.2 _ h r hx (fun v0_ v1_ v2_ v3_ w_ h_ => ih v0_ v1_ v2_ v3_ w_ _ h_ r hx)
      rw [if_neg hc] at h
      refine tb_w_one (k := 28) (by decide) (fun hc => ?_) (fun hc => ?_)
      · rw [if_pos hc] at h
        refine tb_Es (k := 5) (st' := (682, [(0, .ref v0), (1, .ref v1), (2, .ref v2), (3, .int v3)], [.int (v3 + 1), .ref v0, .ref v1], w)) rfl ?_
        replace h := Option.bind_eq_some_iff.mp h
        obtain ⟨x149, ex149, h⟩ := h
        refine tb_e_lI rfl (Or.inl ⟨rfl, rfl⟩) ex149 ?_
        refine tb_Es (k := 4) (st' := (687, [(0, .ref v0), (1, .ref v1), (2, .ref v2), (3, .int v3)], [.int (v3 + 2), .ref v0, .int x149, .ref v1], w)) rfl ?_
        replace h := Option.bind_eq_some_iff.mp h
        obtain ⟨x150, ex150, h⟩ := h
        refine tb_e_lI rfl (Or.inl ⟨rfl, rfl⟩) ex150 ?_
        replace h := Option.bind_eq_some_iff.mp h
        obtain ⟨x151, ex151, h⟩ := h
        obtain ⟨hkx151, hcall⟩ := tb_on_some ex151
        refine tb_e_cv (v := some (.int x151.1)) rfl (Or.inl ⟨_, rfl⟩) rfl rfl (Nat.le_of_ble_eq_true rfl) rfl (Nat.le_of_ble_eq_true rfl) hkx151 ((dc_x_pence hcall).up (by decide)) ?_
        refine tb_Es (k := 5) (st' := (694, [(0, .ref v0), (1, .ref v1), (2, .ref v2), (3, .int v3)], [.int (v3 + 1), .ref v0, .ref v2, .int x151.1], x151.2)) rfl ?_
        replace h := Option.bind_eq_some_iff.mp h
        obtain ⟨x152, ex152, h⟩ := h
        refine tb_e_lI rfl (Or.inl ⟨rfl, rfl⟩) ex152 ?_
        refine tb_Es (k := 4) (st' := (699, [(0, .ref v0), (1, .ref v1), (2, .ref v2), (3, .int v3)], [.int (v3 + 2), .ref v0, .int x152, .ref v2, .int x151.1], x151.2)) rfl ?_
        replace h := Option.bind_eq_some_iff.mp h
        obtain ⟨x153, ex153, h⟩ := h
        refine tb_e_lI rfl (Or.inl ⟨rfl, rfl⟩) ex153 ?_
        replace h := Option.bind_eq_some_iff.mp h
        obtain ⟨x154, ex154, h⟩ := h
        obtain ⟨hkx154, hcall⟩ := tb_on_some ex154
        refine tb_e_cv (v := some (.int x154.1)) rfl (Or.inl ⟨_, rfl⟩) rfl rfl (Nat.le_of_ble_eq_true rfl) rfl (Nat.le_of_ble_eq_true rfl) hkx154 ((dc_m_pence hcall).up (by decide)) ?_
        refine tb_b_ceq rfl (fun hc => ?_) (fun hc => ?_)
        · rw [if_pos hc] at h
          refine tb_Es (k := 3) (st' := (11, [(0, .ref v0), (1, .ref v1), (2, .ref v2), (3, .int (v3 + 6))], [], x154.2)) rfl ?_
          exact ih v0 v1 v2 (v3 + 6) x154.2 _ h r hx
        · rw [if_neg hc] at h
          refine tb_Es (k := 1) (st' := (703, [], [], x154.2)) rfl ?_
          exact dj_lw_law_j673 (fl_lw_law_10 n)  x154.2 _ h r hx (fun v0_ v1_ v2_ v3_ w_ h_ => ih v0_ v1_ v2_ v3_ w_ _ h_ r hx)
      rw [if_neg hc] at h
      refine tb_w_one (k := 29) (by decide) (fun hc => ?_) (fun hc => ?_)
      · rw [if_pos hc] at h
        refine tb_Es (k := 5) (st' := (710, [(0, .ref v0), (1, .ref v1), (2, .ref v2), (3, .int v3)], [.int (v3 + 1), .ref v0, .ref v1], w)) rfl ?_
        replace h := Option.bind_eq_some_iff.mp h
        obtain ⟨x155, ex155, h⟩ := h
        refine tb_e_lI rfl (Or.inl ⟨rfl, rfl⟩) ex155 ?_
        refine tb_Es (k := 4) (st' := (715, [(0, .ref v0), (1, .ref v1), (2, .ref v2), (3, .int v3)], [.int (v3 + 2), .ref v0, .int x155, .ref v1], w)) rfl ?_
        replace h := Option.bind_eq_some_iff.mp h
        obtain ⟨x156, ex156, h⟩ := h
        refine tb_e_lI rfl (Or.inl ⟨rfl, rfl⟩) ex156 ?_
        refine tb_Es (k := 4) (st' := (720, [(0, .ref v0), (1, .ref v1), (2, .ref v2), (3, .int v3)], [.int (v3 + 3), .ref v0, .int x156, .int x155, .ref v1], w)) rfl ?_
        replace h := Option.bind_eq_some_iff.mp h
        obtain ⟨x157, ex157, h⟩ := h
        refine tb_e_lI rfl (Or.inl ⟨rfl, rfl⟩) ex157 ?_
        replace h := Option.bind_eq_some_iff.mp h
        obtain ⟨x158, ex158, h⟩ := h
        obtain ⟨hkx158, hcall⟩ := tb_on_some ex158
        refine tb_e_cv (v := some (.int x158.1)) rfl (Or.inl ⟨_, rfl⟩) rfl rfl (Nat.le_of_ble_eq_true rfl) rfl (Nat.le_of_ble_eq_true rfl) hkx158 ((dc_x_note hcall).up (by decide)) ?_
        refine tb_Es (k := 5) (st' := (727, [(0, .ref v0), (1, .ref v1), (2, .ref v2), (3, .int v3)], [.int (v3 + 1), .ref v0, .ref v2, .int x158.1], x158.2)) rfl ?_
        replace h := Option.bind_eq_some_iff.mp h
        obtain ⟨x159, ex159, h⟩ := h
        refine tb_e_lI rfl (Or.inl ⟨rfl, rfl⟩) ex159 ?_
        refine tb_Es (k := 4) (st' := (732, [(0, .ref v0), (1, .ref v1), (2, .ref v2), (3, .int v3)], [.int (v3 + 2), .ref v0, .int x159, .ref v2, .int x158.1], x158.2)) rfl ?_
        replace h := Option.bind_eq_some_iff.mp h
        obtain ⟨x160, ex160, h⟩ := h
        refine tb_e_lI rfl (Or.inl ⟨rfl, rfl⟩) ex160 ?_
        refine tb_Es (k := 4) (st' := (737, [(0, .ref v0), (1, .ref v1), (2, .ref v2), (3, .int v3)], [.int (v3 + 3), .ref v0, .int x160, .int x159, .ref v2, .int x158.1], x158.2)) rfl ?_
        replace h := Option.bind_eq_some_iff.mp h
        obtain ⟨x161, ex161, h⟩ := h
        refine tb_e_lI rfl (Or.inl ⟨rfl, rfl⟩) ex161 ?_
        replace h := Option.bind_eq_some_iff.mp h
        obtain ⟨x162, ex162, h⟩ := h
        obtain ⟨hkx162, hcall⟩ := tb_on_some ex162
        refine tb_e_cv (v := some (.int x162.1)) rfl (Or.inl ⟨_, rfl⟩) rfl rfl (Nat.le_of_ble_eq_true rfl) rfl (Nat.le_of_ble_eq_true rfl) hkx162 ((dc_m_note hcall).up (by decide)) ?_
        refine tb_b_ceq rfl (fun hc => ?_) (fun hc => ?_)
        · rw [if_pos hc] at h
          refine tb_Es (k := 3) (st' := (11, [(0, .ref v0), (1, .ref v1), (2, .ref v2), (3, .int (v3 + 6))], [], x162.2)) rfl ?_
          exact ih v0 v1 v2 (v3 + 6) x162.2 _ h r hx
        · rw [if_neg hc] at h
          refine tb_Es (k := 1) (st' := (741, [], [], x162.2)) rfl ?_
          exact dj_lw_law_j710 (fl_lw_law_10 n)  x162.2 _ h r hx (fun v0_ v1_ v2_ v3_ w_ h_ => ih v0_ v1_ v2_ v3_ w_ _ h_ r hx)
      rw [if_neg hc] at h
      refine tb_w_one (k := 30) (by decide) (fun hc => ?_) (fun hc => ?_)
      · rw [if_pos hc] at h
        refine tb_Es (k := 5) (st' := (748, [(0, .ref v0), (1, .ref v1), (2, .ref v2), (3, .int v3)], [.int (v3 + 1), .ref v0, .ref v1], w)) rfl ?_
        replace h := Option.bind_eq_some_iff.mp h
        obtain ⟨x163, ex163, h⟩ := h
        refine tb_e_lI rfl (Or.inl ⟨rfl, rfl⟩) ex163 ?_
        replace h := Option.bind_eq_some_iff.mp h
        obtain ⟨x164, ex164, h⟩ := h
        obtain ⟨hkx164, hcall⟩ := tb_on_some ex164
        refine tb_e_cv (v := some (.int x164.1)) rfl (Or.inl ⟨_, rfl⟩) rfl rfl (Nat.le_of_ble_eq_true rfl) rfl (Nat.le_of_ble_eq_true rfl) hkx164 ((dc_x_ruled hcall).up (by decide)) ?_
        refine tb_Es (k := 5) (st' := (755, [(0, .ref v0), (1, .ref v1), (2, .ref v2), (3, .int v3)], [.int (v3 + 1), .ref v0, .ref v2, .int x164.1], x164.2)) rfl ?_
        replace h := Option.bind_eq_some_iff.mp h
        obtain ⟨x165, ex165, h⟩ := h
        refine tb_e_lI rfl (Or.inl ⟨rfl, rfl⟩) ex165 ?_
        replace h := Option.bind_eq_some_iff.mp h
        obtain ⟨x166, ex166, h⟩ := h
        obtain ⟨hkx166, hcall⟩ := tb_on_some ex166
        refine tb_e_cv (v := some (.int x166.1)) rfl (Or.inl ⟨_, rfl⟩) rfl rfl (Nat.le_of_ble_eq_true rfl) rfl (Nat.le_of_ble_eq_true rfl) hkx166 ((dc_m_ruled hcall).up (by decide)) ?_
        refine tb_b_ceq rfl (fun hc => ?_) (fun hc => ?_)
        · rw [if_pos hc] at h
          refine tb_Es (k := 3) (st' := (11, [(0, .ref v0), (1, .ref v1), (2, .ref v2), (3, .int (v3 + 6))], [], x166.2)) rfl ?_
          exact ih v0 v1 v2 (v3 + 6) x166.2 _ h r hx
        · rw [if_neg hc] at h
          refine tb_Es (k := 1) (st' := (759, [], [], x166.2)) rfl ?_
          exact dj_lw_law_j727 (fl_lw_law_10 n)  x166.2 _ h r hx (fun v0_ v1_ v2_ v3_ w_ h_ => ih v0_ v1_ v2_ v3_ w_ _ h_ r hx)
      rw [if_neg hc] at h
      refine tb_w_one (k := 31) (by decide) (fun hc => ?_) (fun hc => ?_)
      · rw [if_pos hc] at h
        refine tb_Es (k := 5) (st' := (766, [(0, .ref v0), (1, .ref v1), (2, .ref v2), (3, .int v3)], [.int (v3 + 1), .ref v0, .ref v1], w)) rfl ?_
        replace h := Option.bind_eq_some_iff.mp h
        obtain ⟨x167, ex167, h⟩ := h
        refine tb_e_lI rfl (Or.inl ⟨rfl, rfl⟩) ex167 ?_
        refine tb_Es (k := 4) (st' := (771, [(0, .ref v0), (1, .ref v1), (2, .ref v2), (3, .int v3)], [.int (v3 + 2), .ref v0, .int x167, .ref v1], w)) rfl ?_
        replace h := Option.bind_eq_some_iff.mp h
        obtain ⟨x168, ex168, h⟩ := h
        refine tb_e_lI rfl (Or.inl ⟨rfl, rfl⟩) ex168 ?_
        replace h := Option.bind_eq_some_iff.mp h
        obtain ⟨x169, ex169, h⟩ := h
        obtain ⟨hkx169, hcall⟩ := tb_on_some ex169
        refine tb_e_cv (v := some (.int x169.1)) rfl (Or.inl ⟨_, rfl⟩) rfl rfl (Nat.le_of_ble_eq_true rfl) rfl (Nat.le_of_ble_eq_true rfl) hkx169 ((dc_x_look hcall).up (by decide)) ?_
        refine tb_Es (k := 5) (st' := (778, [(0, .ref v0), (1, .ref v1), (2, .ref v2), (3, .int v3)], [.int (v3 + 1), .ref v0, .ref v2, .int x169.1], x169.2)) rfl ?_
        replace h := Option.bind_eq_some_iff.mp h
        obtain ⟨x170, ex170, h⟩ := h
        refine tb_e_lI rfl (Or.inl ⟨rfl, rfl⟩) ex170 ?_
        refine tb_Es (k := 4) (st' := (783, [(0, .ref v0), (1, .ref v1), (2, .ref v2), (3, .int v3)], [.int (v3 + 2), .ref v0, .int x170, .ref v2, .int x169.1], x169.2)) rfl ?_
        replace h := Option.bind_eq_some_iff.mp h
        obtain ⟨x171, ex171, h⟩ := h
        refine tb_e_lI rfl (Or.inl ⟨rfl, rfl⟩) ex171 ?_
        replace h := Option.bind_eq_some_iff.mp h
        obtain ⟨x172, ex172, h⟩ := h
        obtain ⟨hkx172, hcall⟩ := tb_on_some ex172
        refine tb_e_cv (v := some (.int x172.1)) rfl (Or.inl ⟨_, rfl⟩) rfl rfl (Nat.le_of_ble_eq_true rfl) rfl (Nat.le_of_ble_eq_true rfl) hkx172 ((dc_m_look hcall).up (by decide)) ?_
        refine tb_b_ceq rfl (fun hc => ?_) (fun hc => ?_)
        · rw [if_pos hc] at h
          refine tb_Es (k := 3) (st' := (11, [(0, .ref v0), (1, .ref v1), (2, .ref v2), (3, .int (v3 + 6))], [], x172.2)) rfl ?_
          exact ih v0 v1 v2 (v3 + 6) x172.2 _ h r hx
        · rw [if_neg hc] at h
          refine tb_Es (k := 1) (st' := (787, [], [], x172.2)) rfl ?_
          exact dj_lw_law_j754 (fl_lw_law_10 n)  x172.2 _ h r hx (fun v0_ v1_ v2_ v3_ w_ h_ => ih v0_ v1_ v2_ v3_ w_ _ h_ r hx)
      rw [if_neg hc] at h
      refine tb_w_one (k := 32) (by decide) (fun hc => ?_) (fun hc => ?_)
      · rw [if_pos hc] at h
        refine tb_Es (k := 5) (st' := (794, [(0, .ref v0), (1, .ref v1), (2, .ref v2), (3, .int v3)], [.int (v3 + 1), .ref v0, .ref v1], w)) rfl ?_
        replace h := Option.bind_eq_some_iff.mp h
        obtain ⟨x173, ex173, h⟩ := h
        refine tb_e_lI rfl (Or.inl ⟨rfl, rfl⟩) ex173 ?_
        replace h := Option.bind_eq_some_iff.mp h
        obtain ⟨x174, ex174, h⟩ := h
        obtain ⟨hkx174, hcall⟩ := tb_on_some ex174
        refine tb_e_cv (v := some (.int x174.1)) rfl (Or.inl ⟨_, rfl⟩) rfl rfl (Nat.le_of_ble_eq_true rfl) rfl (Nat.le_of_ble_eq_true rfl) hkx174 ((dc_x_seed hcall).up (by decide)) ?_
        refine tb_Es (k := 5) (st' := (801, [(0, .ref v0), (1, .ref v1), (2, .ref v2), (3, .int v3)], [.int (v3 + 1), .ref v0, .ref v2, .int x174.1], x174.2)) rfl ?_
        replace h := Option.bind_eq_some_iff.mp h
        obtain ⟨x175, ex175, h⟩ := h
        refine tb_e_lI rfl (Or.inl ⟨rfl, rfl⟩) ex175 ?_
        replace h := Option.bind_eq_some_iff.mp h
        obtain ⟨x176, ex176, h⟩ := h
        obtain ⟨hkx176, hcall⟩ := tb_on_some ex176
        refine tb_e_cv (v := some (.int x176.1)) rfl (Or.inl ⟨_, rfl⟩) rfl rfl (Nat.le_of_ble_eq_true rfl) rfl (Nat.le_of_ble_eq_true rfl) hkx176 ((dc_m_seed hcall).up (by decide)) ?_
        refine tb_b_ceq rfl (fun hc => ?_) (fun hc => ?_)
        · rw [if_pos hc] at h
          refine tb_Es (k := 3) (st' := (11, [(0, .ref v0), (1, .ref v1), (2, .ref v2), (3, .int (v3 + 6))], [], x176.2)) rfl ?_
          exact ih v0 v1 v2 (v3 + 6) x176.2 _ h r hx
        · rw [if_neg hc] at h
          refine tb_Es (k := 1) (st' := (805, [], [], x176.2)) rfl ?_
          exact dj_lw_law_j771 (fl_lw_law_10 n)  x176.2 _ h r hx (fun v0_ v1_ v2_ v3_ w_ h_ => ih v0_ v1_ v2_ v3_ w_ _ h_ r hx)
      rw [if_neg hc] at h
      refine tb_w_one (k := 33) (by decide) (fun hc => ?_) (fun hc => ?_)
      · rw [if_pos hc] at h
        refine tb_Es (k := 5) (st' := (812, [(0, .ref v0), (1, .ref v1), (2, .ref v2), (3, .int v3)], [.int (v3 + 1), .ref v0, .ref v1], w)) rfl ?_
        replace h := Option.bind_eq_some_iff.mp h
        obtain ⟨x177, ex177, h⟩ := h
        refine tb_e_lI rfl (Or.inl ⟨rfl, rfl⟩) ex177 ?_
        refine tb_Es (k := 4) (st' := (817, [(0, .ref v0), (1, .ref v1), (2, .ref v2), (3, .int v3)], [.int (v3 + 2), .ref v0, .int x177, .ref v1], w)) rfl ?_
        replace h := Option.bind_eq_some_iff.mp h
        obtain ⟨x178, ex178, h⟩ := h
        refine tb_e_lI rfl (Or.inl ⟨rfl, rfl⟩) ex178 ?_
        refine tb_Es (k := 4) (st' := (822, [(0, .ref v0), (1, .ref v1), (2, .ref v2), (3, .int v3)], [.int (v3 + 3), .ref v0, .int x178, .int x177, .ref v1], w)) rfl ?_
        replace h := Option.bind_eq_some_iff.mp h
        obtain ⟨x179, ex179, h⟩ := h
        refine tb_e_lI rfl (Or.inl ⟨rfl, rfl⟩) ex179 ?_
        refine tb_Es (k := 4) (st' := (827, [(0, .ref v0), (1, .ref v1), (2, .ref v2), (3, .int v3)], [.int (v3 + 4), .ref v0, .int x179, .int x178, .int x177, .ref v1], w)) rfl ?_
        replace h := Option.bind_eq_some_iff.mp h
        obtain ⟨x180, ex180, h⟩ := h
        refine tb_e_lI rfl (Or.inl ⟨rfl, rfl⟩) ex180 ?_
        replace h := Option.bind_eq_some_iff.mp h
        obtain ⟨x181, ex181, h⟩ := h
        obtain ⟨hkx181, hcall⟩ := tb_on_some ex181
        refine tb_e_cv (v := some (.int x181.1)) rfl (Or.inl ⟨_, rfl⟩) rfl rfl (Nat.le_of_ble_eq_true rfl) rfl (Nat.le_of_ble_eq_true rfl) hkx181 ((dc_x_winters hcall).up (by decide)) ?_
        refine tb_Es (k := 5) (st' := (834, [(0, .ref v0), (1, .ref v1), (2, .ref v2), (3, .int v3)], [.int (v3 + 1), .ref v0, .ref v2, .int x181.1], x181.2)) rfl ?_
        replace h := Option.bind_eq_some_iff.mp h
        obtain ⟨x182, ex182, h⟩ := h
        refine tb_e_lI rfl (Or.inl ⟨rfl, rfl⟩) ex182 ?_
        refine tb_Es (k := 4) (st' := (839, [(0, .ref v0), (1, .ref v1), (2, .ref v2), (3, .int v3)], [.int (v3 + 2), .ref v0, .int x182, .ref v2, .int x181.1], x181.2)) rfl ?_
        replace h := Option.bind_eq_some_iff.mp h
        obtain ⟨x183, ex183, h⟩ := h
        refine tb_e_lI rfl (Or.inl ⟨rfl, rfl⟩) ex183 ?_
        refine tb_Es (k := 4) (st' := (844, [(0, .ref v0), (1, .ref v1), (2, .ref v2), (3, .int v3)], [.int (v3 + 3), .ref v0, .int x183, .int x182, .ref v2, .int x181.1], x181.2)) rfl ?_
        replace h := Option.bind_eq_some_iff.mp h
        obtain ⟨x184, ex184, h⟩ := h
        refine tb_e_lI rfl (Or.inl ⟨rfl, rfl⟩) ex184 ?_
        refine tb_Es (k := 4) (st' := (849, [(0, .ref v0), (1, .ref v1), (2, .ref v2), (3, .int v3)], [.int (v3 + 4), .ref v0, .int x184, .int x183, .int x182, .ref v2, .int x181.1], x181.2)) rfl ?_
        replace h := Option.bind_eq_some_iff.mp h
        obtain ⟨x185, ex185, h⟩ := h
        refine tb_e_lI rfl (Or.inl ⟨rfl, rfl⟩) ex185 ?_
        replace h := Option.bind_eq_some_iff.mp h
        obtain ⟨x186, ex186, h⟩ := h
        obtain ⟨hkx186, hcall⟩ := tb_on_some ex186
        refine tb_e_cv (v := some (.int x186.1)) rfl (Or.inl ⟨_, rfl⟩) rfl rfl (Nat.le_of_ble_eq_true rfl) rfl (Nat.le_of_ble_eq_true rfl) hkx186 ((dc_m_winters hcall).up (by decide)) ?_
        refine tb_b_ceq rfl (fun hc => ?_) (fun hc => ?_)
        · rw [if_pos hc] at h
          refine tb_Es (k := 3) (st' := (11, [(0, .ref v0), (1, .ref v1), (2, .ref v2), (3, .int (v3 + 6))], [], x186.2)) rfl ?_
          exact ih v0 v1 v2 (v3 + 6) x186.2 _ h r hx
        · rw [if_neg hc] at h
          refine tb_Es (k := 1) (st' := (853, [], [], x186.2)) rfl ?_
          exact dj_lw_law_j818 (fl_lw_law_10 n)  x186.2 _ h r hx (fun v0_ v1_ v2_ v3_ w_ h_ => ih v0_ v1_ v2_ v3_ w_ _ h_ r hx)
      rw [if_neg hc] at h
      refine tb_w_one (k := 34) (by decide) (fun hc => ?_) (fun hc => ?_)
      · rw [if_pos hc] at h
        refine tb_Es (k := 5) (st' := (860, [(0, .ref v0), (1, .ref v1), (2, .ref v2), (3, .int v3)], [.int (v3 + 1), .ref v0, .ref v1], w)) rfl ?_
        replace h := Option.bind_eq_some_iff.mp h
        obtain ⟨x187, ex187, h⟩ := h
        refine tb_e_lI rfl (Or.inl ⟨rfl, rfl⟩) ex187 ?_
        replace h := Option.bind_eq_some_iff.mp h
        obtain ⟨x188, ex188, h⟩ := h
        obtain ⟨hkx188, hcall⟩ := tb_on_some ex188
        refine tb_e_cv (v := some (.int x188.1)) rfl (Or.inl ⟨_, rfl⟩) rfl rfl (Nat.le_of_ble_eq_true rfl) rfl (Nat.le_of_ble_eq_true rfl) hkx188 ((dc_x_count hcall).up (by decide)) ?_
        refine tb_Es (k := 5) (st' := (867, [(0, .ref v0), (1, .ref v1), (2, .ref v2), (3, .int v3)], [.int (v3 + 1), .ref v0, .ref v2, .int x188.1], x188.2)) rfl ?_
        replace h := Option.bind_eq_some_iff.mp h
        obtain ⟨x189, ex189, h⟩ := h
        refine tb_e_lI rfl (Or.inl ⟨rfl, rfl⟩) ex189 ?_
        replace h := Option.bind_eq_some_iff.mp h
        obtain ⟨x190, ex190, h⟩ := h
        obtain ⟨hkx190, hcall⟩ := tb_on_some ex190
        refine tb_e_cv (v := some (.int x190.1)) rfl (Or.inl ⟨_, rfl⟩) rfl rfl (Nat.le_of_ble_eq_true rfl) rfl (Nat.le_of_ble_eq_true rfl) hkx190 ((dc_m_count hcall).up (by decide)) ?_
        refine tb_b_ceq rfl (fun hc => ?_) (fun hc => ?_)
        · rw [if_pos hc] at h
          refine tb_Es (k := 3) (st' := (11, [(0, .ref v0), (1, .ref v1), (2, .ref v2), (3, .int (v3 + 6))], [], x190.2)) rfl ?_
          exact ih v0 v1 v2 (v3 + 6) x190.2 _ h r hx
        · rw [if_neg hc] at h
          refine tb_Es (k := 1) (st' := (871, [], [], x190.2)) rfl ?_
          exact dj_lw_law_j835 (fl_lw_law_10 n)  x190.2 _ h r hx (fun v0_ v1_ v2_ v3_ w_ h_ => ih v0_ v1_ v2_ v3_ w_ _ h_ r hx)
      rw [if_neg hc] at h
      refine tb_w_one (k := 35) (by decide) (fun hc => ?_) (fun hc => ?_)
      · rw [if_pos hc] at h
        refine tb_Es (k := 5) (st' := (878, [(0, .ref v0), (1, .ref v1), (2, .ref v2), (3, .int v3)], [.int (v3 + 1), .ref v0, .ref v1], w)) rfl ?_
        replace h := Option.bind_eq_some_iff.mp h
        obtain ⟨x191, ex191, h⟩ := h
        refine tb_e_lI rfl (Or.inl ⟨rfl, rfl⟩) ex191 ?_
        replace h := Option.bind_eq_some_iff.mp h
        obtain ⟨x192, ex192, h⟩ := h
        obtain ⟨hkx192, hcall⟩ := tb_on_some ex192
        refine tb_e_cv (v := some (.int x192.1)) rfl (Or.inl ⟨_, rfl⟩) rfl rfl (Nat.le_of_ble_eq_true rfl) rfl (Nat.le_of_ble_eq_true rfl) hkx192 ((dc_x_image hcall).up (by decide)) ?_
        refine tb_Es (k := 5) (st' := (885, [(0, .ref v0), (1, .ref v1), (2, .ref v2), (3, .int v3)], [.int (v3 + 1), .ref v0, .ref v2, .int x192.1], x192.2)) rfl ?_
        replace h := Option.bind_eq_some_iff.mp h
        obtain ⟨x193, ex193, h⟩ := h
        refine tb_e_lI rfl (Or.inl ⟨rfl, rfl⟩) ex193 ?_
        replace h := Option.bind_eq_some_iff.mp h
        obtain ⟨x194, ex194, h⟩ := h
        obtain ⟨hkx194, hcall⟩ := tb_on_some ex194
        refine tb_e_cv (v := some (.int x194.1)) rfl (Or.inl ⟨_, rfl⟩) rfl rfl (Nat.le_of_ble_eq_true rfl) rfl (Nat.le_of_ble_eq_true rfl) hkx194 ((dc_m_image hcall).up (by decide)) ?_
        refine tb_b_ceq rfl (fun hc => ?_) (fun hc => ?_)
        · rw [if_pos hc] at h
          refine tb_Es (k := 3) (st' := (11, [(0, .ref v0), (1, .ref v1), (2, .ref v2), (3, .int (v3 + 6))], [], x194.2)) rfl ?_
          exact ih v0 v1 v2 (v3 + 6) x194.2 _ h r hx
        · rw [if_neg hc] at h
          refine tb_Es (k := 1) (st' := (889, [], [], x194.2)) rfl ?_
          exact dj_lw_law_j852 (fl_lw_law_10 n)  x194.2 _ h r hx (fun v0_ v1_ v2_ v3_ w_ h_ => ih v0_ v1_ v2_ v3_ w_ _ h_ r hx)
      rw [if_neg hc] at h
      refine tb_w_one (k := 36) (by decide) (fun hc => ?_) (fun hc => ?_)
      · rw [if_pos hc] at h
        refine tb_Es (k := 5) (st' := (896, [(0, .ref v0), (1, .ref v1), (2, .ref v2), (3, .int v3)], [.int (v3 + 1), .ref v0, .ref v1], w)) rfl ?_
        replace h := Option.bind_eq_some_iff.mp h
        obtain ⟨x195, ex195, h⟩ := h
        refine tb_e_lI rfl (Or.inl ⟨rfl, rfl⟩) ex195 ?_
        replace h := Option.bind_eq_some_iff.mp h
        obtain ⟨x196, ex196, h⟩ := h
        obtain ⟨hkx196, hcall⟩ := tb_on_some ex196
        refine tb_e_cv (v := some (.int x196.1)) rfl (Or.inl ⟨_, rfl⟩) rfl rfl (Nat.le_of_ble_eq_true rfl) rfl (Nat.le_of_ble_eq_true rfl) hkx196 ((dc_x_back hcall).up (by decide)) ?_
        refine tb_Es (k := 5) (st' := (903, [(0, .ref v0), (1, .ref v1), (2, .ref v2), (3, .int v3)], [.int (v3 + 1), .ref v0, .ref v2, .int x196.1], x196.2)) rfl ?_
        replace h := Option.bind_eq_some_iff.mp h
        obtain ⟨x197, ex197, h⟩ := h
        refine tb_e_lI rfl (Or.inl ⟨rfl, rfl⟩) ex197 ?_
        replace h := Option.bind_eq_some_iff.mp h
        obtain ⟨x198, ex198, h⟩ := h
        obtain ⟨hkx198, hcall⟩ := tb_on_some ex198
        refine tb_e_cv (v := some (.int x198.1)) rfl (Or.inl ⟨_, rfl⟩) rfl rfl (Nat.le_of_ble_eq_true rfl) rfl (Nat.le_of_ble_eq_true rfl) hkx198 ((dc_m_back hcall).up (by decide)) ?_
        refine tb_b_ceq rfl (fun hc => ?_) (fun hc => ?_)
        · rw [if_pos hc] at h
          refine tb_Es (k := 3) (st' := (11, [(0, .ref v0), (1, .ref v1), (2, .ref v2), (3, .int (v3 + 6))], [], x198.2)) rfl ?_
          exact ih v0 v1 v2 (v3 + 6) x198.2 _ h r hx
        · rw [if_neg hc] at h
          refine tb_Es (k := 1) (st' := (907, [], [], x198.2)) rfl ?_
          exact dj_lw_law_j869 (fl_lw_law_10 n)  x198.2 _ h r hx (fun v0_ v1_ v2_ v3_ w_ h_ => ih v0_ v1_ v2_ v3_ w_ _ h_ r hx)
      rw [if_neg hc] at h
      refine tb_w_end ?_
      refine tb_Es (k := 3) (st' := (11, [(0, .ref v0), (1, .ref v1), (2, .ref v2), (3, .int (v3 + 6))], [], w)) rfl ?_
      exact ih v0 v1 v2 (v3 + 6) w _ h r hx
    · rw [if_neg hc] at h
      refine tb_Es (k := 1) (st' := (912, [], [], w)) rfl ?_
      exact dj_lw_law_j873 (fl_lw_law_10 n)  w _ h r hx (fun v0_ v1_ v2_ v3_ w_ h_ => ih v0_ v1_ v2_ v3_ w_ _ h_ r hx)
def fb_lw_law (a0 : Nat) (w : tb_Hp) : Option (Int32 × tb_Hp) := (tb_on 21 w.1.length (tb_new w 21 12) (fb_x_init w.1.length (tb_new w 21 12))).bind fun x2 => (tb_on 22 x2.1.length (tb_new x2 22 36) (fb_m_init x2.1.length (tb_new x2 22 36))).bind fun x4 => (fl_lw_law_10 1048576 a0 w.1.length x2.1.length 0 x4).bind fun o199 => some o199
set_option maxHeartbeats 4000000 in
set_option maxRecDepth 20000 in
theorem dc_lw_law {a0 : Nat} {w : tb_Hp} {o : Int32 × tb_Hp} (h : fb_lw_law a0 w = some o) : tb_Ev tb_P 68 299 (0, tb_ent [.ref a0], [], w) (some (.int o.1), o.2) := by
  unfold fb_lw_law at h
  obtain ⟨r, hr⟩ : ∃ r : Option Value × tb_Hp, r = (some (.int o.1), o.2) := ⟨_, rfl⟩
  rw [← hr]
  show tb_Ev tb_P 68 299 (0, [(0, .ref a0)], [], w) r
  refine tb_Es (k := 2) (st' := (2, [(0, .ref a0)], [.ref w.1.length, .ref w.1.length], (tb_new w 21 12))) rfl ?_
  replace h := Option.bind_eq_some_iff.mp h
  obtain ⟨x2, ex2, h⟩ := h
  obtain ⟨hkx2, hcall⟩ := tb_on_some ex2
  refine tb_e_cv (v := none) rfl (Or.inr ⟨_, rfl⟩) rfl rfl (Nat.le_of_ble_eq_true rfl) rfl (Nat.le_of_ble_eq_true rfl) hkx2 ((dc_x_init hcall).up (by decide)) ?_
  refine tb_Es (k := 3) (st' := (6, [(1, .ref w.1.length), (0, .ref a0)], [.ref x2.1.length, .ref x2.1.length], (tb_new x2 22 36))) rfl ?_
  replace h := Option.bind_eq_some_iff.mp h
  obtain ⟨x4, ex4, h⟩ := h
  obtain ⟨hkx4, hcall⟩ := tb_on_some ex4
  refine tb_e_cv (v := none) rfl (Or.inr ⟨_, rfl⟩) rfl rfl (Nat.le_of_ble_eq_true rfl) rfl (Nat.le_of_ble_eq_true rfl) hkx4 ((dc_m_init hcall).up (by decide)) ?_
  refine tb_Es (k := 4) (st' := (11, [(0, .ref a0), (1, .ref w.1.length), (2, .ref x2.1.length), (3, .int 0)], [], x4)) rfl ?_
  replace h := Option.bind_eq_some_iff.mp h
  obtain ⟨o199, eo199, h⟩ := h
  refine dl_lw_law_10 _ a0 w.1.length x2.1.length 0 x4 _ eo199 r ?_
  obtain rfl := Option.some.inj h
  exact hr
