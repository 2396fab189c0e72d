def V_L_law_1694 (G : Gx) (b L : Nat) (xs : Nat → Int32) (k_23 : Nat → Nat → Nat → Int32 → Mm → Prop) (x1 : Nat) (x2 : Nat) (x3 : Nat) (x4 : Int32) (u : Mm) : Prop :=
  ∀ x4_1694 : Int32, x4_1694 = x4 + (7 : Int32) → k_23 x1 x2 x3 x4_1694 u
def V_L_law_1681 (G : Gx) (b L : Nat) (xs : Nat → Int32) (k_23 : Nat → Nat → Nat → Int32 → Mm → Prop) (x1 : Nat) (x2 : Nat) (x3 : Nat) (x4 : Int32) (u : Mm) : Prop :=
  kd G x1 = 11 ∧ V_X11_restore G x1 u (fun (v_1682 : Int32) (u_1682 : Mm) => kd G x2 = 12 ∧ V_X12_restore G x2 u_1682 (fun (v_1686 : Int32) (u_1686 : Mm) => ((v_1682 = v_1686 → V_L_law_1694 G b L xs k_23 x1 x2 x3 x4 u_1686) ∧ (¬ v_1682 = v_1686 → False))))
def V_L_law_1670 (G : Gx) (b L : Nat) (xs : Nat → Int32) (k_23 : Nat → Nat → Nat → Int32 → Mm → Prop) (x1 : Nat) (x2 : Nat) (x3 : Nat) (x4 : Int32) (u : Mm) : Prop :=
  kd G x1 = 11 ∧ V_X11_image G x1 u (fun (u_1671 : Mm) => kd G x2 = 12 ∧ V_X12_image G x2 u_1671 (fun (u_1675 : Mm) => V_L_law_1694 G b L xs k_23 x1 x2 x3 x4 u_1675))
def V_L_law_1659 (G : Gx) (b L : Nat) (xs : Nat → Int32) (k_23 : Nat → Nat → Nat → Int32 → Mm → Prop) (x1 : Nat) (x2 : Nat) (x3 : Nat) (x4 : Int32) (u : Mm) : Prop :=
  kd G x1 = 11 ∧ V_X11_clear G x1 u (fun (u_1660 : Mm) => kd G x2 = 12 ∧ V_X12_clear G x2 u_1660 (fun (u_1664 : Mm) => V_L_law_1694 G b L xs k_23 x1 x2 x3 x4 u_1664))
def V_L_law_1656 (G : Gx) (b L : Nat) (xs : Nat → Int32) (k_23 : Nat → Nat → Nat → Int32 → Mm → Prop) (x1 : Nat) (x2 : Nat) (x3 : Nat) (x4 : Int32) (u : Mm) : Prop :=
  V_L_law_1694 G b L xs k_23 x1 x2 x3 x4 u
def V_L_law_1567 (G : Gx) (b L : Nat) (xs : Nat → Int32) (k_23 : Nat → Nat → Nat → Int32 → Mm → Prop) (x1 : Nat) (x2 : Nat) (x3 : Nat) (x4 : Int32) (u : Mm) : Prop :=
  vp_in (x4 + (1 : Int32)) L ∧ vp_in (x4 + (2 : Int32)) L ∧ vp_in (x4 + (3 : Int32)) L ∧ vp_in (x4 + (4 : Int32)) L ∧ V_L_word G x1 (xs (x4 + (1 : Int32)).toNatClampNeg) (xs (x4 + (2 : Int32)).toNatClampNeg) (xs (x4 + (3 : Int32)).toNatClampNeg) (xs (x4 + (4 : Int32)).toNatClampNeg) x3 u (fun (v_1593 : Int32) (u_1593 : Mm) => kd G x2 = 12 ∧ V_X12_word G x2 (xs (x4 + (1 : Int32)).toNatClampNeg) (xs (x4 + (2 : Int32)).toNatClampNeg) (xs (x4 + (3 : Int32)).toNatClampNeg) (xs (x4 + (4 : Int32)).toNatClampNeg) u_1593 (fun (v_1623 : Int32) (u_1623 : Mm) => V_X12_thrown G x2 u_1623 (fun (v_1629 : Int32) (u_1629 : Mm) => ((v_1629 = v_1593 → ((v_1593 = 0 → kd G x3 = 15 ∧ vp_in (0 : Int32) (ln G x3) ∧ (((lg_cmp (gL u_1629 x3 (0 : Int32).toNatClampNeg) (v_1623.toInt64)) = 0 → V_L_law_1656 G b L xs k_23 x1 x2 x3 x4 u_1629) ∧ (¬ (lg_cmp (gL u_1629 x3 (0 : Int32).toNatClampNeg) (v_1623.toInt64)) = 0 → False))) ∧ (¬ v_1593 = 0 → V_L_law_1656 G b L xs k_23 x1 x2 x3 x4 u_1629))) ∧ (¬ v_1629 = v_1593 → False)))))
def V_L_law_1564 (G : Gx) (b L : Nat) (xs : Nat → Int32) (k_23 : Nat → Nat → Nat → Int32 → Mm → Prop) (x1 : Nat) (x2 : Nat) (x3 : Nat) (x4 : Int32) (u : Mm) : Prop :=
  V_L_law_1694 G b L xs k_23 x1 x2 x3 x4 u
def V_L_law_1463 (G : Gx) (b L : Nat) (xs : Nat → Int32) (k_23 : Nat → Nat → Nat → Int32 → Mm → Prop) (x1 : Nat) (x2 : Nat) (x3 : Nat) (x4 : Int32) (u : Mm) : Prop :=
  vp_in (x4 + (1 : Int32)) L ∧ vp_in (x4 + (2 : Int32)) L ∧ vp_in (x4 + (3 : Int32)) L ∧ vp_in (x4 + (4 : Int32)) L ∧ vp_in (x4 + (5 : Int32)) L ∧ V_L_knows G x1 (xs (x4 + (1 : Int32)).toNatClampNeg) (xs (x4 + (2 : Int32)).toNatClampNeg) (xs (x4 + (3 : Int32)).toNatClampNeg) (xs (x4 + (4 : Int32)).toNatClampNeg) (xs (x4 + (5 : Int32)).toNatClampNeg) x3 u (fun (v_1495 : Int32) (u_1495 : Mm) => kd G x2 = 12 ∧ V_X12_knows G x2 (xs (x4 + (1 : Int32)).toNatClampNeg) (xs (x4 + (2 : Int32)).toNatClampNeg) (xs (x4 + (3 : Int32)).toNatClampNeg) (xs (x4 + (4 : Int32)).toNatClampNeg) (xs (x4 + (5 : Int32)).toNatClampNeg) u_1495 (fun (v_1531 : Int32) (u_1531 : Mm) => V_X12_thrown G x2 u_1531 (fun (v_1537 : Int32) (u_1537 : Mm) => ((v_1537 = v_1495 → ((v_1495 = 0 → kd G x3 = 15 ∧ vp_in (0 : Int32) (ln G x3) ∧ (((lg_cmp (gL u_1537 x3 (0 : Int32).toNatClampNeg) (v_1531.toInt64)) = 0 → V_L_law_1564 G b L xs k_23 x1 x2 x3 x4 u_1537) ∧ (¬ (lg_cmp (gL u_1537 x3 (0 : Int32).toNatClampNeg) (v_1531.toInt64)) = 0 → False))) ∧ (¬ v_1495 = 0 → V_L_law_1564 G b L xs k_23 x1 x2 x3 x4 u_1537))) ∧ (¬ v_1537 = v_1495 → False)))))
def V_L_law_1460 (G : Gx) (b L : Nat) (xs : Nat → Int32) (k_23 : Nat → Nat → Nat → Int32 → Mm → Prop) (x1 : Nat) (x2 : Nat) (x3 : Nat) (x4 : Int32) (u : Mm) : Prop :=
  V_L_law_1694 G b L xs k_23 x1 x2 x3 x4 u
def V_L_law_1371 (G : Gx) (b L : Nat) (xs : Nat → Int32) (k_23 : Nat → Nat → Nat → Int32 → Mm → Prop) (x1 : Nat) (x2 : Nat) (x3 : Nat) (x4 : Int32) (u : Mm) : Prop :=
  vp_in (x4 + (1 : Int32)) L ∧ vp_in (x4 + (2 : Int32)) L ∧ vp_in (x4 + (3 : Int32)) L ∧ vp_in (x4 + (4 : Int32)) L ∧ V_L_next G x1 (xs (x4 + (1 : Int32)).toNatClampNeg) (xs (x4 + (2 : Int32)).toNatClampNeg) (xs (x4 + (3 : Int32)).toNatClampNeg) (xs (x4 + (4 : Int32)).toNatClampNeg) x3 u (fun (v_1397 : Int32) (u_1397 : Mm) => kd G x2 = 12 ∧ V_X12_next G x2 (xs (x4 + (1 : Int32)).toNatClampNeg) (xs (x4 + (2 : Int32)).toNatClampNeg) (xs (x4 + (3 : Int32)).toNatClampNeg) (xs (x4 + (4 : Int32)).toNatClampNeg) u_1397 (fun (v_1427 : Int32) (u_1427 : Mm) => V_X12_thrown G x2 u_1427 (fun (v_1433 : Int32) (u_1433 : Mm) => ((v_1433 = v_1397 → ((v_1397 = 0 → kd G x3 = 15 ∧ vp_in (0 : Int32) (ln G x3) ∧ (((lg_cmp (gL u_1433 x3 (0 : Int32).toNatClampNeg) (v_1427.toInt64)) = 0 → V_L_law_1460 G b L xs k_23 x1 x2 x3 x4 u_1433) ∧ (¬ (lg_cmp (gL u_1433 x3 (0 : Int32).toNatClampNeg) (v_1427.toInt64)) = 0 → False))) ∧ (¬ v_1397 = 0 → V_L_law_1460 G b L xs k_23 x1 x2 x3 x4 u_1433))) ∧ (¬ v_1433 = v_1397 → False)))))
def V_L_law_1334 (G : Gx) (b L : Nat) (xs : Nat → Int32) (k_23 : Nat → Nat → Nat → Int32 → Mm → Prop) (x1 : Nat) (x2 : Nat) (x3 : Nat) (x4 : Int32) (u : Mm) : Prop :=
  vp_in (x4 + (1 : Int32)) L ∧ vp_in (x4 + (2 : Int32)) L ∧ kd G x1 = 11 ∧ V_X11_spot G x1 (xs (x4 + (1 : Int32)).toNatClampNeg) (xs (x4 + (2 : Int32)).toNatClampNeg) u (fun (v_1347 : Int32) (u_1347 : Mm) => kd G x2 = 12 ∧ V_X12_spot G x2 (xs (x4 + (1 : Int32)).toNatClampNeg) (xs (x4 + (2 : Int32)).toNatClampNeg) u_1347 (fun (v_1363 : Int32) (u_1363 : Mm) => ((v_1347 = v_1363 → V_L_law_1694 G b L xs k_23 x1 x2 x3 x4 u_1363) ∧ (¬ v_1347 = v_1363 → False))))
def V_L_law_1331 (G : Gx) (b L : Nat) (xs : Nat → Int32) (k_23 : Nat → Nat → Nat → Int32 → Mm → Prop) (x1 : Nat) (x2 : Nat) (x3 : Nat) (x4 : Int32) (u : Mm) : Prop :=
  V_L_law_1694 G b L xs k_23 x1 x2 x3 x4 u
def V_L_law_1254 (G : Gx) (b L : Nat) (xs : Nat → Int32) (k_23 : Nat → Nat → Nat → Int32 → Mm → Prop) (x1 : Nat) (x2 : Nat) (x3 : Nat) (x4 : Int32) (u : Mm) : Prop :=
  vp_in (x4 + (1 : Int32)) L ∧ vp_in (x4 + (2 : Int32)) L ∧ vp_in (x4 + (3 : Int32)) L ∧ V_L_plans G x1 (xs (x4 + (1 : Int32)).toNatClampNeg) (xs (x4 + (2 : Int32)).toNatClampNeg) (xs (x4 + (3 : Int32)).toNatClampNeg) x3 u (fun (v_1274 : Int32) (u_1274 : Mm) => kd G x2 = 12 ∧ V_X12_plans G x2 (xs (x4 + (1 : Int32)).toNatClampNeg) (xs (x4 + (2 : Int32)).toNatClampNeg) (xs (x4 + (3 : Int32)).toNatClampNeg) u_1274 (fun (v_1298 : Int32) (u_1298 : Mm) => V_X12_thrown G x2 u_1298 (fun (v_1304 : Int32) (u_1304 : Mm) => ((v_1304 = v_1274 → ((v_1274 = 0 → kd G x3 = 15 ∧ vp_in (0 : Int32) (ln G x3) ∧ (((lg_cmp (gL u_1304 x3 (0 : Int32).toNatClampNeg) (v_1298.toInt64)) = 0 → V_L_law_1331 G b L xs k_23 x1 x2 x3 x4 u_1304) ∧ (¬ (lg_cmp (gL u_1304 x3 (0 : Int32).toNatClampNeg) (v_1298.toInt64)) = 0 → False))) ∧ (¬ v_1274 = 0 → V_L_law_1331 G b L xs k_23 x1 x2 x3 x4 u_1304))) ∧ (¬ v_1304 = v_1274 → False)))))
def V_L_law_1251 (G : Gx) (b L : Nat) (xs : Nat → Int32) (k_23 : Nat → Nat → Nat → Int32 → Mm → Prop) (x1 : Nat) (x2 : Nat) (x3 : Nat) (x4 : Int32) (u : Mm) : Prop :=
  V_L_law_1694 G b L xs k_23 x1 x2 x3 x4 u
def V_L_law_1186 (G : Gx) (b L : Nat) (xs : Nat → Int32) (k_23 : Nat → Nat → Nat → Int32 → Mm → Prop) (x1 : Nat) (x2 : Nat) (x3 : Nat) (x4 : Int32) (u : Mm) : Prop :=
  vp_in (x4 + (1 : Int32)) L ∧ vp_in (x4 + (2 : Int32)) L ∧ V_L_gone G x1 (xs (x4 + (1 : Int32)).toNatClampNeg) (xs (x4 + (2 : Int32)).toNatClampNeg) x3 u (fun (v_1200 : Int32) (u_1200 : Mm) => kd G x2 = 12 ∧ V_X12_gone G x2 (xs (x4 + (1 : Int32)).toNatClampNeg) (xs (x4 + (2 : Int32)).toNatClampNeg) u_1200 (fun (v_1218 : Int32) (u_1218 : Mm) => V_X12_thrown G x2 u_1218 (fun (v_1224 : Int32) (u_1224 : Mm) => ((v_1224 = v_1200 → ((v_1200 = 0 → kd G x3 = 15 ∧ vp_in (0 : Int32) (ln G x3) ∧ (((lg_cmp (gL u_1224 x3 (0 : Int32).toNatClampNeg) (v_1218.toInt64)) = 0 → V_L_law_1251 G b L xs k_23 x1 x2 x3 x4 u_1224) ∧ (¬ (lg_cmp (gL u_1224 x3 (0 : Int32).toNatClampNeg) (v_1218.toInt64)) = 0 → False))) ∧ (¬ v_1200 = 0 → V_L_law_1251 G b L xs k_23 x1 x2 x3 x4 u_1224))) ∧ (¬ v_1224 = v_1200 → False)))))
def V_L_law_1183 (G : Gx) (b L : Nat) (xs : Nat → Int32) (k_23 : Nat → Nat → Nat → Int32 → Mm → Prop) (x1 : Nat) (x2 : Nat) (x3 : Nat) (x4 : Int32) (u : Mm) : Prop :=
  V_L_law_1694 G b L xs k_23 x1 x2 x3 x4 u
def V_L_law_1094 (G : Gx) (b L : Nat) (xs : Nat → Int32) (k_23 : Nat → Nat → Nat → Int32 → Mm → Prop) (x1 : Nat) (x2 : Nat) (x3 : Nat) (x4 : Int32) (u : Mm) : Prop :=
  vp_in (x4 + (1 : Int32)) L ∧ vp_in (x4 + (2 : Int32)) L ∧ vp_in (x4 + (3 : Int32)) L ∧ vp_in (x4 + (4 : Int32)) L ∧ V_L_whose G x1 (xs (x4 + (1 : Int32)).toNatClampNeg) (xs (x4 + (2 : Int32)).toNatClampNeg) (xs (x4 + (3 : Int32)).toNatClampNeg) (xs (x4 + (4 : Int32)).toNatClampNeg) x3 u (fun (v_1120 : Int32) (u_1120 : Mm) => kd G x2 = 12 ∧ V_X12_whose G x2 (xs (x4 + (1 : Int32)).toNatClampNeg) (xs (x4 + (2 : Int32)).toNatClampNeg) (xs (x4 + (3 : Int32)).toNatClampNeg) (xs (x4 + (4 : Int32)).toNatClampNeg) u_1120 (fun (v_1150 : Int32) (u_1150 : Mm) => V_X12_thrown G x2 u_1150 (fun (v_1156 : Int32) (u_1156 : Mm) => ((v_1156 = v_1120 → ((v_1120 = 0 → kd G x3 = 15 ∧ vp_in (0 : Int32) (ln G x3) ∧ (((lg_cmp (gL u_1156 x3 (0 : Int32).toNatClampNeg) (v_1150.toInt64)) = 0 → V_L_law_1183 G b L xs k_23 x1 x2 x3 x4 u_1156) ∧ (¬ (lg_cmp (gL u_1156 x3 (0 : Int32).toNatClampNeg) (v_1150.toInt64)) = 0 → False))) ∧ (¬ v_1120 = 0 → V_L_law_1183 G b L xs k_23 x1 x2 x3 x4 u_1156))) ∧ (¬ v_1156 = v_1120 → False)))))
def V_L_law_1091 (G : Gx) (b L : Nat) (xs : Nat → Int32) (k_23 : Nat → Nat → Nat → Int32 → Mm → Prop) (x1 : Nat) (x2 : Nat) (x3 : Nat) (x4 : Int32) (u : Mm) : Prop :=
  V_L_law_1694 G b L xs k_23 x1 x2 x3 x4 u
def V_L_law_1014 (G : Gx) (b L : Nat) (xs : Nat → Int32) (k_23 : Nat → Nat → Nat → Int32 → Mm → Prop) (x1 : Nat) (x2 : Nat) (x3 : Nat) (x4 : Int32) (u : Mm) : Prop :=
  vp_in (x4 + (1 : Int32)) L ∧ vp_in (x4 + (2 : Int32)) L ∧ vp_in (x4 + (3 : Int32)) L ∧ V_L_airs G x1 (xs (x4 + (1 : Int32)).toNatClampNeg) (xs (x4 + (2 : Int32)).toNatClampNeg) (xs (x4 + (3 : Int32)).toNatClampNeg) x3 u (fun (v_1034 : Int32) (u_1034 : Mm) => kd G x2 = 12 ∧ V_X12_airs G x2 (xs (x4 + (1 : Int32)).toNatClampNeg) (xs (x4 + (2 : Int32)).toNatClampNeg) (xs (x4 + (3 : Int32)).toNatClampNeg) u_1034 (fun (v_1058 : Int32) (u_1058 : Mm) => V_X12_thrown G x2 u_1058 (fun (v_1064 : Int32) (u_1064 : Mm) => ((v_1064 = v_1034 → ((v_1034 = 0 → kd G x3 = 15 ∧ vp_in (0 : Int32) (ln G x3) ∧ (((lg_cmp (gL u_1064 x3 (0 : Int32).toNatClampNeg) (v_1058.toInt64)) = 0 → V_L_law_1091 G b L xs k_23 x1 x2 x3 x4 u_1064) ∧ (¬ (lg_cmp (gL u_1064 x3 (0 : Int32).toNatClampNeg) (v_1058.toInt64)) = 0 → False))) ∧ (¬ v_1034 = 0 → V_L_law_1091 G b L xs k_23 x1 x2 x3 x4 u_1064))) ∧ (¬ v_1064 = v_1034 → False)))))
def V_L_law_1011 (G : Gx) (b L : Nat) (xs : Nat → Int32) (k_23 : Nat → Nat → Nat → Int32 → Mm → Prop) (x1 : Nat) (x2 : Nat) (x3 : Nat) (x4 : Int32) (u : Mm) : Prop :=
  V_L_law_1694 G b L xs k_23 x1 x2 x3 x4 u
def V_L_law_934 (G : Gx) (b L : Nat) (xs : Nat → Int32) (k_23 : Nat → Nat → Nat → Int32 → Mm → Prop) (x1 : Nat) (x2 : Nat) (x3 : Nat) (x4 : Int32) (u : Mm) : Prop :=
  vp_in (x4 + (1 : Int32)) L ∧ vp_in (x4 + (2 : Int32)) L ∧ vp_in (x4 + (3 : Int32)) L ∧ V_L_where G x1 (xs (x4 + (1 : Int32)).toNatClampNeg) (xs (x4 + (2 : Int32)).toNatClampNeg) (xs (x4 + (3 : Int32)).toNatClampNeg) x3 u (fun (v_954 : Int32) (u_954 : Mm) => kd G x2 = 12 ∧ V_X12_where G x2 (xs (x4 + (1 : Int32)).toNatClampNeg) (xs (x4 + (2 : Int32)).toNatClampNeg) (xs (x4 + (3 : Int32)).toNatClampNeg) u_954 (fun (v_978 : Int32) (u_978 : Mm) => V_X12_thrown G x2 u_978 (fun (v_984 : Int32) (u_984 : Mm) => ((v_984 = v_954 → ((v_954 = 0 → kd G x3 = 15 ∧ vp_in (0 : Int32) (ln G x3) ∧ (((lg_cmp (gL u_984 x3 (0 : Int32).toNatClampNeg) (v_978.toInt64)) = 0 → V_L_law_1011 G b L xs k_23 x1 x2 x3 x4 u_984) ∧ (¬ (lg_cmp (gL u_984 x3 (0 : Int32).toNatClampNeg) (v_978.toInt64)) = 0 → False))) ∧ (¬ v_954 = 0 → V_L_law_1011 G b L xs k_23 x1 x2 x3 x4 u_984))) ∧ (¬ v_984 = v_954 → False)))))
def V_L_law_931 (G : Gx) (b L : Nat) (xs : Nat → Int32) (k_23 : Nat → Nat → Nat → Int32 → Mm → Prop) (x1 : Nat) (x2 : Nat) (x3 : Nat) (x4 : Int32) (u : Mm) : Prop :=
  V_L_law_1694 G b L xs k_23 x1 x2 x3 x4 u
def V_L_law_925 (G : Gx) (b L : Nat) (xs : Nat → Int32) (k_23 : Nat → Nat → Nat → Int32 → Mm → Prop) (x1 : Nat) (x2 : Nat) (x3 : Nat) (x4 : Int32) (t0 : Int64) (t1 : Int64) (u : Mm) : Prop :=
  (((lg_cmp t0 t1) = 0 → V_L_law_931 G b L xs k_23 x1 x2 x3 x4 u) ∧ (¬ (lg_cmp t0 t1) = 0 → False))
def V_L_law_859 (G : Gx) (b L : Nat) (xs : Nat → Int32) (k_23 : Nat → Nat → Nat → Int32 → Mm → Prop) (x1 : Nat) (x2 : Nat) (x3 : Nat) (x4 : Int32) (u : Mm) : Prop :=
  vp_in (x4 + (1 : Int32)) L ∧ vp_in (x4 + (2 : Int32)) L ∧ V_L_fits G x1 (xs (x4 + (1 : Int32)).toNatClampNeg) (xs (x4 + (2 : Int32)).toNatClampNeg) x3 u (fun (v_873 : Int32) (u_873 : Mm) => kd G x2 = 12 ∧ V_X12_fits G x2 (xs (x4 + (1 : Int32)).toNatClampNeg) (xs (x4 + (2 : Int32)).toNatClampNeg) u_873 (fun (v_891 : Int32) (u_891 : Mm) => V_X12_thrown G x2 u_891 (fun (v_897 : Int32) (u_897 : Mm) => ((v_897 = v_873 → ((v_873 = 0 → kd G x3 = 15 ∧ vp_in (0 : Int32) (ln G x3) ∧ ((v_891 = 0 → V_L_law_925 G b L xs k_23 x1 x2 x3 x4 (gL u_897 x3 (0 : Int32).toNatClampNeg) (0 : Int64) u_897) ∧ (¬ v_891 = 0 → V_L_law_925 G b L xs k_23 x1 x2 x3 x4 (gL u_897 x3 (0 : Int32).toNatClampNeg) (1 : Int64) u_897))) ∧ (¬ v_873 = 0 → V_L_law_931 G b L xs k_23 x1 x2 x3 x4 u_897))) ∧ (¬ v_897 = v_873 → False)))))
def V_L_law_856 (G : Gx) (b L : Nat) (xs : Nat → Int32) (k_23 : Nat → Nat → Nat → Int32 → Mm → Prop) (x1 : Nat) (x2 : Nat) (x3 : Nat) (x4 : Int32) (u : Mm) : Prop :=
  V_L_law_1694 G b L xs k_23 x1 x2 x3 x4 u
def V_L_law_791 (G : Gx) (b L : Nat) (xs : Nat → Int32) (k_23 : Nat → Nat → Nat → Int32 → Mm → Prop) (x1 : Nat) (x2 : Nat) (x3 : Nat) (x4 : Int32) (u : Mm) : Prop :=
  vp_in (x4 + (1 : Int32)) L ∧ vp_in (x4 + (2 : Int32)) L ∧ V_L_told G x1 (xs (x4 + (1 : Int32)).toNatClampNeg) (xs (x4 + (2 : Int32)).toNatClampNeg) x3 u (fun (v_805 : Int32) (u_805 : Mm) => kd G x2 = 12 ∧ V_X12_told G x2 (xs (x4 + (1 : Int32)).toNatClampNeg) (xs (x4 + (2 : Int32)).toNatClampNeg) u_805 (fun (v_823 : Int32) (u_823 : Mm) => V_X12_thrown G x2 u_823 (fun (v_829 : Int32) (u_829 : Mm) => ((v_829 = v_805 → ((v_805 = 0 → kd G x3 = 15 ∧ vp_in (0 : Int32) (ln G x3) ∧ (((lg_cmp (gL u_829 x3 (0 : Int32).toNatClampNeg) (v_823.toInt64)) = 0 → V_L_law_856 G b L xs k_23 x1 x2 x3 x4 u_829) ∧ (¬ (lg_cmp (gL u_829 x3 (0 : Int32).toNatClampNeg) (v_823.toInt64)) = 0 → False))) ∧ (¬ v_805 = 0 → V_L_law_856 G b L xs k_23 x1 x2 x3 x4 u_829))) ∧ (¬ v_829 = v_805 → False)))))
def V_L_law_788 (G : Gx) (b L : Nat) (xs : Nat → Int32) (k_23 : Nat → Nat → Nat → Int32 → Mm → Prop) (x1 : Nat) (x2 : Nat) (x3 : Nat) (x4 : Int32) (u : Mm) : Prop :=
  V_L_law_1694 G b L xs k_23 x1 x2 x3 x4 u
def V_L_law_723 (G : Gx) (b L : Nat) (xs : Nat → Int32) (k_23 : Nat → Nat → Nat → Int32 → Mm → Prop) (x1 : Nat) (x2 : Nat) (x3 : Nat) (x4 : Int32) (u : Mm) : Prop :=
  vp_in (x4 + (1 : Int32)) L ∧ vp_in (x4 + (2 : Int32)) L ∧ V_L_tick G x1 (xs (x4 + (1 : Int32)).toNatClampNeg) (xs (x4 + (2 : Int32)).toNatClampNeg) x3 u (fun (v_737 : Int32) (u_737 : Mm) => kd G x2 = 12 ∧ V_X12_tick G x2 (xs (x4 + (1 : Int32)).toNatClampNeg) (xs (x4 + (2 : Int32)).toNatClampNeg) u_737 (fun (v_755 : Int32) (u_755 : Mm) => V_X12_thrown G x2 u_755 (fun (v_761 : Int32) (u_761 : Mm) => ((v_761 = v_737 → ((v_737 = 0 → kd G x3 = 15 ∧ vp_in (0 : Int32) (ln G x3) ∧ (((lg_cmp (gL u_761 x3 (0 : Int32).toNatClampNeg) (v_755.toInt64)) = 0 → V_L_law_788 G b L xs k_23 x1 x2 x3 x4 u_761) ∧ (¬ (lg_cmp (gL u_761 x3 (0 : Int32).toNatClampNeg) (v_755.toInt64)) = 0 → False))) ∧ (¬ v_737 = 0 → V_L_law_788 G b L xs k_23 x1 x2 x3 x4 u_761))) ∧ (¬ v_761 = v_737 → False)))))
def V_L_law_662 (G : Gx) (b L : Nat) (xs : Nat → Int32) (k_23 : Nat → Nat → Nat → Int32 → Mm → Prop) (x1 : Nat) (x2 : Nat) (x3 : Nat) (x4 : Int32) (u : Mm) : Prop :=
  vp_in (x4 + (1 : Int32)) L ∧ vp_in (x4 + (2 : Int32)) L ∧ vp_in (x4 + (3 : Int32)) L ∧ vp_in (x4 + (4 : Int32)) L ∧ kd G x1 = 11 ∧ V_X11_station G x1 (xs (x4 + (1 : Int32)).toNatClampNeg) (xs (x4 + (2 : Int32)).toNatClampNeg) (xs (x4 + (3 : Int32)).toNatClampNeg) (xs (x4 + (4 : Int32)).toNatClampNeg) u (fun (v_687 : Int32) (u_687 : Mm) => kd G x2 = 12 ∧ V_X12_station G x2 (xs (x4 + (1 : Int32)).toNatClampNeg) (xs (x4 + (2 : Int32)).toNatClampNeg) (xs (x4 + (3 : Int32)).toNatClampNeg) (xs (x4 + (4 : Int32)).toNatClampNeg) u_687 (fun (v_715 : Int32) (u_715 : Mm) => ((v_687 = v_715 → V_L_law_1694 G b L xs k_23 x1 x2 x3 x4 u_715) ∧ (¬ v_687 = v_715 → False))))
def V_L_law_659 (G : Gx) (b L : Nat) (xs : Nat → Int32) (k_23 : Nat → Nat → Nat → Int32 → Mm → Prop) (x1 : Nat) (x2 : Nat) (x3 : Nat) (x4 : Int32) (u : Mm) : Prop :=
  V_L_law_1694 G b L xs k_23 x1 x2 x3 x4 u
def V_L_law_544 (G : Gx) (b L : Nat) (xs : Nat → Int32) (k_23 : Nat → Nat → Nat → Int32 → Mm → Prop) (x1 : Nat) (x2 : Nat) (x3 : Nat) (x4 : Int32) (u : Mm) : Prop :=
  vp_in (x4 + (1 : Int32)) L ∧ vp_in (x4 + (2 : Int32)) L ∧ vp_in (x4 + (3 : Int32)) L ∧ vp_in (x4 + (4 : Int32)) L ∧ vp_in (x4 + (5 : Int32)) L ∧ vp_in (x4 + (6 : Int32)) L ∧ V_L_strength G x1 (xs (x4 + (1 : Int32)).toNatClampNeg) (xs (x4 + (2 : Int32)).toNatClampNeg) (xs (x4 + (3 : Int32)).toNatClampNeg) (xs (x4 + (4 : Int32)).toNatClampNeg) (xs (x4 + (5 : Int32)).toNatClampNeg) (xs (x4 + (6 : Int32)).toNatClampNeg) x3 u (fun (v_583 : Int32) (u_583 : Mm) => kd G x2 = 12 ∧ V_X12_strength G x2 (xs (x4 + (1 : Int32)).toNatClampNeg) (xs (x4 + (2 : Int32)).toNatClampNeg) (xs (x4 + (3 : Int32)).toNatClampNeg) (xs (x4 + (4 : Int32)).toNatClampNeg) (xs (x4 + (5 : Int32)).toNatClampNeg) (xs (x4 + (6 : Int32)).toNatClampNeg) u_583 (fun (v_626 : Int32) (u_626 : Mm) => V_X12_thrown G x2 u_626 (fun (v_632 : Int32) (u_632 : Mm) => ((v_632 = v_583 → ((v_583 = 0 → kd G x3 = 15 ∧ vp_in (0 : Int32) (ln G x3) ∧ (((lg_cmp (gL u_632 x3 (0 : Int32).toNatClampNeg) (v_626.toInt64)) = 0 → V_L_law_659 G b L xs k_23 x1 x2 x3 x4 u_632) ∧ (¬ (lg_cmp (gL u_632 x3 (0 : Int32).toNatClampNeg) (v_626.toInt64)) = 0 → False))) ∧ (¬ v_583 = 0 → V_L_law_659 G b L xs k_23 x1 x2 x3 x4 u_632))) ∧ (¬ v_632 = v_583 → False)))))
def V_L_law_541 (G : Gx) (b L : Nat) (xs : Nat → Int32) (k_23 : Nat → Nat → Nat → Int32 → Mm → Prop) (x1 : Nat) (x2 : Nat) (x3 : Nat) (x4 : Int32) (u : Mm) : Prop :=
  V_L_law_1694 G b L xs k_23 x1 x2 x3 x4 u
def V_L_law_426 (G : Gx) (b L : Nat) (xs : Nat → Int32) (k_23 : Nat → Nat → Nat → Int32 → Mm → Prop) (x1 : Nat) (x2 : Nat) (x3 : Nat) (x4 : Int32) (u : Mm) : Prop :=
  vp_in (x4 + (1 : Int32)) L ∧ vp_in (x4 + (2 : Int32)) L ∧ vp_in (x4 + (3 : Int32)) L ∧ vp_in (x4 + (4 : Int32)) L ∧ vp_in (x4 + (5 : Int32)) L ∧ vp_in (x4 + (6 : Int32)) L ∧ V_L_clap G x1 (xs (x4 + (1 : Int32)).toNatClampNeg) (xs (x4 + (2 : Int32)).toNatClampNeg) (xs (x4 + (3 : Int32)).toNatClampNeg) (xs (x4 + (4 : Int32)).toNatClampNeg) (xs (x4 + (5 : Int32)).toNatClampNeg) (xs (x4 + (6 : Int32)).toNatClampNeg) x3 u (fun (v_465 : Int32) (u_465 : Mm) => kd G x2 = 12 ∧ V_X12_clap G x2 (xs (x4 + (1 : Int32)).toNatClampNeg) (xs (x4 + (2 : Int32)).toNatClampNeg) (xs (x4 + (3 : Int32)).toNatClampNeg) (xs (x4 + (4 : Int32)).toNatClampNeg) (xs (x4 + (5 : Int32)).toNatClampNeg) (xs (x4 + (6 : Int32)).toNatClampNeg) u_465 (fun (v_508 : Int32) (u_508 : Mm) => V_X12_thrown G x2 u_508 (fun (v_514 : Int32) (u_514 : Mm) => ((v_514 = v_465 → ((v_465 = 0 → kd G x3 = 15 ∧ vp_in (0 : Int32) (ln G x3) ∧ (((lg_cmp (gL u_514 x3 (0 : Int32).toNatClampNeg) (v_508.toInt64)) = 0 → V_L_law_541 G b L xs k_23 x1 x2 x3 x4 u_514) ∧ (¬ (lg_cmp (gL u_514 x3 (0 : Int32).toNatClampNeg) (v_508.toInt64)) = 0 → False))) ∧ (¬ v_465 = 0 → V_L_law_541 G b L xs k_23 x1 x2 x3 x4 u_514))) ∧ (¬ v_514 = v_465 → False)))))
def V_L_law_423 (G : Gx) (b L : Nat) (xs : Nat → Int32) (k_23 : Nat → Nat → Nat → Int32 → Mm → Prop) (x1 : Nat) (x2 : Nat) (x3 : Nat) (x4 : Int32) (u : Mm) : Prop :=
  V_L_law_1694 G b L xs k_23 x1 x2 x3 x4 u
def V_L_law_358 (G : Gx) (b L : Nat) (xs : Nat → Int32) (k_23 : Nat → Nat → Nat → Int32 → Mm → Prop) (x1 : Nat) (x2 : Nat) (x3 : Nat) (x4 : Int32) (u : Mm) : Prop :=
  vp_in (x4 + (1 : Int32)) L ∧ vp_in (x4 + (2 : Int32)) L ∧ V_L_about G x1 (xs (x4 + (1 : Int32)).toNatClampNeg) (xs (x4 + (2 : Int32)).toNatClampNeg) x3 u (fun (v_372 : Int32) (u_372 : Mm) => kd G x2 = 12 ∧ V_X12_about G x2 (xs (x4 + (1 : Int32)).toNatClampNeg) (xs (x4 + (2 : Int32)).toNatClampNeg) u_372 (fun (v_390 : Int32) (u_390 : Mm) => V_X12_thrown G x2 u_390 (fun (v_396 : Int32) (u_396 : Mm) => ((v_396 = v_372 → ((v_372 = 0 → kd G x3 = 15 ∧ vp_in (0 : Int32) (ln G x3) ∧ (((lg_cmp (gL u_396 x3 (0 : Int32).toNatClampNeg) (v_390.toInt64)) = 0 → V_L_law_423 G b L xs k_23 x1 x2 x3 x4 u_396) ∧ (¬ (lg_cmp (gL u_396 x3 (0 : Int32).toNatClampNeg) (v_390.toInt64)) = 0 → False))) ∧ (¬ v_372 = 0 → V_L_law_423 G b L xs k_23 x1 x2 x3 x4 u_396))) ∧ (¬ v_396 = v_372 → False)))))
def V_L_law_355 (G : Gx) (b L : Nat) (xs : Nat → Int32) (k_23 : Nat → Nat → Nat → Int32 → Mm → Prop) (x1 : Nat) (x2 : Nat) (x3 : Nat) (x4 : Int32) (u : Mm) : Prop :=
  V_L_law_1694 G b L xs k_23 x1 x2 x3 x4 u
def V_L_law_302 (G : Gx) (b L : Nat) (xs : Nat → Int32) (k_23 : Nat → Nat → Nat → Int32 → Mm → Prop) (x1 : Nat) (x2 : Nat) (x3 : Nat) (x4 : Int32) (u : Mm) : Prop :=
  vp_in (x4 + (1 : Int32)) L ∧ V_L_count G x1 (xs (x4 + (1 : Int32)).toNatClampNeg) x3 u (fun (v_310 : Int32) (u_310 : Mm) => kd G x2 = 12 ∧ V_X12_count G x2 (xs (x4 + (1 : Int32)).toNatClampNeg) u_310 (fun (v_322 : Int32) (u_322 : Mm) => V_X12_thrown G x2 u_322 (fun (v_328 : Int32) (u_328 : Mm) => ((v_328 = v_310 → ((v_310 = 0 → kd G x3 = 15 ∧ vp_in (0 : Int32) (ln G x3) ∧ (((lg_cmp (gL u_328 x3 (0 : Int32).toNatClampNeg) (v_322.toInt64)) = 0 → V_L_law_355 G b L xs k_23 x1 x2 x3 x4 u_328) ∧ (¬ (lg_cmp (gL u_328 x3 (0 : Int32).toNatClampNeg) (v_322.toInt64)) = 0 → False))) ∧ (¬ v_310 = 0 → V_L_law_355 G b L xs k_23 x1 x2 x3 x4 u_328))) ∧ (¬ v_328 = v_310 → False)))))
def V_L_law_289 (G : Gx) (b L : Nat) (xs : Nat → Int32) (k_23 : Nat → Nat → Nat → Int32 → Mm → Prop) (x1 : Nat) (x2 : Nat) (x3 : Nat) (x4 : Int32) (u : Mm) : Prop :=
  kd G x1 = 11 ∧ V_X11_fault G x1 u (fun (v_290 : Int32) (u_290 : Mm) => kd G x2 = 12 ∧ V_X12_fault G x2 u_290 (fun (v_294 : Int32) (u_294 : Mm) => ((v_290 = v_294 → V_L_law_1694 G b L xs k_23 x1 x2 x3 x4 u_294) ∧ (¬ v_290 = v_294 → False))))
def V_L_law_286 (G : Gx) (b L : Nat) (xs : Nat → Int32) (k_23 : Nat → Nat → Nat → Int32 → Mm → Prop) (x1 : Nat) (x2 : Nat) (x3 : Nat) (x4 : Int32) (u : Mm) : Prop :=
  V_L_law_1694 G b L xs k_23 x1 x2 x3 x4 u
def V_L_law_221 (G : Gx) (b L : Nat) (xs : Nat → Int32) (k_23 : Nat → Nat → Nat → Int32 → Mm → Prop) (x1 : Nat) (x2 : Nat) (x3 : Nat) (x4 : Int32) (u : Mm) : Prop :=
  vp_in (x4 + (1 : Int32)) L ∧ vp_in (x4 + (2 : Int32)) L ∧ V_L_land G x1 (xs (x4 + (1 : Int32)).toNatClampNeg) (xs (x4 + (2 : Int32)).toNatClampNeg) x3 u (fun (v_235 : Int32) (u_235 : Mm) => kd G x2 = 12 ∧ V_X12_land G x2 (xs (x4 + (1 : Int32)).toNatClampNeg) (xs (x4 + (2 : Int32)).toNatClampNeg) u_235 (fun (v_253 : Int32) (u_253 : Mm) => V_X12_thrown G x2 u_253 (fun (v_259 : Int32) (u_259 : Mm) => ((v_259 = v_235 → ((v_235 = 0 → kd G x3 = 15 ∧ vp_in (0 : Int32) (ln G x3) ∧ (((lg_cmp (gL u_259 x3 (0 : Int32).toNatClampNeg) (v_253.toInt64)) = 0 → V_L_law_286 G b L xs k_23 x1 x2 x3 x4 u_259) ∧ (¬ (lg_cmp (gL u_259 x3 (0 : Int32).toNatClampNeg) (v_253.toInt64)) = 0 → False))) ∧ (¬ v_235 = 0 → V_L_law_286 G b L xs k_23 x1 x2 x3 x4 u_259))) ∧ (¬ v_259 = v_235 → False)))))
def V_L_law_148 (G : Gx) (b L : Nat) (xs : Nat → Int32) (k_23 : Nat → Nat → Nat → Int32 → Mm → Prop) (x1 : Nat) (x2 : Nat) (x3 : Nat) (x4 : Int32) (u : Mm) : Prop :=
  vp_in (x4 + (1 : Int32)) L ∧ vp_in (x4 + (2 : Int32)) L ∧ vp_in (x4 + (3 : Int32)) L ∧ vp_in (x4 + (4 : Int32)) L ∧ vp_in (x4 + (5 : Int32)) L ∧ kd G x1 = 11 ∧ V_X11_feed G x1 (xs (x4 + (1 : Int32)).toNatClampNeg) (xs (x4 + (2 : Int32)).toNatClampNeg) (xs (x4 + (3 : Int32)).toNatClampNeg) (xs (x4 + (4 : Int32)).toNatClampNeg) (xs (x4 + (5 : Int32)).toNatClampNeg) u (fun (v_179 : Int32) (u_179 : Mm) => kd G x2 = 12 ∧ V_X12_feed G x2 (xs (x4 + (1 : Int32)).toNatClampNeg) (xs (x4 + (2 : Int32)).toNatClampNeg) (xs (x4 + (3 : Int32)).toNatClampNeg) (xs (x4 + (4 : Int32)).toNatClampNeg) (xs (x4 + (5 : Int32)).toNatClampNeg) u_179 (fun (v_213 : Int32) (u_213 : Mm) => ((v_179 = v_213 → V_L_law_1694 G b L xs k_23 x1 x2 x3 x4 u_213) ∧ (¬ v_179 = v_213 → False))))
def V_L_law_23_B (G : Gx) (b L : Nat) (xs : Nat → Int32) (k_23 : Nat → Nat → Nat → Int32 → Mm → Prop) (x1 : Nat) (x2 : Nat) (x3 : Nat) (x4 : Int32) (u : Mm) : Prop :=
  ((((nI L) - (7 : Int32)) < x4 → True) ∧ (¬ ((nI L) - (7 : Int32)) < x4 → vp_in x4 L ∧ ((((xs x4.toNatClampNeg) &&& (31 : Int32)) = (0 : Int32) → V_L_law_148 G b L xs k_23 x1 x2 x3 x4 u) ∧ (((xs x4.toNatClampNeg) &&& (31 : Int32)) = (1 : Int32) → V_L_law_221 G b L xs k_23 x1 x2 x3 x4 u) ∧ (((xs x4.toNatClampNeg) &&& (31 : Int32)) = (2 : Int32) → V_L_law_289 G b L xs k_23 x1 x2 x3 x4 u) ∧ (((xs x4.toNatClampNeg) &&& (31 : Int32)) = (3 : Int32) → V_L_law_302 G b L xs k_23 x1 x2 x3 x4 u) ∧ (((xs x4.toNatClampNeg) &&& (31 : Int32)) = (4 : Int32) → V_L_law_358 G b L xs k_23 x1 x2 x3 x4 u) ∧ (((xs x4.toNatClampNeg) &&& (31 : Int32)) = (5 : Int32) → V_L_law_426 G b L xs k_23 x1 x2 x3 x4 u) ∧ (((xs x4.toNatClampNeg) &&& (31 : Int32)) = (6 : Int32) → V_L_law_544 G b L xs k_23 x1 x2 x3 x4 u) ∧ (((xs x4.toNatClampNeg) &&& (31 : Int32)) = (7 : Int32) → V_L_law_662 G b L xs k_23 x1 x2 x3 x4 u) ∧ (((xs x4.toNatClampNeg) &&& (31 : Int32)) = (8 : Int32) → V_L_law_723 G b L xs k_23 x1 x2 x3 x4 u) ∧ (((xs x4.toNatClampNeg) &&& (31 : Int32)) = (9 : Int32) → V_L_law_791 G b L xs k_23 x1 x2 x3 x4 u) ∧ (((xs x4.toNatClampNeg) &&& (31 : Int32)) = (10 : Int32) → V_L_law_859 G b L xs k_23 x1 x2 x3 x4 u) ∧ (((xs x4.toNatClampNeg) &&& (31 : Int32)) = (11 : Int32) → V_L_law_934 G b L xs k_23 x1 x2 x3 x4 u) ∧ (((xs x4.toNatClampNeg) &&& (31 : Int32)) = (12 : Int32) → V_L_law_1014 G b L xs k_23 x1 x2 x3 x4 u) ∧ (((xs x4.toNatClampNeg) &&& (31 : Int32)) = (13 : Int32) → V_L_law_1094 G b L xs k_23 x1 x2 x3 x4 u) ∧ (((xs x4.toNatClampNeg) &&& (31 : Int32)) = (14 : Int32) → V_L_law_1186 G b L xs k_23 x1 x2 x3 x4 u) ∧ (((xs x4.toNatClampNeg) &&& (31 : Int32)) = (15 : Int32) → V_L_law_1254 G b L xs k_23 x1 x2 x3 x4 u) ∧ (((xs x4.toNatClampNeg) &&& (31 : Int32)) = (16 : Int32) → V_L_law_1334 G b L xs k_23 x1 x2 x3 x4 u) ∧ (((xs x4.toNatClampNeg) &&& (31 : Int32)) = (17 : Int32) → V_L_law_1371 G b L xs k_23 x1 x2 x3 x4 u) ∧ (((xs x4.toNatClampNeg) &&& (31 : Int32)) = (18 : Int32) → V_L_law_1463 G b L xs k_23 x1 x2 x3 x4 u) ∧ (((xs x4.toNatClampNeg) &&& (31 : Int32)) = (19 : Int32) → V_L_law_1567 G b L xs k_23 x1 x2 x3 x4 u) ∧ (((xs x4.toNatClampNeg) &&& (31 : Int32)) = (20 : Int32) → V_L_law_1659 G b L xs k_23 x1 x2 x3 x4 u) ∧ (((xs x4.toNatClampNeg) &&& (31 : Int32)) = (21 : Int32) → V_L_law_1670 G b L xs k_23 x1 x2 x3 x4 u) ∧ (((xs x4.toNatClampNeg) &&& (31 : Int32)) = (22 : Int32) → V_L_law_1681 G b L xs k_23 x1 x2 x3 x4 u) ∧ (¬ ((xs x4.toNatClampNeg) &&& (31 : Int32)) = (0 : Int32) ∧ ¬ ((xs x4.toNatClampNeg) &&& (31 : Int32)) = (1 : Int32) ∧ ¬ ((xs x4.toNatClampNeg) &&& (31 : Int32)) = (2 : Int32) ∧ ¬ ((xs x4.toNatClampNeg) &&& (31 : Int32)) = (3 : Int32) ∧ ¬ ((xs x4.toNatClampNeg) &&& (31 : Int32)) = (4 : Int32) ∧ ¬ ((xs x4.toNatClampNeg) &&& (31 : Int32)) = (5 : Int32) ∧ ¬ ((xs x4.toNatClampNeg) &&& (31 : Int32)) = (6 : Int32) ∧ ¬ ((xs x4.toNatClampNeg) &&& (31 : Int32)) = (7 : Int32) ∧ ¬ ((xs x4.toNatClampNeg) &&& (31 : Int32)) = (8 : Int32) ∧ ¬ ((xs x4.toNatClampNeg) &&& (31 : Int32)) = (9 : Int32) ∧ ¬ ((xs x4.toNatClampNeg) &&& (31 : Int32)) = (10 : Int32) ∧ ¬ ((xs x4.toNatClampNeg) &&& (31 : Int32)) = (11 : Int32) ∧ ¬ ((xs x4.toNatClampNeg) &&& (31 : Int32)) = (12 : Int32) ∧ ¬ ((xs x4.toNatClampNeg) &&& (31 : Int32)) = (13 : Int32) ∧ ¬ ((xs x4.toNatClampNeg) &&& (31 : Int32)) = (14 : Int32) ∧ ¬ ((xs x4.toNatClampNeg) &&& (31 : Int32)) = (15 : Int32) ∧ ¬ ((xs x4.toNatClampNeg) &&& (31 : Int32)) = (16 : Int32) ∧ ¬ ((xs x4.toNatClampNeg) &&& (31 : Int32)) = (17 : Int32) ∧ ¬ ((xs x4.toNatClampNeg) &&& (31 : Int32)) = (18 : Int32) ∧ ¬ ((xs x4.toNatClampNeg) &&& (31 : Int32)) = (19 : Int32) ∧ ¬ ((xs x4.toNatClampNeg) &&& (31 : Int32)) = (20 : Int32) ∧ ¬ ((xs x4.toNatClampNeg) &&& (31 : Int32)) = (21 : Int32) ∧ ¬ ((xs x4.toNatClampNeg) &&& (31 : Int32)) = (22 : Int32) → V_L_law_1694 G b L xs k_23 x1 x2 x3 x4 u))))
def V_L_law_23 (G : Gx) (b L : Nat) (xs : Nat → Int32) : Nat → (Nat → Nat → Nat → Int32 → Mm → Prop)
  | 0 => fun _ _ _ _ _ => False
  | n + 1 => fun x1 x2 x3 x4 u => V_L_law_23_B G b L xs (V_L_law_23 G b L xs n) x1 x2 x3 x4 u
set_option maxHeartbeats 4000000 in
set_option maxRecDepth 100000 in
theorem b_L_law_1694 {G : Gx} {b L : Nat} {xs : Nat → Int32} {p : Program} {l : Launch} {e : Env} {s : State} {m : MethodId} {below : List Frame} {meth : Method} {c : Code} (hst : l.stackTraces = false) (C : Cx G p s m c cL_law RL 7) (hr : meth.sig.returnType = ret) (hlk : meth.locks = false) (hN : ncE s) (hX : va_X b L xs s s.heap) (hbl : b < s.heap.size) (hz0 : gz G = s.heap.size) {cells slots : Nat} (hcs : cells + 16 ≤ 601024 ∧ slots + 128 ≤ 7293034) {k_23 : Nat → Nat → Nat → Int32 → Mm → Prop} (hk_23 : ∀ (x1 : Nat) (x2 : Nat) (x3 : Nat) (x4 : Int32) (u : Mm) (H : Heap) (locs : List Loc) (ls : Array Slot), k_23 x1 x2 x3 x4 u → lv_has ls 7 [(0, .ref b), (1, .ref x1), (2, .ref x2), (3, .ref x3), (4, .int x4)] → Hp G u s H locs → W p l e room_1 s m #[Value.ref b] below meth c H locs (cells + 16) (slots + 128) (lw_Z below #[Value.ref b] s) (F0 m 23 ls [])) {x1 : Nat} {x2 : Nat} {x3 : Nat} {x4 : Int32} {u : Mm} {H : Heap} {locs : List Loc} {ls : Array Slot} (h : V_L_law_1694 G b L xs k_23 x1 x2 x3 x4 u) (hl : lv_has ls 7 [(0, .ref b), (1, .ref x1), (2, .ref x2), (3, .ref x3), (4, .int x4)]) (hP : Hp G u s H locs) : W p l e room_1 s m #[Value.ref b] below meth c H locs (cells + 16) (slots + 128) (lw_Z below #[Value.ref b] s) (F0 m 1694 ls []) := by
  have hx := C.1
  have hb := C.2.1
  have hbA : ¬ ag G b := by unfold ag; omega
  unfold V_L_law_1694 at h
  obtain ⟨x4_1694, ex4_1694⟩ : ∃ y : Int32, y = x4 + (7 : Int32) := ⟨_, rfl⟩
  have h := h x4_1694 ex4_1694
  refine lv_iinc (v := x4_1694) (lv' := [(4, .int x4_1694), (0, .ref b), (1, .ref x1), (2, .ref x2), (3, .ref x3)]) hx hb dL_law_1694 hl (k := 4) rfl (by rw [ex4_1694]; rfl) (by decide) rfl (fun ls hl => ?_)
  refine lv_goto (tgt := 23) hx hb dL_law_1697 (by decide) ?_
  exact hk_23 x1 x2 x3 x4_1694 u _ _ _ h (lv_sub hl [1, 2, 3, 4, 0] rfl) hP
set_option maxHeartbeats 4000000 in
set_option maxRecDepth 100000 in
theorem b_L_law_1681 {G : Gx} {b L : Nat} {xs : Nat → Int32} {p : Program} {l : Launch} {e : Env} {s : State} {m : MethodId} {below : List Frame} {meth : Method} {c : Code} (hst : l.stackTraces = false) (C : Cx G p s m c cL_law RL 7) (hr : meth.sig.returnType = ret) (hlk : meth.locks = false) (hN : ncE s) (hX : va_X b L xs s s.heap) (hbl : b < s.heap.size) (hz0 : gz G = s.heap.size) {cells slots : Nat} (hcs : cells + 16 ≤ 601024 ∧ slots + 128 ≤ 7293034) {k_23 : Nat → Nat → Nat → Int32 → Mm → Prop} (hk_23 : ∀ (x1 : Nat) (x2 : Nat) (x3 : Nat) (x4 : Int32) (u : Mm) (H : Heap) (locs : List Loc) (ls : Array Slot), k_23 x1 x2 x3 x4 u → lv_has ls 7 [(0, .ref b), (1, .ref x1), (2, .ref x2), (3, .ref x3), (4, .int x4)] → Hp G u s H locs → W p l e room_1 s m #[Value.ref b] below meth c H locs (cells + 16) (slots + 128) (lw_Z below #[Value.ref b] s) (F0 m 23 ls [])) {x1 : Nat} {x2 : Nat} {x3 : Nat} {x4 : Int32} {u : Mm} {H : Heap} {locs : List Loc} {ls : Array Slot} (h : V_L_law_1681 G b L xs k_23 x1 x2 x3 x4 u) (hl : lv_has ls 7 [(0, .ref b), (1, .ref x1), (2, .ref x2), (3, .ref x3), (4, .int x4)]) (hP : Hp G u s H locs) : W p l e room_1 s m #[Value.ref b] below meth c H locs cells slots (lw_Z below #[Value.ref b] s) (F0 m 1681 ls []) := by
  have hx := C.1
  have hb := C.2.1
  have hbA : ¬ ag G b := by unfold ag; omega
  unfold V_L_law_1681 at h
  refine lv_aload_n hx hb dL_law_1681 rfl (lv_at hl 1 rfl) ?_
  obtain ⟨g1, h⟩ := h
  refine q_cali (q_runV C hP (c_X11_restore h) (cd_X11_restore C.hA) (ini_X11 C.hA) (ml_L_156 C.hA) (im_X11_restore C.hA) (sl_X11_restore C.hA) g1 (by decide) rfl hd_X11_restore ⟨rfl, rfl⟩ ⟨Nat.le_of_ble_eq_true rfl, Nat.le_of_ble_eq_true rfl⟩ ⟨by show _ ≤ 601024; omega, by show _ ≤ 7293034; omega⟩ hl.1 rfl (Nat.le_of_ble_eq_true rfl) dL_law_1682) hP (fun v_1682 u_1682 H locs h hP => ?_)
  refine lv_aload_n hx hb dL_law_1685 rfl (lv_at hl 2 rfl) ?_
  obtain ⟨g2, h⟩ := h
  refine q_cali (q_runV C hP (c_X12_restore h) (cd_X12_restore C.hA) (ini_X12 C.hA) (ml_L_160 C.hA) (im_X12_restore C.hA) (sl_X12_restore C.hA) g2 (by decide) rfl hd_X12_restore ⟨rfl, rfl⟩ ⟨Nat.le_of_ble_eq_true rfl, Nat.le_of_ble_eq_true rfl⟩ ⟨by show _ ≤ 601024; omega, by show _ ≤ 7293034; omega⟩ hl.1 rfl (Nat.le_of_ble_eq_true rfl) dL_law_1686) hP (fun v_1686 u_1686 H locs h hP => ?_)
  refine lv_icmp_eq (tgt := 1694) hx hb dL_law_1689 (by decide) (fun c1689 => ?_) (fun c1689 => ?_)
  · have h := h.1 c1689
    refine W.widen (k := cells + 16) (n := slots + 128) (by omega) (by omega) ?_
    exact b_L_law_1694 hst C hr hlk hN hX hbl hz0 hcs hk_23 h (lv_sub hl [0, 1, 2, 3, 4] rfl) hP
  · have h := h.2 c1689
    refine lv_iconst (v := (0 : Int32)) hx hb dL_law_1692 (by decide) ?_
    exact h.elim
set_option maxHeartbeats 4000000 in
set_option maxRecDepth 100000 in
theorem b_L_law_1670 {G : Gx} {b L : Nat} {xs : Nat → Int32} {p : Program} {l : Launch} {e : Env} {s : State} {m : MethodId} {below : List Frame} {meth : Method} {c : Code} (hst : l.stackTraces = false) (C : Cx G p s m c cL_law RL 7) (hr : meth.sig.returnType = ret) (hlk : meth.locks = false) (hN : ncE s) (hX : va_X b L xs s s.heap) (hbl : b < s.heap.size) (hz0 : gz G = s.heap.size) {cells slots : Nat} (hcs : cells + 16 ≤ 601024 ∧ slots + 128 ≤ 7293034) {k_23 : Nat → Nat → Nat → Int32 → Mm → Prop} (hk_23 : ∀ (x1 : Nat) (x2 : Nat) (x3 : Nat) (x4 : Int32) (u : Mm) (H : Heap) (locs : List Loc) (ls : Array Slot), k_23 x1 x2 x3 x4 u → lv_has ls 7 [(0, .ref b), (1, .ref x1), (2, .ref x2), (3, .ref x3), (4, .int x4)] → Hp G u s H locs → W p l e room_1 s m #[Value.ref b] below meth c H locs (cells + 16) (slots + 128) (lw_Z below #[Value.ref b] s) (F0 m 23 ls [])) {x1 : Nat} {x2 : Nat} {x3 : Nat} {x4 : Int32} {u : Mm} {H : Heap} {locs : List Loc} {ls : Array Slot} (h : V_L_law_1670 G b L xs k_23 x1 x2 x3 x4 u) (hl : lv_has ls 7 [(0, .ref b), (1, .ref x1), (2, .ref x2), (3, .ref x3), (4, .int x4)]) (hP : Hp G u s H locs) : W p l e room_1 s m #[Value.ref b] below meth c H locs cells slots (lw_Z below #[Value.ref b] s) (F0 m 1670 ls []) := by
  have hx := C.1
  have hb := C.2.1
  have hbA : ¬ ag G b := by unfold ag; omega
  unfold V_L_law_1670 at h
  refine lv_aload_n hx hb dL_law_1670 rfl (lv_at hl 1 rfl) ?_
  obtain ⟨g1, h⟩ := h
  refine q_calv (q_runV C hP (c_X11_image h) (cd_X11_image C.hA) (ini_X11 C.hA) (ml_L_152 C.hA) (im_X11_image C.hA) (sl_X11_image C.hA) g1 (by decide) rfl hd_X11_image ⟨rfl, rfl⟩ ⟨Nat.le_of_ble_eq_true rfl, Nat.le_of_ble_eq_true rfl⟩ ⟨by show _ ≤ 601024; omega, by show _ ≤ 7293034; omega⟩ hl.1 rfl (Nat.le_of_ble_eq_true rfl) dL_law_1671) hP (fun u_1671 H locs h hP => ?_)
  refine lv_aload_n hx hb dL_law_1674 rfl (lv_at hl 2 rfl) ?_
  obtain ⟨g2, h⟩ := h
  refine q_calv (q_runV C hP (c_X12_image h) (cd_X12_image C.hA) (ini_X12 C.hA) (ml_L_155 C.hA) (im_X12_image C.hA) (sl_X12_image C.hA) g2 (by decide) rfl hd_X12_image ⟨rfl, rfl⟩ ⟨Nat.le_of_ble_eq_true rfl, Nat.le_of_ble_eq_true rfl⟩ ⟨by show _ ≤ 601024; omega, by show _ ≤ 7293034; omega⟩ hl.1 rfl (Nat.le_of_ble_eq_true rfl) dL_law_1675) hP (fun u_1675 H locs h hP => ?_)
  refine lv_goto (tgt := 1694) hx hb dL_law_1678 (by decide) ?_
  refine W.widen (k := cells + 16) (n := slots + 128) (by omega) (by omega) ?_
  exact b_L_law_1694 hst C hr hlk hN hX hbl hz0 hcs hk_23 h (lv_sub hl [0, 1, 2, 3, 4] rfl) hP
set_option maxHeartbeats 4000000 in
set_option maxRecDepth 100000 in
theorem b_L_law_1659 {G : Gx} {b L : Nat} {xs : Nat → Int32} {p : Program} {l : Launch} {e : Env} {s : State} {m : MethodId} {below : List Frame} {meth : Method} {c : Code} (hst : l.stackTraces = false) (C : Cx G p s m c cL_law RL 7) (hr : meth.sig.returnType = ret) (hlk : meth.locks = false) (hN : ncE s) (hX : va_X b L xs s s.heap) (hbl : b < s.heap.size) (hz0 : gz G = s.heap.size) {cells slots : Nat} (hcs : cells + 16 ≤ 601024 ∧ slots + 128 ≤ 7293034) {k_23 : Nat → Nat → Nat → Int32 → Mm → Prop} (hk_23 : ∀ (x1 : Nat) (x2 : Nat) (x3 : Nat) (x4 : Int32) (u : Mm) (H : Heap) (locs : List Loc) (ls : Array Slot), k_23 x1 x2 x3 x4 u → lv_has ls 7 [(0, .ref b), (1, .ref x1), (2, .ref x2), (3, .ref x3), (4, .int x4)] → Hp G u s H locs → W p l e room_1 s m #[Value.ref b] below meth c H locs (cells + 16) (slots + 128) (lw_Z below #[Value.ref b] s) (F0 m 23 ls [])) {x1 : Nat} {x2 : Nat} {x3 : Nat} {x4 : Int32} {u : Mm} {H : Heap} {locs : List Loc} {ls : Array Slot} (h : V_L_law_1659 G b L xs k_23 x1 x2 x3 x4 u) (hl : lv_has ls 7 [(0, .ref b), (1, .ref x1), (2, .ref x2), (3, .ref x3), (4, .int x4)]) (hP : Hp G u s H locs) : W p l e room_1 s m #[Value.ref b] below meth c H locs cells slots (lw_Z below #[Value.ref b] s) (F0 m 1659 ls []) := by
  have hx := C.1
  have hb := C.2.1
  have hbA : ¬ ag G b := by unfold ag; omega
  unfold V_L_law_1659 at h
  refine lv_aload_n hx hb dL_law_1659 rfl (lv_at hl 1 rfl) ?_
  obtain ⟨g1, h⟩ := h
  refine q_calv (q_runV C hP (c_X11_clear h) (cd_X11_clear C.hA) (ini_X11 C.hA) (ml_L_148 C.hA) (im_X11_clear C.hA) (sl_X11_clear C.hA) g1 (by decide) rfl hd_X11_clear ⟨rfl, rfl⟩ ⟨Nat.le_of_ble_eq_true rfl, Nat.le_of_ble_eq_true rfl⟩ ⟨by show _ ≤ 601024; omega, by show _ ≤ 7293034; omega⟩ hl.1 rfl (Nat.le_of_ble_eq_true rfl) dL_law_1660) hP (fun u_1660 H locs h hP => ?_)
  refine lv_aload_n hx hb dL_law_1663 rfl (lv_at hl 2 rfl) ?_
  obtain ⟨g2, h⟩ := h
  refine q_calv (q_runV C hP (c_X12_clear h) (cd_X12_clear C.hA) (ini_X12 C.hA) (ml_L_151 C.hA) (im_X12_clear C.hA) (sl_X12_clear C.hA) g2 (by decide) rfl hd_X12_clear ⟨rfl, rfl⟩ ⟨Nat.le_of_ble_eq_true rfl, Nat.le_of_ble_eq_true rfl⟩ ⟨by show _ ≤ 601024; omega, by show _ ≤ 7293034; omega⟩ hl.1 rfl (Nat.le_of_ble_eq_true rfl) dL_law_1664) hP (fun u_1664 H locs h hP => ?_)
  refine lv_goto (tgt := 1694) hx hb dL_law_1667 (by decide) ?_
  refine W.widen (k := cells + 16) (n := slots + 128) (by omega) (by omega) ?_
  exact b_L_law_1694 hst C hr hlk hN hX hbl hz0 hcs hk_23 h (lv_sub hl [0, 1, 2, 3, 4] rfl) hP
set_option maxHeartbeats 4000000 in
set_option maxRecDepth 100000 in
theorem b_L_law_1656 {G : Gx} {b L : Nat} {xs : Nat → Int32} {p : Program} {l : Launch} {e : Env} {s : State} {m : MethodId} {below : List Frame} {meth : Method} {c : Code} (hst : l.stackTraces = false) (C : Cx G p s m c cL_law RL 7) (hr : meth.sig.returnType = ret) (hlk : meth.locks = false) (hN : ncE s) (hX : va_X b L xs s s.heap) (hbl : b < s.heap.size) (hz0 : gz G = s.heap.size) {cells slots : Nat} (hcs : cells + 16 ≤ 601024 ∧ slots + 128 ≤ 7293034) {k_23 : Nat → Nat → Nat → Int32 → Mm → Prop} (hk_23 : ∀ (x1 : Nat) (x2 : Nat) (x3 : Nat) (x4 : Int32) (u : Mm) (H : Heap) (locs : List Loc) (ls : Array Slot), k_23 x1 x2 x3 x4 u → lv_has ls 7 [(0, .ref b), (1, .ref x1), (2, .ref x2), (3, .ref x3), (4, .int x4)] → Hp G u s H locs → W p l e room_1 s m #[Value.ref b] below meth c H locs (cells + 16) (slots + 128) (lw_Z below #[Value.ref b] s) (F0 m 23 ls [])) {x1 : Nat} {x2 : Nat} {x3 : Nat} {x4 : Int32} {u : Mm} {H : Heap} {locs : List Loc} {ls : Array Slot} (h : V_L_law_1656 G b L xs k_23 x1 x2 x3 x4 u) (hl : lv_has ls 7 [(0, .ref b), (1, .ref x1), (2, .ref x2), (3, .ref x3), (4, .int x4)]) (hP : Hp G u s H locs) : W p l e room_1 s m #[Value.ref b] below meth c H locs (cells + 8) (slots + 64) (lw_Z below #[Value.ref b] s) (F0 m 1656 ls []) := by
  have hx := C.1
  have hb := C.2.1
  have hbA : ¬ ag G b := by unfold ag; omega
  unfold V_L_law_1656 at h
  refine lv_goto (tgt := 1694) hx hb dL_law_1656 (by decide) ?_
  refine W.widen (k := cells + 16) (n := slots + 128) (by omega) (by omega) ?_
  exact b_L_law_1694 hst C hr hlk hN hX hbl hz0 hcs hk_23 h (lv_sub hl [0, 1, 2, 3, 4] rfl) hP
set_option maxHeartbeats 4000000 in
set_option maxRecDepth 100000 in
theorem b_L_law_1567 {G : Gx} {b L : Nat} {xs : Nat → Int32} {p : Program} {l : Launch} {e : Env} {s : State} {m : MethodId} {below : List Frame} {meth : Method} {c : Code} (hst : l.stackTraces = false) (C : Cx G p s m c cL_law RL 7) (hr : meth.sig.returnType = ret) (hlk : meth.locks = false) (hN : ncE s) (hX : va_X b L xs s s.heap) (hbl : b < s.heap.size) (hz0 : gz G = s.heap.size) {cells slots : Nat} (hcs : cells + 16 ≤ 601024 ∧ slots + 128 ≤ 7293034) {k_23 : Nat → Nat → Nat → Int32 → Mm → Prop} (hk_23 : ∀ (x1 : Nat) (x2 : Nat) (x3 : Nat) (x4 : Int32) (u : Mm) (H : Heap) (locs : List Loc) (ls : Array Slot), k_23 x1 x2 x3 x4 u → lv_has ls 7 [(0, .ref b), (1, .ref x1), (2, .ref x2), (3, .ref x3), (4, .int x4)] → Hp G u s H locs → W p l e room_1 s m #[Value.ref b] below meth c H locs (cells + 16) (slots + 128) (lw_Z below #[Value.ref b] s) (F0 m 23 ls [])) {x1 : Nat} {x2 : Nat} {x3 : Nat} {x4 : Int32} {u : Mm} {H : Heap} {locs : List Loc} {ls : Array Slot} (h : V_L_law_1567 G b L xs k_23 x1 x2 x3 x4 u) (hl : lv_has ls 7 [(0, .ref b), (1, .ref x1), (2, .ref x2), (3, .ref x3), (4, .int x4)]) (hP : Hp G u s H locs) : W p l e room_1 s m #[Value.ref b] below meth c H locs cells slots (lw_Z below #[Value.ref b] s) (F0 m 1567 ls []) := by
  have hx := C.1
  have hb := C.2.1
  have hbA : ¬ ag G b := by unfold ag; omega
  unfold V_L_law_1567 at h
  refine lv_aload_n hx hb dL_law_1567 rfl (lv_at hl 1 rfl) ?_
  refine lv_aload_n hx hb dL_law_1568 rfl (lv_at hl 0 rfl) ?_
  refine lv_iload hx hb dL_law_1569 (lv_at hl 4 rfl) ?_
  refine lv_iconst (v := (1 : Int32)) hx hb dL_law_1571 (by decide) ?_
  refine lv_iadd hx hb dL_law_1572 ?_
  obtain ⟨g1, h⟩ := h
  refine va_sld hx hb hX hbl hbA hP.2 g1 dL_law_1573 ?_
  refine lv_aload_n hx hb dL_law_1574 rfl (lv_at hl 0 rfl) ?_
  refine lv_iload hx hb dL_law_1575 (lv_at hl 4 rfl) ?_
  refine lv_iconst (v := (2 : Int32)) hx hb dL_law_1577 (by decide) ?_
  refine lv_iadd hx hb dL_law_1578 ?_
  obtain ⟨g2, h⟩ := h
  refine va_sld hx hb hX hbl hbA hP.2 g2 dL_law_1579 ?_
  refine lv_aload_n hx hb dL_law_1580 rfl (lv_at hl 0 rfl) ?_
  refine lv_iload hx hb dL_law_1581 (lv_at hl 4 rfl) ?_
  refine lv_iconst (v := (3 : Int32)) hx hb dL_law_1583 (by decide) ?_
  refine lv_iadd hx hb dL_law_1584 ?_
  obtain ⟨g3, h⟩ := h
  refine va_sld hx hb hX hbl hbA hP.2 g3 dL_law_1585 ?_
  refine lv_aload_n hx hb dL_law_1586 rfl (lv_at hl 0 rfl) ?_
  refine lv_iload hx hb dL_law_1587 (lv_at hl 4 rfl) ?_
  refine lv_iconst (v := (4 : Int32)) hx hb dL_law_1589 (by decide) ?_
  refine lv_iadd hx hb dL_law_1590 ?_
  obtain ⟨g4, h⟩ := h
  refine va_sld hx hb hX hbl hbA hP.2 g4 dL_law_1591 ?_
  refine lv_aload_n hx hb dL_law_1592 rfl (lv_at hl 3 rfl) ?_
  refine q_calim (q_runSL C hN hP (c_L_word hst h) rfl (cw_L_word C.hA) (ini_L C.hA) (ml_L_145 C.hA) (st_L_word C.hA) hd_L_word ⟨rfl, rfl⟩ ⟨Nat.le_of_ble_eq_true rfl, Nat.le_of_ble_eq_true rfl⟩ ⟨by show _ ≤ 601024; omega, by show _ ≤ 7293034; omega⟩ hl.1 rfl (Nat.le_of_ble_eq_true rfl) dL_law_1593) hP (fun v_1593 u_1593 H locs h hP => ?_)
  refine lv_istore (lv' := [(5, .int v_1593), (0, .ref b), (1, .ref x1), (2, .ref x2), (3, .ref x3), (4, .int x4)]) hx hb dL_law_1596 hl (by decide) rfl (fun ls hl => ?_)
  refine lv_aload_n hx hb dL_law_1598 rfl (lv_at hl 3 rfl) ?_
  refine lv_aload_n hx hb dL_law_1599 rfl (lv_at hl 1 rfl) ?_
  refine lv_iload hx hb dL_law_1600 (lv_at hl 5 rfl) ?_
  refine lv_iconst (v := (1 : Int32)) hx hb dL_law_1602 (by decide) ?_
  refine lv_iadd hx hb dL_law_1603 ?_
  refine va_sld hx hb hX hbl hbA hP.2 g1 dL_law_1604 ?_
  refine lv_aload_n hx hb dL_law_1605 rfl (lv_at hl 1 rfl) ?_
  refine lv_iload hx hb dL_law_1606 (lv_at hl 5 rfl) ?_
  refine lv_iconst (v := (2 : Int32)) hx hb dL_law_1608 (by decide) ?_
  refine lv_iadd hx hb dL_law_1609 ?_
  refine va_sld hx hb hX hbl hbA hP.2 g2 dL_law_1610 ?_
  refine lv_aload_n hx hb dL_law_1611 rfl (lv_at hl 1 rfl) ?_
  refine lv_iload hx hb dL_law_1612 (lv_at hl 5 rfl) ?_
  refine lv_iconst (v := (3 : Int32)) hx hb dL_law_1614 (by decide) ?_
  refine lv_iadd hx hb dL_law_1615 ?_
  refine va_sld hx hb hX hbl hbA hP.2 g3 dL_law_1616 ?_
  refine lv_aload_n hx hb dL_law_1617 rfl (lv_at hl 1 rfl) ?_
  refine lv_iload hx hb dL_law_1618 (lv_at hl 5 rfl) ?_
  refine lv_iconst (v := (4 : Int32)) hx hb dL_law_1620 (by decide) ?_
  refine lv_iadd hx hb dL_law_1621 ?_
  refine va_sld hx hb hX hbl hbA hP.2 g4 dL_law_1622 ?_
  obtain ⟨g5, h⟩ := h
  refine q_cali (q_runV C hP (c_X12_word h) (cd_X12_word C.hA) (ini_X12 C.hA) (ml_L_147 C.hA) (im_X12_word C.hA) (sl_X12_word C.hA) g5 (by decide) rfl hd_X12_word ⟨rfl, rfl⟩ ⟨Nat.le_of_ble_eq_true rfl, Nat.le_of_ble_eq_true rfl⟩ ⟨by show _ ≤ 601024; omega, by show _ ≤ 7293034; omega⟩ hl.1 rfl (Nat.le_of_ble_eq_true rfl) dL_law_1623) hP (fun v_1623 u_1623 H locs h hP => ?_)
  refine lv_istore (lv' := [(6, .int v_1623), (5, .int v_1593), (0, .ref b), (1, .ref x1), (2, .ref x2), (3, .ref x3), (4, .int x4)]) hx hb dL_law_1626 hl (by decide) rfl (fun ls hl => ?_)
  refine lv_aload_n hx hb dL_law_1628 rfl (lv_at hl 4 rfl) ?_
  refine q_cali (q_runV C hP (c_X12_thrown h) (cd_X12_thrown C.hA) (ini_X12 C.hA) (ml_L_82 C.hA) (im_X12_thrown C.hA) (sl_X12_thrown C.hA) g5 (by decide) rfl hd_X12_thrown ⟨rfl, rfl⟩ ⟨Nat.le_of_ble_eq_true rfl, Nat.le_of_ble_eq_true rfl⟩ ⟨by show _ ≤ 601024; omega, by show _ ≤ 7293034; omega⟩ hl.1 rfl (Nat.le_of_ble_eq_true rfl) dL_law_1629) hP (fun v_1629 u_1629 H locs h hP => ?_)
  refine lv_iload hx hb dL_law_1632 (lv_at hl 1 rfl) ?_
  refine lv_icmp_eq (tgt := 1639) hx hb dL_law_1634 (by decide) (fun c1634 => ?_) (fun c1634 => ?_)
  · have h := h.1 c1634
    refine lv_iload hx hb dL_law_1639 (lv_at hl 1 rfl) ?_
    refine lv_if_ne (tgt := 1656) hx hb dL_law_1641 (by decide) (fun c1641 => ?_) (fun c1641 => ?_)
    · have h := h.2 c1641
      refine W.widen (k := cells + 8) (n := slots + 64) (by omega) (by omega) ?_
      exact b_L_law_1656 hst C hr hlk hN hX hbl hz0 hcs hk_23 h (lv_sub hl [2, 3, 4, 5, 6] rfl) hP
    · have h := h.1 c1641
      refine lv_aload_n hx hb dL_law_1644 rfl (lv_at hl 5 rfl) ?_
      refine lv_iconst (v := (0 : Int32)) hx hb dL_law_1645 (by decide) ?_
      obtain ⟨g6, h⟩ := h
      obtain ⟨g7, h⟩ := h
      refine q_lald C hP g6 g7 dL_law_1646 ?_
      refine lv_iload hx hb dL_law_1647 (lv_at hl 0 rfl) ?_
      refine lv_i2l (v := v_1623.toInt64) hx hb dL_law_1649 rfl ?_
      refine W.lcmp hx hb dL_law_1650 ?_
      refine lv_if_eq (tgt := 1656) hx hb dL_law_1651 (by decide) (fun c1651 => ?_) (fun c1651 => ?_)
      · have h := h.1 c1651
        refine W.widen (k := cells + 8) (n := slots + 64) (by omega) (by omega) ?_
        exact b_L_law_1656 hst C hr hlk hN hX hbl hz0 hcs hk_23 h (lv_sub hl [2, 3, 4, 5, 6] rfl) hP
      · have h := h.2 c1651
        refine lv_iconst (v := (0 : Int32)) hx hb dL_law_1654 (by decide) ?_
        exact h.elim
  · have h := h.2 c1634
    refine lv_iconst (v := (0 : Int32)) hx hb dL_law_1637 (by decide) ?_
    exact h.elim
set_option maxHeartbeats 4000000 in
set_option maxRecDepth 100000 in
theorem b_L_law_1564 {G : Gx} {b L : Nat} {xs : Nat → Int32} {p : Program} {l : Launch} {e : Env} {s : State} {m : MethodId} {below : List Frame} {meth : Method} {c : Code} (hst : l.stackTraces = false) (C : Cx G p s m c cL_law RL 7) (hr : meth.sig.returnType = ret) (hlk : meth.locks = false) (hN : ncE s) (hX : va_X b L xs s s.heap) (hbl : b < s.heap.size) (hz0 : gz G = s.heap.size) {cells slots : Nat} (hcs : cells + 16 ≤ 601024 ∧ slots + 128 ≤ 7293034) {k_23 : Nat → Nat → Nat → Int32 → Mm → Prop} (hk_23 : ∀ (x1 : Nat) (x2 : Nat) (x3 : Nat) (x4 : Int32) (u : Mm) (H : Heap) (locs : List Loc) (ls : Array Slot), k_23 x1 x2 x3 x4 u → lv_has ls 7 [(0, .ref b), (1, .ref x1), (2, .ref x2), (3, .ref x3), (4, .int x4)] → Hp G u s H locs → W p l e room_1 s m #[Value.ref b] below meth c H locs (cells + 16) (slots + 128) (lw_Z below #[Value.ref b] s) (F0 m 23 ls [])) {x1 : Nat} {x2 : Nat} {x3 : Nat} {x4 : Int32} {u : Mm} {H : Heap} {locs : List Loc} {ls : Array Slot} (h : V_L_law_1564 G b L xs k_23 x1 x2 x3 x4 u) (hl : lv_has ls 7 [(0, .ref b), (1, .ref x1), (2, .ref x2), (3, .ref x3), (4, .int x4)]) (hP : Hp G u s H locs) : W p l e room_1 s m #[Value.ref b] below meth c H locs (cells + 8) (slots + 64) (lw_Z below #[Value.ref b] s) (F0 m 1564 ls []) := by
  have hx := C.1
  have hb := C.2.1
  have hbA : ¬ ag G b := by unfold ag; omega
  unfold V_L_law_1564 at h
  refine lv_goto (tgt := 1694) hx hb dL_law_1564 (by decide) ?_
  refine W.widen (k := cells + 16) (n := slots + 128) (by omega) (by omega) ?_
  exact b_L_law_1694 hst C hr hlk hN hX hbl hz0 hcs hk_23 h (lv_sub hl [0, 1, 2, 3, 4] rfl) hP
set_option maxHeartbeats 4000000 in
set_option maxRecDepth 100000 in
theorem b_L_law_1463 {G : Gx} {b L : Nat} {xs : Nat → Int32} {p : Program} {l : Launch} {e : Env} {s : State} {m : MethodId} {below : List Frame} {meth : Method} {c : Code} (hst : l.stackTraces = false) (C : Cx G p s m c cL_law RL 7) (hr : meth.sig.returnType = ret) (hlk : meth.locks = false) (hN : ncE s) (hX : va_X b L xs s s.heap) (hbl : b < s.heap.size) (hz0 : gz G = s.heap.size) {cells slots : Nat} (hcs : cells + 16 ≤ 601024 ∧ slots + 128 ≤ 7293034) {k_23 : Nat → Nat → Nat → Int32 → Mm → Prop} (hk_23 : ∀ (x1 : Nat) (x2 : Nat) (x3 : Nat) (x4 : Int32) (u : Mm) (H : Heap) (locs : List Loc) (ls : Array Slot), k_23 x1 x2 x3 x4 u → lv_has ls 7 [(0, .ref b), (1, .ref x1), (2, .ref x2), (3, .ref x3), (4, .int x4)] → Hp G u s H locs → W p l e room_1 s m #[Value.ref b] below meth c H locs (cells + 16) (slots + 128) (lw_Z below #[Value.ref b] s) (F0 m 23 ls [])) {x1 : Nat} {x2 : Nat} {x3 : Nat} {x4 : Int32} {u : Mm} {H : Heap} {locs : List Loc} {ls : Array Slot} (h : V_L_law_1463 G b L xs k_23 x1 x2 x3 x4 u) (hl : lv_has ls 7 [(0, .ref b), (1, .ref x1), (2, .ref x2), (3, .ref x3), (4, .int x4)]) (hP : Hp G u s H locs) : W p l e room_1 s m #[Value.ref b] below meth c H locs cells slots (lw_Z below #[Value.ref b] s) (F0 m 1463 ls []) := by
  have hx := C.1
  have hb := C.2.1
  have hbA : ¬ ag G b := by unfold ag; omega
  unfold V_L_law_1463 at h
  refine lv_aload_n hx hb dL_law_1463 rfl (lv_at hl 1 rfl) ?_
  refine lv_aload_n hx hb dL_law_1464 rfl (lv_at hl 0 rfl) ?_
  refine lv_iload hx hb dL_law_1465 (lv_at hl 4 rfl) ?_
  refine lv_iconst (v := (1 : Int32)) hx hb dL_law_1467 (by decide) ?_
  refine lv_iadd hx hb dL_law_1468 ?_
  obtain ⟨g1, h⟩ := h
  refine va_sld hx hb hX hbl hbA hP.2 g1 dL_law_1469 ?_
  refine lv_aload_n hx hb dL_law_1470 rfl (lv_at hl 0 rfl) ?_
  refine lv_iload hx hb dL_law_1471 (lv_at hl 4 rfl) ?_
  refine lv_iconst (v := (2 : Int32)) hx hb dL_law_1473 (by decide) ?_
  refine lv_iadd hx hb dL_law_1474 ?_
  obtain ⟨g2, h⟩ := h
  refine va_sld hx hb hX hbl hbA hP.2 g2 dL_law_1475 ?_
  refine lv_aload_n hx hb dL_law_1476 rfl (lv_at hl 0 rfl) ?_
  refine lv_iload hx hb dL_law_1477 (lv_at hl 4 rfl) ?_
  refine lv_iconst (v := (3 : Int32)) hx hb dL_law_1479 (by decide) ?_
  refine lv_iadd hx hb dL_law_1480 ?_
  obtain ⟨g3, h⟩ := h
  refine va_sld hx hb hX hbl hbA hP.2 g3 dL_law_1481 ?_
  refine lv_aload_n hx hb dL_law_1482 rfl (lv_at hl 0 rfl) ?_
  refine lv_iload hx hb dL_law_1483 (lv_at hl 4 rfl) ?_
  refine lv_iconst (v := (4 : Int32)) hx hb dL_law_1485 (by decide) ?_
  refine lv_iadd hx hb dL_law_1486 ?_
  obtain ⟨g4, h⟩ := h
  refine va_sld hx hb hX hbl hbA hP.2 g4 dL_law_1487 ?_
  refine lv_aload_n hx hb dL_law_1488 rfl (lv_at hl 0 rfl) ?_
  refine lv_iload hx hb dL_law_1489 (lv_at hl 4 rfl) ?_
  refine lv_iconst (v := (5 : Int32)) hx hb dL_law_1491 (by decide) ?_
  refine lv_iadd hx hb dL_law_1492 ?_
  obtain ⟨g5, h⟩ := h
  refine va_sld hx hb hX hbl hbA hP.2 g5 dL_law_1493 ?_
  refine lv_aload_n hx hb dL_law_1494 rfl (lv_at hl 3 rfl) ?_
  refine q_calim (q_runSL C hN hP (c_L_knows hst h) rfl (cw_L_knows C.hA) (ini_L C.hA) (ml_L_141 C.hA) (st_L_knows C.hA) hd_L_knows ⟨rfl, rfl⟩ ⟨Nat.le_of_ble_eq_true rfl, Nat.le_of_ble_eq_true rfl⟩ ⟨by show _ ≤ 601024; omega, by show _ ≤ 7293034; omega⟩ hl.1 rfl (Nat.le_of_ble_eq_true rfl) dL_law_1495) hP (fun v_1495 u_1495 H locs h hP => ?_)
  refine lv_istore (lv' := [(5, .int v_1495), (0, .ref b), (1, .ref x1), (2, .ref x2), (3, .ref x3), (4, .int x4)]) hx hb dL_law_1498 hl (by decide) rfl (fun ls hl => ?_)
  refine lv_aload_n hx hb dL_law_1500 rfl (lv_at hl 3 rfl) ?_
  refine lv_aload_n hx hb dL_law_1501 rfl (lv_at hl 1 rfl) ?_
  refine lv_iload hx hb dL_law_1502 (lv_at hl 5 rfl) ?_
  refine lv_iconst (v := (1 : Int32)) hx hb dL_law_1504 (by decide) ?_
  refine lv_iadd hx hb dL_law_1505 ?_
  refine va_sld hx hb hX hbl hbA hP.2 g1 dL_law_1506 ?_
  refine lv_aload_n hx hb dL_law_1507 rfl (lv_at hl 1 rfl) ?_
  refine lv_iload hx hb dL_law_1508 (lv_at hl 5 rfl) ?_
  refine lv_iconst (v := (2 : Int32)) hx hb dL_law_1510 (by decide) ?_
  refine lv_iadd hx hb dL_law_1511 ?_
  refine va_sld hx hb hX hbl hbA hP.2 g2 dL_law_1512 ?_
  refine lv_aload_n hx hb dL_law_1513 rfl (lv_at hl 1 rfl) ?_
  refine lv_iload hx hb dL_law_1514 (lv_at hl 5 rfl) ?_
  refine lv_iconst (v := (3 : Int32)) hx hb dL_law_1516 (by decide) ?_
  refine lv_iadd hx hb dL_law_1517 ?_
  refine va_sld hx hb hX hbl hbA hP.2 g3 dL_law_1518 ?_
  refine lv_aload_n hx hb dL_law_1519 rfl (lv_at hl 1 rfl) ?_
  refine lv_iload hx hb dL_law_1520 (lv_at hl 5 rfl) ?_
  refine lv_iconst (v := (4 : Int32)) hx hb dL_law_1522 (by decide) ?_
  refine lv_iadd hx hb dL_law_1523 ?_
  refine va_sld hx hb hX hbl hbA hP.2 g4 dL_law_1524 ?_
  refine lv_aload_n hx hb dL_law_1525 rfl (lv_at hl 1 rfl) ?_
  refine lv_iload hx hb dL_law_1526 (lv_at hl 5 rfl) ?_
  refine lv_iconst (v := (5 : Int32)) hx hb dL_law_1528 (by decide) ?_
  refine lv_iadd hx hb dL_law_1529 ?_
  refine va_sld hx hb hX hbl hbA hP.2 g5 dL_law_1530 ?_
  obtain ⟨g6, h⟩ := h
  refine q_cali (q_runV C hP (c_X12_knows h) (cd_X12_knows C.hA) (ini_X12 C.hA) (ml_L_144 C.hA) (im_X12_knows C.hA) (sl_X12_knows C.hA) g6 (by decide) rfl hd_X12_knows ⟨rfl, rfl⟩ ⟨Nat.le_of_ble_eq_true rfl, Nat.le_of_ble_eq_true rfl⟩ ⟨by show _ ≤ 601024; omega, by show _ ≤ 7293034; omega⟩ hl.1 rfl (Nat.le_of_ble_eq_true rfl) dL_law_1531) hP (fun v_1531 u_1531 H locs h hP => ?_)
  refine lv_istore (lv' := [(6, .int v_1531), (5, .int v_1495), (0, .ref b), (1, .ref x1), (2, .ref x2), (3, .ref x3), (4, .int x4)]) hx hb dL_law_1534 hl (by decide) rfl (fun ls hl => ?_)
  refine lv_aload_n hx hb dL_law_1536 rfl (lv_at hl 4 rfl) ?_
  refine q_cali (q_runV C hP (c_X12_thrown h) (cd_X12_thrown C.hA) (ini_X12 C.hA) (ml_L_82 C.hA) (im_X12_thrown C.hA) (sl_X12_thrown C.hA) g6 (by decide) rfl hd_X12_thrown ⟨rfl, rfl⟩ ⟨Nat.le_of_ble_eq_true rfl, Nat.le_of_ble_eq_true rfl⟩ ⟨by show _ ≤ 601024; omega, by show _ ≤ 7293034; omega⟩ hl.1 rfl (Nat.le_of_ble_eq_true rfl) dL_law_1537) hP (fun v_1537 u_1537 H locs h hP => ?_)
  refine lv_iload hx hb dL_law_1540 (lv_at hl 1 rfl) ?_
  refine lv_icmp_eq (tgt := 1547) hx hb dL_law_1542 (by decide) (fun c1542 => ?_) (fun c1542 => ?_)
  · have h := h.1 c1542
    refine lv_iload hx hb dL_law_1547 (lv_at hl 1 rfl) ?_
    refine lv_if_ne (tgt := 1564) hx hb dL_law_1549 (by decide) (fun c1549 => ?_) (fun c1549 => ?_)
    · have h := h.2 c1549
      refine W.widen (k := cells + 8) (n := slots + 64) (by omega) (by omega) ?_
      exact b_L_law_1564 hst C hr hlk hN hX hbl hz0 hcs hk_23 h (lv_sub hl [2, 3, 4, 5, 6] rfl) hP
    · have h := h.1 c1549
      refine lv_aload_n hx hb dL_law_1552 rfl (lv_at hl 5 rfl) ?_
      refine lv_iconst (v := (0 : Int32)) hx hb dL_law_1553 (by decide) ?_
      obtain ⟨g7, h⟩ := h
      obtain ⟨g8, h⟩ := h
      refine q_lald C hP g7 g8 dL_law_1554 ?_
      refine lv_iload hx hb dL_law_1555 (lv_at hl 0 rfl) ?_
      refine lv_i2l (v := v_1531.toInt64) hx hb dL_law_1557 rfl ?_
      refine W.lcmp hx hb dL_law_1558 ?_
      refine lv_if_eq (tgt := 1564) hx hb dL_law_1559 (by decide) (fun c1559 => ?_) (fun c1559 => ?_)
      · have h := h.1 c1559
        refine W.widen (k := cells + 8) (n := slots + 64) (by omega) (by omega) ?_
        exact b_L_law_1564 hst C hr hlk hN hX hbl hz0 hcs hk_23 h (lv_sub hl [2, 3, 4, 5, 6] rfl) hP
      · have h := h.2 c1559
        refine lv_iconst (v := (0 : Int32)) hx hb dL_law_1562 (by decide) ?_
        exact h.elim
  · have h := h.2 c1542
    refine lv_iconst (v := (0 : Int32)) hx hb dL_law_1545 (by decide) ?_
    exact h.elim
set_option maxHeartbeats 4000000 in
set_option maxRecDepth 100000 in
theorem b_L_law_1460 {G : Gx} {b L : Nat} {xs : Nat → Int32} {p : Program} {l : Launch} {e : Env} {s : State} {m : MethodId} {below : List Frame} {meth : Method} {c : Code} (hst : l.stackTraces = false) (C : Cx G p s m c cL_law RL 7) (hr : meth.sig.returnType = ret) (hlk : meth.locks = false) (hN : ncE s) (hX : va_X b L xs s s.heap) (hbl : b < s.heap.size) (hz0 : gz G = s.heap.size) {cells slots : Nat} (hcs : cells + 16 ≤ 601024 ∧ slots + 128 ≤ 7293034) {k_23 : Nat → Nat → Nat → Int32 → Mm → Prop} (hk_23 : ∀ (x1 : Nat) (x2 : Nat) (x3 : Nat) (x4 : Int32) (u : Mm) (H : Heap) (locs : List Loc) (ls : Array Slot), k_23 x1 x2 x3 x4 u → lv_has ls 7 [(0, .ref b), (1, .ref x1), (2, .ref x2), (3, .ref x3), (4, .int x4)] → Hp G u s H locs → W p l e room_1 s m #[Value.ref b] below meth c H locs (cells + 16) (slots + 128) (lw_Z below #[Value.ref b] s) (F0 m 23 ls [])) {x1 : Nat} {x2 : Nat} {x3 : Nat} {x4 : Int32} {u : Mm} {H : Heap} {locs : List Loc} {ls : Array Slot} (h : V_L_law_1460 G b L xs k_23 x1 x2 x3 x4 u) (hl : lv_has ls 7 [(0, .ref b), (1, .ref x1), (2, .ref x2), (3, .ref x3), (4, .int x4)]) (hP : Hp G u s H locs) : W p l e room_1 s m #[Value.ref b] below meth c H locs (cells + 8) (slots + 64) (lw_Z below #[Value.ref b] s) (F0 m 1460 ls []) := by
  have hx := C.1
  have hb := C.2.1
  have hbA : ¬ ag G b := by unfold ag; omega
  unfold V_L_law_1460 at h
  refine lv_goto (tgt := 1694) hx hb dL_law_1460 (by decide) ?_
  refine W.widen (k := cells + 16) (n := slots + 128) (by omega) (by omega) ?_
  exact b_L_law_1694 hst C hr hlk hN hX hbl hz0 hcs hk_23 h (lv_sub hl [0, 1, 2, 3, 4] rfl) hP
set_option maxHeartbeats 4000000 in
set_option maxRecDepth 100000 in
theorem b_L_law_1371 {G : Gx} {b L : Nat} {xs : Nat → Int32} {p : Program} {l : Launch} {e : Env} {s : State} {m : MethodId} {below : List Frame} {meth : Method} {c : Code} (hst : l.stackTraces = false) (C : Cx G p s m c cL_law RL 7) (hr : meth.sig.returnType = ret) (hlk : meth.locks = false) (hN : ncE s) (hX : va_X b L xs s s.heap) (hbl : b < s.heap.size) (hz0 : gz G = s.heap.size) {cells slots : Nat} (hcs : cells + 16 ≤ 601024 ∧ slots + 128 ≤ 7293034) {k_23 : Nat → Nat → Nat → Int32 → Mm → Prop} (hk_23 : ∀ (x1 : Nat) (x2 : Nat) (x3 : Nat) (x4 : Int32) (u : Mm) (H : Heap) (locs : List Loc) (ls : Array Slot), k_23 x1 x2 x3 x4 u → lv_has ls 7 [(0, .ref b), (1, .ref x1), (2, .ref x2), (3, .ref x3), (4, .int x4)] → Hp G u s H locs → W p l e room_1 s m #[Value.ref b] below meth c H locs (cells + 16) (slots + 128) (lw_Z below #[Value.ref b] s) (F0 m 23 ls [])) {x1 : Nat} {x2 : Nat} {x3 : Nat} {x4 : Int32} {u : Mm} {H : Heap} {locs : List Loc} {ls : Array Slot} (h : V_L_law_1371 G b L xs k_23 x1 x2 x3 x4 u) (hl : lv_has ls 7 [(0, .ref b), (1, .ref x1), (2, .ref x2), (3, .ref x3), (4, .int x4)]) (hP : Hp G u s H locs) : W p l e room_1 s m #[Value.ref b] below meth c H locs cells slots (lw_Z below #[Value.ref b] s) (F0 m 1371 ls []) := by
  have hx := C.1
  have hb := C.2.1
  have hbA : ¬ ag G b := by unfold ag; omega
  unfold V_L_law_1371 at h
  refine lv_aload_n hx hb dL_law_1371 rfl (lv_at hl 1 rfl) ?_
  refine lv_aload_n hx hb dL_law_1372 rfl (lv_at hl 0 rfl) ?_
  refine lv_iload hx hb dL_law_1373 (lv_at hl 4 rfl) ?_
  refine lv_iconst (v := (1 : Int32)) hx hb dL_law_1375 (by decide) ?_
  refine lv_iadd hx hb dL_law_1376 ?_
  obtain ⟨g1, h⟩ := h
  refine va_sld hx hb hX hbl hbA hP.2 g1 dL_law_1377 ?_
  refine lv_aload_n hx hb dL_law_1378 rfl (lv_at hl 0 rfl) ?_
  refine lv_iload hx hb dL_law_1379 (lv_at hl 4 rfl) ?_
  refine lv_iconst (v := (2 : Int32)) hx hb dL_law_1381 (by decide) ?_
  refine lv_iadd hx hb dL_law_1382 ?_
  obtain ⟨g2, h⟩ := h
  refine va_sld hx hb hX hbl hbA hP.2 g2 dL_law_1383 ?_
  refine lv_aload_n hx hb dL_law_1384 rfl (lv_at hl 0 rfl) ?_
  refine lv_iload hx hb dL_law_1385 (lv_at hl 4 rfl) ?_
  refine lv_iconst (v := (3 : Int32)) hx hb dL_law_1387 (by decide) ?_
  refine lv_iadd hx hb dL_law_1388 ?_
  obtain ⟨g3, h⟩ := h
  refine va_sld hx hb hX hbl hbA hP.2 g3 dL_law_1389 ?_
  refine lv_aload_n hx hb dL_law_1390 rfl (lv_at hl 0 rfl) ?_
  refine lv_iload hx hb dL_law_1391 (lv_at hl 4 rfl) ?_
  refine lv_iconst (v := (4 : Int32)) hx hb dL_law_1393 (by decide) ?_
  refine lv_iadd hx hb dL_law_1394 ?_
  obtain ⟨g4, h⟩ := h
  refine va_sld hx hb hX hbl hbA hP.2 g4 dL_law_1395 ?_
  refine lv_aload_n hx hb dL_law_1396 rfl (lv_at hl 3 rfl) ?_
  refine q_calim (q_runSL C hN hP (c_L_next hst h) rfl (cw_L_next C.hA) (ini_L C.hA) (ml_L_138 C.hA) (st_L_next C.hA) hd_L_next ⟨rfl, rfl⟩ ⟨Nat.le_of_ble_eq_true rfl, Nat.le_of_ble_eq_true rfl⟩ ⟨by show _ ≤ 601024; omega, by show _ ≤ 7293034; omega⟩ hl.1 rfl (Nat.le_of_ble_eq_true rfl) dL_law_1397) hP (fun v_1397 u_1397 H locs h hP => ?_)
  refine lv_istore (lv' := [(5, .int v_1397), (0, .ref b), (1, .ref x1), (2, .ref x2), (3, .ref x3), (4, .int x4)]) hx hb dL_law_1400 hl (by decide) rfl (fun ls hl => ?_)
  refine lv_aload_n hx hb dL_law_1402 rfl (lv_at hl 3 rfl) ?_
  refine lv_aload_n hx hb dL_law_1403 rfl (lv_at hl 1 rfl) ?_
  refine lv_iload hx hb dL_law_1404 (lv_at hl 5 rfl) ?_
  refine lv_iconst (v := (1 : Int32)) hx hb dL_law_1406 (by decide) ?_
  refine lv_iadd hx hb dL_law_1407 ?_
  refine va_sld hx hb hX hbl hbA hP.2 g1 dL_law_1408 ?_
  refine lv_aload_n hx hb dL_law_1409 rfl (lv_at hl 1 rfl) ?_
  refine lv_iload hx hb dL_law_1410 (lv_at hl 5 rfl) ?_
  refine lv_iconst (v := (2 : Int32)) hx hb dL_law_1412 (by decide) ?_
  refine lv_iadd hx hb dL_law_1413 ?_
  refine va_sld hx hb hX hbl hbA hP.2 g2 dL_law_1414 ?_
  refine lv_aload_n hx hb dL_law_1415 rfl (lv_at hl 1 rfl) ?_
  refine lv_iload hx hb dL_law_1416 (lv_at hl 5 rfl) ?_
  refine lv_iconst (v := (3 : Int32)) hx hb dL_law_1418 (by decide) ?_
  refine lv_iadd hx hb dL_law_1419 ?_
  refine va_sld hx hb hX hbl hbA hP.2 g3 dL_law_1420 ?_
  refine lv_aload_n hx hb dL_law_1421 rfl (lv_at hl 1 rfl) ?_
  refine lv_iload hx hb dL_law_1422 (lv_at hl 5 rfl) ?_
  refine lv_iconst (v := (4 : Int32)) hx hb dL_law_1424 (by decide) ?_
  refine lv_iadd hx hb dL_law_1425 ?_
  refine va_sld hx hb hX hbl hbA hP.2 g4 dL_law_1426 ?_
  obtain ⟨g5, h⟩ := h
  refine q_cali (q_runV C hP (c_X12_next h) (cd_X12_next C.hA) (ini_X12 C.hA) (ml_L_140 C.hA) (im_X12_next C.hA) (sl_X12_next C.hA) g5 (by decide) rfl hd_X12_next ⟨rfl, rfl⟩ ⟨Nat.le_of_ble_eq_true rfl, Nat.le_of_ble_eq_true rfl⟩ ⟨by show _ ≤ 601024; omega, by show _ ≤ 7293034; omega⟩ hl.1 rfl (Nat.le_of_ble_eq_true rfl) dL_law_1427) hP (fun v_1427 u_1427 H locs h hP => ?_)
  refine lv_istore (lv' := [(6, .int v_1427), (5, .int v_1397), (0, .ref b), (1, .ref x1), (2, .ref x2), (3, .ref x3), (4, .int x4)]) hx hb dL_law_1430 hl (by decide) rfl (fun ls hl => ?_)
  refine lv_aload_n hx hb dL_law_1432 rfl (lv_at hl 4 rfl) ?_
  refine q_cali (q_runV C hP (c_X12_thrown h) (cd_X12_thrown C.hA) (ini_X12 C.hA) (ml_L_82 C.hA) (im_X12_thrown C.hA) (sl_X12_thrown C.hA) g5 (by decide) rfl hd_X12_thrown ⟨rfl, rfl⟩ ⟨Nat.le_of_ble_eq_true rfl, Nat.le_of_ble_eq_true rfl⟩ ⟨by show _ ≤ 601024; omega, by show _ ≤ 7293034; omega⟩ hl.1 rfl (Nat.le_of_ble_eq_true rfl) dL_law_1433) hP (fun v_1433 u_1433 H locs h hP => ?_)
  refine lv_iload hx hb dL_law_1436 (lv_at hl 1 rfl) ?_
  refine lv_icmp_eq (tgt := 1443) hx hb dL_law_1438 (by decide) (fun c1438 => ?_) (fun c1438 => ?_)
  · have h := h.1 c1438
    refine lv_iload hx hb dL_law_1443 (lv_at hl 1 rfl) ?_
    refine lv_if_ne (tgt := 1460) hx hb dL_law_1445 (by decide) (fun c1445 => ?_) (fun c1445 => ?_)
    · have h := h.2 c1445
      refine W.widen (k := cells + 8) (n := slots + 64) (by omega) (by omega) ?_
      exact b_L_law_1460 hst C hr hlk hN hX hbl hz0 hcs hk_23 h (lv_sub hl [2, 3, 4, 5, 6] rfl) hP
    · have h := h.1 c1445
      refine lv_aload_n hx hb dL_law_1448 rfl (lv_at hl 5 rfl) ?_
      refine lv_iconst (v := (0 : Int32)) hx hb dL_law_1449 (by decide) ?_
      obtain ⟨g6, h⟩ := h
      obtain ⟨g7, h⟩ := h
      refine q_lald C hP g6 g7 dL_law_1450 ?_
      refine lv_iload hx hb dL_law_1451 (lv_at hl 0 rfl) ?_
      refine lv_i2l (v := v_1427.toInt64) hx hb dL_law_1453 rfl ?_
      refine W.lcmp hx hb dL_law_1454 ?_
      refine lv_if_eq (tgt := 1460) hx hb dL_law_1455 (by decide) (fun c1455 => ?_) (fun c1455 => ?_)
      · have h := h.1 c1455
        refine W.widen (k := cells + 8) (n := slots + 64) (by omega) (by omega) ?_
        exact b_L_law_1460 hst C hr hlk hN hX hbl hz0 hcs hk_23 h (lv_sub hl [2, 3, 4, 5, 6] rfl) hP
      · have h := h.2 c1455
        refine lv_iconst (v := (0 : Int32)) hx hb dL_law_1458 (by decide) ?_
        exact h.elim
  · have h := h.2 c1438
    refine lv_iconst (v := (0 : Int32)) hx hb dL_law_1441 (by decide) ?_
    exact h.elim
set_option maxHeartbeats 4000000 in
set_option maxRecDepth 100000 in
theorem b_L_law_1334 {G : Gx} {b L : Nat} {xs : Nat → Int32} {p : Program} {l : Launch} {e : Env} {s : State} {m : MethodId} {below : List Frame} {meth : Method} {c : Code} (hst : l.stackTraces = false) (C : Cx G p s m c cL_law RL 7) (hr : meth.sig.returnType = ret) (hlk : meth.locks = false) (hN : ncE s) (hX : va_X b L xs s s.heap) (hbl : b < s.heap.size) (hz0 : gz G = s.heap.size) {cells slots : Nat} (hcs : cells + 16 ≤ 601024 ∧ slots + 128 ≤ 7293034) {k_23 : Nat → Nat → Nat → Int32 → Mm → Prop} (hk_23 : ∀ (x1 : Nat) (x2 : Nat) (x3 : Nat) (x4 : Int32) (u : Mm) (H : Heap) (locs : List Loc) (ls : Array Slot), k_23 x1 x2 x3 x4 u → lv_has ls 7 [(0, .ref b), (1, .ref x1), (2, .ref x2), (3, .ref x3), (4, .int x4)] → Hp G u s H locs → W p l e room_1 s m #[Value.ref b] below meth c H locs (cells + 16) (slots + 128) (lw_Z below #[Value.ref b] s) (F0 m 23 ls [])) {x1 : Nat} {x2 : Nat} {x3 : Nat} {x4 : Int32} {u : Mm} {H : Heap} {locs : List Loc} {ls : Array Slot} (h : V_L_law_1334 G b L xs k_23 x1 x2 x3 x4 u) (hl : lv_has ls 7 [(0, .ref b), (1, .ref x1), (2, .ref x2), (3, .ref x3), (4, .int x4)]) (hP : Hp G u s H locs) : W p l e room_1 s m #[Value.ref b] below meth c H locs cells slots (lw_Z below #[Value.ref b] s) (F0 m 1334 ls []) := by
  have hx := C.1
  have hb := C.2.1
  have hbA : ¬ ag G b := by unfold ag; omega
  unfold V_L_law_1334 at h
  refine lv_aload_n hx hb dL_law_1334 rfl (lv_at hl 1 rfl) ?_
  refine lv_aload_n hx hb dL_law_1335 rfl (lv_at hl 0 rfl) ?_
  refine lv_iload hx hb dL_law_1336 (lv_at hl 4 rfl) ?_
  refine lv_iconst (v := (1 : Int32)) hx hb dL_law_1338 (by decide) ?_
  refine lv_iadd hx hb dL_law_1339 ?_
  obtain ⟨g1, h⟩ := h
  refine va_sld hx hb hX hbl hbA hP.2 g1 dL_law_1340 ?_
  refine lv_aload_n hx hb dL_law_1341 rfl (lv_at hl 0 rfl) ?_
  refine lv_iload hx hb dL_law_1342 (lv_at hl 4 rfl) ?_
  refine lv_iconst (v := (2 : Int32)) hx hb dL_law_1344 (by decide) ?_
  refine lv_iadd hx hb dL_law_1345 ?_
  obtain ⟨g2, h⟩ := h
  refine va_sld hx hb hX hbl hbA hP.2 g2 dL_law_1346 ?_
  obtain ⟨g3, h⟩ := h
  refine q_cali (q_runV C hP (c_X11_spot h) (cd_X11_spot C.hA) (ini_X11 C.hA) (ml_L_134 C.hA) (im_X11_spot C.hA) (sl_X11_spot C.hA) g3 (by decide) rfl hd_X11_spot ⟨rfl, rfl⟩ ⟨Nat.le_of_ble_eq_true rfl, Nat.le_of_ble_eq_true rfl⟩ ⟨by show _ ≤ 601024; omega, by show _ ≤ 7293034; omega⟩ hl.1 rfl (Nat.le_of_ble_eq_true rfl) dL_law_1347) hP (fun v_1347 u_1347 H locs h hP => ?_)
  refine lv_aload_n hx hb dL_law_1350 rfl (lv_at hl 2 rfl) ?_
  refine lv_aload_n hx hb dL_law_1351 rfl (lv_at hl 0 rfl) ?_
  refine lv_iload hx hb dL_law_1352 (lv_at hl 4 rfl) ?_
  refine lv_iconst (v := (1 : Int32)) hx hb dL_law_1354 (by decide) ?_
  refine lv_iadd hx hb dL_law_1355 ?_
  refine va_sld hx hb hX hbl hbA hP.2 g1 dL_law_1356 ?_
  refine lv_aload_n hx hb dL_law_1357 rfl (lv_at hl 0 rfl) ?_
  refine lv_iload hx hb dL_law_1358 (lv_at hl 4 rfl) ?_
  refine lv_iconst (v := (2 : Int32)) hx hb dL_law_1360 (by decide) ?_
  refine lv_iadd hx hb dL_law_1361 ?_
  refine va_sld hx hb hX hbl hbA hP.2 g2 dL_law_1362 ?_
  obtain ⟨g4, h⟩ := h
  refine q_cali (q_runV C hP (c_X12_spot h) (cd_X12_spot C.hA) (ini_X12 C.hA) (ml_L_137 C.hA) (im_X12_spot C.hA) (sl_X12_spot C.hA) g4 (by decide) rfl hd_X12_spot ⟨rfl, rfl⟩ ⟨Nat.le_of_ble_eq_true rfl, Nat.le_of_ble_eq_true rfl⟩ ⟨by show _ ≤ 601024; omega, by show _ ≤ 7293034; omega⟩ hl.1 rfl (Nat.le_of_ble_eq_true rfl) dL_law_1363) hP (fun v_1363 u_1363 H locs h hP => ?_)
  refine lv_icmp_eq (tgt := 1694) hx hb dL_law_1366 (by decide) (fun c1366 => ?_) (fun c1366 => ?_)
  · have h := h.1 c1366
    refine W.widen (k := cells + 16) (n := slots + 128) (by omega) (by omega) ?_
    exact b_L_law_1694 hst C hr hlk hN hX hbl hz0 hcs hk_23 h (lv_sub hl [0, 1, 2, 3, 4] rfl) hP
  · have h := h.2 c1366
    refine lv_iconst (v := (0 : Int32)) hx hb dL_law_1369 (by decide) ?_
    exact h.elim
set_option maxHeartbeats 4000000 in
set_option maxRecDepth 100000 in
theorem b_L_law_1331 {G : Gx} {b L : Nat} {xs : Nat → Int32} {p : Program} {l : Launch} {e : Env} {s : State} {m : MethodId} {below : List Frame} {meth : Method} {c : Code} (hst : l.stackTraces = false) (C : Cx G p s m c cL_law RL 7) (hr : meth.sig.returnType = ret) (hlk : meth.locks = false) (hN : ncE s) (hX : va_X b L xs s s.heap) (hbl : b < s.heap.size) (hz0 : gz G = s.heap.size) {cells slots : Nat} (hcs : cells + 16 ≤ 601024 ∧ slots + 128 ≤ 7293034) {k_23 : Nat → Nat → Nat → Int32 → Mm → Prop} (hk_23 : ∀ (x1 : Nat) (x2 : Nat) (x3 : Nat) (x4 : Int32) (u : Mm) (H : Heap) (locs : List Loc) (ls : Array Slot), k_23 x1 x2 x3 x4 u → lv_has ls 7 [(0, .ref b), (1, .ref x1), (2, .ref x2), (3, .ref x3), (4, .int x4)] → Hp G u s H locs → W p l e room_1 s m #[Value.ref b] below meth c H locs (cells + 16) (slots + 128) (lw_Z below #[Value.ref b] s) (F0 m 23 ls [])) {x1 : Nat} {x2 : Nat} {x3 : Nat} {x4 : Int32} {u : Mm} {H : Heap} {locs : List Loc} {ls : Array Slot} (h : V_L_law_1331 G b L xs k_23 x1 x2 x3 x4 u) (hl : lv_has ls 7 [(0, .ref b), (1, .ref x1), (2, .ref x2), (3, .ref x3), (4, .int x4)]) (hP : Hp G u s H locs) : W p l e room_1 s m #[Value.ref b] below meth c H locs (cells + 8) (slots + 64) (lw_Z below #[Value.ref b] s) (F0 m 1331 ls []) := by
  have hx := C.1
  have hb := C.2.1
  have hbA : ¬ ag G b := by unfold ag; omega
  unfold V_L_law_1331 at h
  refine lv_goto (tgt := 1694) hx hb dL_law_1331 (by decide) ?_
  refine W.widen (k := cells + 16) (n := slots + 128) (by omega) (by omega) ?_
  exact b_L_law_1694 hst C hr hlk hN hX hbl hz0 hcs hk_23 h (lv_sub hl [0, 1, 2, 3, 4] rfl) hP
set_option maxHeartbeats 4000000 in
set_option maxRecDepth 100000 in
theorem b_L_law_1254 {G : Gx} {b L : Nat} {xs : Nat → Int32} {p : Program} {l : Launch} {e : Env} {s : State} {m : MethodId} {below : List Frame} {meth : Method} {c : Code} (hst : l.stackTraces = false) (C : Cx G p s m c cL_law RL 7) (hr : meth.sig.returnType = ret) (hlk : meth.locks = false) (hN : ncE s) (hX : va_X b L xs s s.heap) (hbl : b < s.heap.size) (hz0 : gz G = s.heap.size) {cells slots : Nat} (hcs : cells + 16 ≤ 601024 ∧ slots + 128 ≤ 7293034) {k_23 : Nat → Nat → Nat → Int32 → Mm → Prop} (hk_23 : ∀ (x1 : Nat) (x2 : Nat) (x3 : Nat) (x4 : Int32) (u : Mm) (H : Heap) (locs : List Loc) (ls : Array Slot), k_23 x1 x2 x3 x4 u → lv_has ls 7 [(0, .ref b), (1, .ref x1), (2, .ref x2), (3, .ref x3), (4, .int x4)] → Hp G u s H locs → W p l e room_1 s m #[Value.ref b] below meth c H locs (cells + 16) (slots + 128) (lw_Z below #[Value.ref b] s) (F0 m 23 ls [])) {x1 : Nat} {x2 : Nat} {x3 : Nat} {x4 : Int32} {u : Mm} {H : Heap} {locs : List Loc} {ls : Array Slot} (h : V_L_law_1254 G b L xs k_23 x1 x2 x3 x4 u) (hl : lv_has ls 7 [(0, .ref b), (1, .ref x1), (2, .ref x2), (3, .ref x3), (4, .int x4)]) (hP : Hp G u s H locs) : W p l e room_1 s m #[Value.ref b] below meth c H locs cells slots (lw_Z below #[Value.ref b] s) (F0 m 1254 ls []) := by
  have hx := C.1
  have hb := C.2.1
  have hbA : ¬ ag G b := by unfold ag; omega
  unfold V_L_law_1254 at h
  refine lv_aload_n hx hb dL_law_1254 rfl (lv_at hl 1 rfl) ?_
  refine lv_aload_n hx hb dL_law_1255 rfl (lv_at hl 0 rfl) ?_
  refine lv_iload hx hb dL_law_1256 (lv_at hl 4 rfl) ?_
  refine lv_iconst (v := (1 : Int32)) hx hb dL_law_1258 (by decide) ?_
  refine lv_iadd hx hb dL_law_1259 ?_
  obtain ⟨g1, h⟩ := h
  refine va_sld hx hb hX hbl hbA hP.2 g1 dL_law_1260 ?_
  refine lv_aload_n hx hb dL_law_1261 rfl (lv_at hl 0 rfl) ?_
  refine lv_iload hx hb dL_law_1262 (lv_at hl 4 rfl) ?_
  refine lv_iconst (v := (2 : Int32)) hx hb dL_law_1264 (by decide) ?_
  refine lv_iadd hx hb dL_law_1265 ?_
  obtain ⟨g2, h⟩ := h
  refine va_sld hx hb hX hbl hbA hP.2 g2 dL_law_1266 ?_
  refine lv_aload_n hx hb dL_law_1267 rfl (lv_at hl 0 rfl) ?_
  refine lv_iload hx hb dL_law_1268 (lv_at hl 4 rfl) ?_
  refine lv_iconst (v := (3 : Int32)) hx hb dL_law_1270 (by decide) ?_
  refine lv_iadd hx hb dL_law_1271 ?_
  obtain ⟨g3, h⟩ := h
  refine va_sld hx hb hX hbl hbA hP.2 g3 dL_law_1272 ?_
  refine lv_aload_n hx hb dL_law_1273 rfl (lv_at hl 3 rfl) ?_
  refine q_calim (q_runSL C hN hP (c_L_plans hst h) rfl (cw_L_plans C.hA) (ini_L C.hA) (ml_L_131 C.hA) (st_L_plans C.hA) hd_L_plans ⟨rfl, rfl⟩ ⟨Nat.le_of_ble_eq_true rfl, Nat.le_of_ble_eq_true rfl⟩ ⟨by show _ ≤ 601024; omega, by show _ ≤ 7293034; omega⟩ hl.1 rfl (Nat.le_of_ble_eq_true rfl) dL_law_1274) hP (fun v_1274 u_1274 H locs h hP => ?_)
  refine lv_istore (lv' := [(5, .int v_1274), (0, .ref b), (1, .ref x1), (2, .ref x2), (3, .ref x3), (4, .int x4)]) hx hb dL_law_1277 hl (by decide) rfl (fun ls hl => ?_)
  refine lv_aload_n hx hb dL_law_1279 rfl (lv_at hl 3 rfl) ?_
  refine lv_aload_n hx hb dL_law_1280 rfl (lv_at hl 1 rfl) ?_
  refine lv_iload hx hb dL_law_1281 (lv_at hl 5 rfl) ?_
  refine lv_iconst (v := (1 : Int32)) hx hb dL_law_1283 (by decide) ?_
  refine lv_iadd hx hb dL_law_1284 ?_
  refine va_sld hx hb hX hbl hbA hP.2 g1 dL_law_1285 ?_
  refine lv_aload_n hx hb dL_law_1286 rfl (lv_at hl 1 rfl) ?_
  refine lv_iload hx hb dL_law_1287 (lv_at hl 5 rfl) ?_
  refine lv_iconst (v := (2 : Int32)) hx hb dL_law_1289 (by decide) ?_
  refine lv_iadd hx hb dL_law_1290 ?_
  refine va_sld hx hb hX hbl hbA hP.2 g2 dL_law_1291 ?_
  refine lv_aload_n hx hb dL_law_1292 rfl (lv_at hl 1 rfl) ?_
  refine lv_iload hx hb dL_law_1293 (lv_at hl 5 rfl) ?_
  refine lv_iconst (v := (3 : Int32)) hx hb dL_law_1295 (by decide) ?_
  refine lv_iadd hx hb dL_law_1296 ?_
  refine va_sld hx hb hX hbl hbA hP.2 g3 dL_law_1297 ?_
  obtain ⟨g4, h⟩ := h
  refine q_cali (q_runV C hP (c_X12_plans h) (cd_X12_plans C.hA) (ini_X12 C.hA) (ml_L_133 C.hA) (im_X12_plans C.hA) (sl_X12_plans C.hA) g4 (by decide) rfl hd_X12_plans ⟨rfl, rfl⟩ ⟨Nat.le_of_ble_eq_true rfl, Nat.le_of_ble_eq_true rfl⟩ ⟨by show _ ≤ 601024; omega, by show _ ≤ 7293034; omega⟩ hl.1 rfl (Nat.le_of_ble_eq_true rfl) dL_law_1298) hP (fun v_1298 u_1298 H locs h hP => ?_)
  refine lv_istore (lv' := [(6, .int v_1298), (5, .int v_1274), (0, .ref b), (1, .ref x1), (2, .ref x2), (3, .ref x3), (4, .int x4)]) hx hb dL_law_1301 hl (by decide) rfl (fun ls hl => ?_)
  refine lv_aload_n hx hb dL_law_1303 rfl (lv_at hl 4 rfl) ?_
  refine q_cali (q_runV C hP (c_X12_thrown h) (cd_X12_thrown C.hA) (ini_X12 C.hA) (ml_L_82 C.hA) (im_X12_thrown C.hA) (sl_X12_thrown C.hA) g4 (by decide) rfl hd_X12_thrown ⟨rfl, rfl⟩ ⟨Nat.le_of_ble_eq_true rfl, Nat.le_of_ble_eq_true rfl⟩ ⟨by show _ ≤ 601024; omega, by show _ ≤ 7293034; omega⟩ hl.1 rfl (Nat.le_of_ble_eq_true rfl) dL_law_1304) hP (fun v_1304 u_1304 H locs h hP => ?_)
  refine lv_iload hx hb dL_law_1307 (lv_at hl 1 rfl) ?_
  refine lv_icmp_eq (tgt := 1314) hx hb dL_law_1309 (by decide) (fun c1309 => ?_) (fun c1309 => ?_)
  · have h := h.1 c1309
    refine lv_iload hx hb dL_law_1314 (lv_at hl 1 rfl) ?_
    refine lv_if_ne (tgt := 1331) hx hb dL_law_1316 (by decide) (fun c1316 => ?_) (fun c1316 => ?_)
    · have h := h.2 c1316
      refine W.widen (k := cells + 8) (n := slots + 64) (by omega) (by omega) ?_
      exact b_L_law_1331 hst C hr hlk hN hX hbl hz0 hcs hk_23 h (lv_sub hl [2, 3, 4, 5, 6] rfl) hP
    · have h := h.1 c1316
      refine lv_aload_n hx hb dL_law_1319 rfl (lv_at hl 5 rfl) ?_
      refine lv_iconst (v := (0 : Int32)) hx hb dL_law_1320 (by decide) ?_
      obtain ⟨g5, h⟩ := h
      obtain ⟨g6, h⟩ := h
      refine q_lald C hP g5 g6 dL_law_1321 ?_
      refine lv_iload hx hb dL_law_1322 (lv_at hl 0 rfl) ?_
      refine lv_i2l (v := v_1298.toInt64) hx hb dL_law_1324 rfl ?_
      refine W.lcmp hx hb dL_law_1325 ?_
      refine lv_if_eq (tgt := 1331) hx hb dL_law_1326 (by decide) (fun c1326 => ?_) (fun c1326 => ?_)
      · have h := h.1 c1326
        refine W.widen (k := cells + 8) (n := slots + 64) (by omega) (by omega) ?_
        exact b_L_law_1331 hst C hr hlk hN hX hbl hz0 hcs hk_23 h (lv_sub hl [2, 3, 4, 5, 6] rfl) hP
      · have h := h.2 c1326
        refine lv_iconst (v := (0 : Int32)) hx hb dL_law_1329 (by decide) ?_
        exact h.elim
  · have h := h.2 c1309
    refine lv_iconst (v := (0 : Int32)) hx hb dL_law_1312 (by decide) ?_
    exact h.elim
set_option maxHeartbeats 4000000 in
set_option maxRecDepth 100000 in
theorem b_L_law_1251 {G : Gx} {b L : Nat} {xs : Nat → Int32} {p : Program} {l : Launch} {e : Env} {s : State} {m : MethodId} {below : List Frame} {meth : Method} {c : Code} (hst : l.stackTraces = false) (C : Cx G p s m c cL_law RL 7) (hr : meth.sig.returnType = ret) (hlk : meth.locks = false) (hN : ncE s) (hX : va_X b L xs s s.heap) (hbl : b < s.heap.size) (hz0 : gz G = s.heap.size) {cells slots : Nat} (hcs : cells + 16 ≤ 601024 ∧ slots + 128 ≤ 7293034) {k_23 : Nat → Nat → Nat → Int32 → Mm → Prop} (hk_23 : ∀ (x1 : Nat) (x2 : Nat) (x3 : Nat) (x4 : Int32) (u : Mm) (H : Heap) (locs : List Loc) (ls : Array Slot), k_23 x1 x2 x3 x4 u → lv_has ls 7 [(0, .ref b), (1, .ref x1), (2, .ref x2), (3, .ref x3), (4, .int x4)] → Hp G u s H locs → W p l e room_1 s m #[Value.ref b] below meth c H locs (cells + 16) (slots + 128) (lw_Z below #[Value.ref b] s) (F0 m 23 ls [])) {x1 : Nat} {x2 : Nat} {x3 : Nat} {x4 : Int32} {u : Mm} {H : Heap} {locs : List Loc} {ls : Array Slot} (h : V_L_law_1251 G b L xs k_23 x1 x2 x3 x4 u) (hl : lv_has ls 7 [(0, .ref b), (1, .ref x1), (2, .ref x2), (3, .ref x3), (4, .int x4)]) (hP : Hp G u s H locs) : W p l e room_1 s m #[Value.ref b] below meth c H locs (cells + 8) (slots + 64) (lw_Z below #[Value.ref b] s) (F0 m 1251 ls []) := by
  have hx := C.1
  have hb := C.2.1
  have hbA : ¬ ag G b := by unfold ag; omega
  unfold V_L_law_1251 at h
  refine lv_goto (tgt := 1694) hx hb dL_law_1251 (by decide) ?_
  refine W.widen (k := cells + 16) (n := slots + 128) (by omega) (by omega) ?_
  exact b_L_law_1694 hst C hr hlk hN hX hbl hz0 hcs hk_23 h (lv_sub hl [0, 1, 2, 3, 4] rfl) hP
set_option maxHeartbeats 4000000 in
set_option maxRecDepth 100000 in
theorem b_L_law_1186 {G : Gx} {b L : Nat} {xs : Nat → Int32} {p : Program} {l : Launch} {e : Env} {s : State} {m : MethodId} {below : List Frame} {meth : Method} {c : Code} (hst : l.stackTraces = false) (C : Cx G p s m c cL_law RL 7) (hr : meth.sig.returnType = ret) (hlk : meth.locks = false) (hN : ncE s) (hX : va_X b L xs s s.heap) (hbl : b < s.heap.size) (hz0 : gz G = s.heap.size) {cells slots : Nat} (hcs : cells + 16 ≤ 601024 ∧ slots + 128 ≤ 7293034) {k_23 : Nat → Nat → Nat → Int32 → Mm → Prop} (hk_23 : ∀ (x1 : Nat) (x2 : Nat) (x3 : Nat) (x4 : Int32) (u : Mm) (H : Heap) (locs : List Loc) (ls : Array Slot), k_23 x1 x2 x3 x4 u → lv_has ls 7 [(0, .ref b), (1, .ref x1), (2, .ref x2), (3, .ref x3), (4, .int x4)] → Hp G u s H locs → W p l e room_1 s m #[Value.ref b] below meth c H locs (cells + 16) (slots + 128) (lw_Z below #[Value.ref b] s) (F0 m 23 ls [])) {x1 : Nat} {x2 : Nat} {x3 : Nat} {x4 : Int32} {u : Mm} {H : Heap} {locs : List Loc} {ls : Array Slot} (h : V_L_law_1186 G b L xs k_23 x1 x2 x3 x4 u) (hl : lv_has ls 7 [(0, .ref b), (1, .ref x1), (2, .ref x2), (3, .ref x3), (4, .int x4)]) (hP : Hp G u s H locs) : W p l e room_1 s m #[Value.ref b] below meth c H locs cells slots (lw_Z below #[Value.ref b] s) (F0 m 1186 ls []) := by
  have hx := C.1
  have hb := C.2.1
  have hbA : ¬ ag G b := by unfold ag; omega
  unfold V_L_law_1186 at h
  refine lv_aload_n hx hb dL_law_1186 rfl (lv_at hl 1 rfl) ?_
  refine lv_aload_n hx hb dL_law_1187 rfl (lv_at hl 0 rfl) ?_
  refine lv_iload hx hb dL_law_1188 (lv_at hl 4 rfl) ?_
  refine lv_iconst (v := (1 : Int32)) hx hb dL_law_1190 (by decide) ?_
  refine lv_iadd hx hb dL_law_1191 ?_
  obtain ⟨g1, h⟩ := h
  refine va_sld hx hb hX hbl hbA hP.2 g1 dL_law_1192 ?_
  refine lv_aload_n hx hb dL_law_1193 rfl (lv_at hl 0 rfl) ?_
  refine lv_iload hx hb dL_law_1194 (lv_at hl 4 rfl) ?_
  refine lv_iconst (v := (2 : Int32)) hx hb dL_law_1196 (by decide) ?_
  refine lv_iadd hx hb dL_law_1197 ?_
  obtain ⟨g2, h⟩ := h
  refine va_sld hx hb hX hbl hbA hP.2 g2 dL_law_1198 ?_
  refine lv_aload_n hx hb dL_law_1199 rfl (lv_at hl 3 rfl) ?_
  refine q_calim (q_runSL C hN hP (c_L_gone hst h) rfl (cw_L_gone C.hA) (ini_L C.hA) (ml_L_128 C.hA) (st_L_gone C.hA) hd_L_gone ⟨rfl, rfl⟩ ⟨Nat.le_of_ble_eq_true rfl, Nat.le_of_ble_eq_true rfl⟩ ⟨by show _ ≤ 601024; omega, by show _ ≤ 7293034; omega⟩ hl.1 rfl (Nat.le_of_ble_eq_true rfl) dL_law_1200) hP (fun v_1200 u_1200 H locs h hP => ?_)
  refine lv_istore (lv' := [(5, .int v_1200), (0, .ref b), (1, .ref x1), (2, .ref x2), (3, .ref x3), (4, .int x4)]) hx hb dL_law_1203 hl (by decide) rfl (fun ls hl => ?_)
  refine lv_aload_n hx hb dL_law_1205 rfl (lv_at hl 3 rfl) ?_
  refine lv_aload_n hx hb dL_law_1206 rfl (lv_at hl 1 rfl) ?_
  refine lv_iload hx hb dL_law_1207 (lv_at hl 5 rfl) ?_
  refine lv_iconst (v := (1 : Int32)) hx hb dL_law_1209 (by decide) ?_
  refine lv_iadd hx hb dL_law_1210 ?_
  refine va_sld hx hb hX hbl hbA hP.2 g1 dL_law_1211 ?_
  refine lv_aload_n hx hb dL_law_1212 rfl (lv_at hl 1 rfl) ?_
  refine lv_iload hx hb dL_law_1213 (lv_at hl 5 rfl) ?_
  refine lv_iconst (v := (2 : Int32)) hx hb dL_law_1215 (by decide) ?_
  refine lv_iadd hx hb dL_law_1216 ?_
  refine va_sld hx hb hX hbl hbA hP.2 g2 dL_law_1217 ?_
  obtain ⟨g3, h⟩ := h
  refine q_cali (q_runV C hP (c_X12_gone h) (cd_X12_gone C.hA) (ini_X12 C.hA) (ml_L_130 C.hA) (im_X12_gone C.hA) (sl_X12_gone C.hA) g3 (by decide) rfl hd_X12_gone ⟨rfl, rfl⟩ ⟨Nat.le_of_ble_eq_true rfl, Nat.le_of_ble_eq_true rfl⟩ ⟨by show _ ≤ 601024; omega, by show _ ≤ 7293034; omega⟩ hl.1 rfl (Nat.le_of_ble_eq_true rfl) dL_law_1218) hP (fun v_1218 u_1218 H locs h hP => ?_)
  refine lv_istore (lv' := [(6, .int v_1218), (5, .int v_1200), (0, .ref b), (1, .ref x1), (2, .ref x2), (3, .ref x3), (4, .int x4)]) hx hb dL_law_1221 hl (by decide) rfl (fun ls hl => ?_)
  refine lv_aload_n hx hb dL_law_1223 rfl (lv_at hl 4 rfl) ?_
  refine q_cali (q_runV C hP (c_X12_thrown h) (cd_X12_thrown C.hA) (ini_X12 C.hA) (ml_L_82 C.hA) (im_X12_thrown C.hA) (sl_X12_thrown C.hA) g3 (by decide) rfl hd_X12_thrown ⟨rfl, rfl⟩ ⟨Nat.le_of_ble_eq_true rfl, Nat.le_of_ble_eq_true rfl⟩ ⟨by show _ ≤ 601024; omega, by show _ ≤ 7293034; omega⟩ hl.1 rfl (Nat.le_of_ble_eq_true rfl) dL_law_1224) hP (fun v_1224 u_1224 H locs h hP => ?_)
  refine lv_iload hx hb dL_law_1227 (lv_at hl 1 rfl) ?_
  refine lv_icmp_eq (tgt := 1234) hx hb dL_law_1229 (by decide) (fun c1229 => ?_) (fun c1229 => ?_)
  · have h := h.1 c1229
    refine lv_iload hx hb dL_law_1234 (lv_at hl 1 rfl) ?_
    refine lv_if_ne (tgt := 1251) hx hb dL_law_1236 (by decide) (fun c1236 => ?_) (fun c1236 => ?_)
    · have h := h.2 c1236
      refine W.widen (k := cells + 8) (n := slots + 64) (by omega) (by omega) ?_
      exact b_L_law_1251 hst C hr hlk hN hX hbl hz0 hcs hk_23 h (lv_sub hl [2, 3, 4, 5, 6] rfl) hP
    · have h := h.1 c1236
      refine lv_aload_n hx hb dL_law_1239 rfl (lv_at hl 5 rfl) ?_
      refine lv_iconst (v := (0 : Int32)) hx hb dL_law_1240 (by decide) ?_
      obtain ⟨g4, h⟩ := h
      obtain ⟨g5, h⟩ := h
      refine q_lald C hP g4 g5 dL_law_1241 ?_
      refine lv_iload hx hb dL_law_1242 (lv_at hl 0 rfl) ?_
      refine lv_i2l (v := v_1218.toInt64) hx hb dL_law_1244 rfl ?_
      refine W.lcmp hx hb dL_law_1245 ?_
      refine lv_if_eq (tgt := 1251) hx hb dL_law_1246 (by decide) (fun c1246 => ?_) (fun c1246 => ?_)
      · have h := h.1 c1246
        refine W.widen (k := cells + 8) (n := slots + 64) (by omega) (by omega) ?_
        exact b_L_law_1251 hst C hr hlk hN hX hbl hz0 hcs hk_23 h (lv_sub hl [2, 3, 4, 5, 6] rfl) hP
      · have h := h.2 c1246
        refine lv_iconst (v := (0 : Int32)) hx hb dL_law_1249 (by decide) ?_
        exact h.elim
  · have h := h.2 c1229
    refine lv_iconst (v := (0 : Int32)) hx hb dL_law_1232 (by decide) ?_
    exact h.elim
set_option maxHeartbeats 4000000 in
set_option maxRecDepth 100000 in
theorem b_L_law_1183 {G : Gx} {b L : Nat} {xs : Nat → Int32} {p : Program} {l : Launch} {e : Env} {s : State} {m : MethodId} {below : List Frame} {meth : Method} {c : Code} (hst : l.stackTraces = false) (C : Cx G p s m c cL_law RL 7) (hr : meth.sig.returnType = ret) (hlk : meth.locks = false) (hN : ncE s) (hX : va_X b L xs s s.heap) (hbl : b < s.heap.size) (hz0 : gz G = s.heap.size) {cells slots : Nat} (hcs : cells + 16 ≤ 601024 ∧ slots + 128 ≤ 7293034) {k_23 : Nat → Nat → Nat → Int32 → Mm → Prop} (hk_23 : ∀ (x1 : Nat) (x2 : Nat) (x3 : Nat) (x4 : Int32) (u : Mm) (H : Heap) (locs : List Loc) (ls : Array Slot), k_23 x1 x2 x3 x4 u → lv_has ls 7 [(0, .ref b), (1, .ref x1), (2, .ref x2), (3, .ref x3), (4, .int x4)] → Hp G u s H locs → W p l e room_1 s m #[Value.ref b] below meth c H locs (cells + 16) (slots + 128) (lw_Z below #[Value.ref b] s) (F0 m 23 ls [])) {x1 : Nat} {x2 : Nat} {x3 : Nat} {x4 : Int32} {u : Mm} {H : Heap} {locs : List Loc} {ls : Array Slot} (h : V_L_law_1183 G b L xs k_23 x1 x2 x3 x4 u) (hl : lv_has ls 7 [(0, .ref b), (1, .ref x1), (2, .ref x2), (3, .ref x3), (4, .int x4)]) (hP : Hp G u s H locs) : W p l e room_1 s m #[Value.ref b] below meth c H locs (cells + 8) (slots + 64) (lw_Z below #[Value.ref b] s) (F0 m 1183 ls []) := by
  have hx := C.1
  have hb := C.2.1
  have hbA : ¬ ag G b := by unfold ag; omega
  unfold V_L_law_1183 at h
  refine lv_goto (tgt := 1694) hx hb dL_law_1183 (by decide) ?_
  refine W.widen (k := cells + 16) (n := slots + 128) (by omega) (by omega) ?_
  exact b_L_law_1694 hst C hr hlk hN hX hbl hz0 hcs hk_23 h (lv_sub hl [0, 1, 2, 3, 4] rfl) hP
set_option maxHeartbeats 4000000 in
set_option maxRecDepth 100000 in
theorem b_L_law_1094 {G : Gx} {b L : Nat} {xs : Nat → Int32} {p : Program} {l : Launch} {e : Env} {s : State} {m : MethodId} {below : List Frame} {meth : Method} {c : Code} (hst : l.stackTraces = false) (C : Cx G p s m c cL_law RL 7) (hr : meth.sig.returnType = ret) (hlk : meth.locks = false) (hN : ncE s) (hX : va_X b L xs s s.heap) (hbl : b < s.heap.size) (hz0 : gz G = s.heap.size) {cells slots : Nat} (hcs : cells + 16 ≤ 601024 ∧ slots + 128 ≤ 7293034) {k_23 : Nat → Nat → Nat → Int32 → Mm → Prop} (hk_23 : ∀ (x1 : Nat) (x2 : Nat) (x3 : Nat) (x4 : Int32) (u : Mm) (H : Heap) (locs : List Loc) (ls : Array Slot), k_23 x1 x2 x3 x4 u → lv_has ls 7 [(0, .ref b), (1, .ref x1), (2, .ref x2), (3, .ref x3), (4, .int x4)] → Hp G u s H locs → W p l e room_1 s m #[Value.ref b] below meth c H locs (cells + 16) (slots + 128) (lw_Z below #[Value.ref b] s) (F0 m 23 ls [])) {x1 : Nat} {x2 : Nat} {x3 : Nat} {x4 : Int32} {u : Mm} {H : Heap} {locs : List Loc} {ls : Array Slot} (h : V_L_law_1094 G b L xs k_23 x1 x2 x3 x4 u) (hl : lv_has ls 7 [(0, .ref b), (1, .ref x1), (2, .ref x2), (3, .ref x3), (4, .int x4)]) (hP : Hp G u s H locs) : W p l e room_1 s m #[Value.ref b] below meth c H locs cells slots (lw_Z below #[Value.ref b] s) (F0 m 1094 ls []) := by
  have hx := C.1
  have hb := C.2.1
  have hbA : ¬ ag G b := by unfold ag; omega
  unfold V_L_law_1094 at h
  refine lv_aload_n hx hb dL_law_1094 rfl (lv_at hl 1 rfl) ?_
  refine lv_aload_n hx hb dL_law_1095 rfl (lv_at hl 0 rfl) ?_
  refine lv_iload hx hb dL_law_1096 (lv_at hl 4 rfl) ?_
  refine lv_iconst (v := (1 : Int32)) hx hb dL_law_1098 (by decide) ?_
  refine lv_iadd hx hb dL_law_1099 ?_
  obtain ⟨g1, h⟩ := h
  refine va_sld hx hb hX hbl hbA hP.2 g1 dL_law_1100 ?_
  refine lv_aload_n hx hb dL_law_1101 rfl (lv_at hl 0 rfl) ?_
  refine lv_iload hx hb dL_law_1102 (lv_at hl 4 rfl) ?_
  refine lv_iconst (v := (2 : Int32)) hx hb dL_law_1104 (by decide) ?_
  refine lv_iadd hx hb dL_law_1105 ?_
  obtain ⟨g2, h⟩ := h
  refine va_sld hx hb hX hbl hbA hP.2 g2 dL_law_1106 ?_
  refine lv_aload_n hx hb dL_law_1107 rfl (lv_at hl 0 rfl) ?_
  refine lv_iload hx hb dL_law_1108 (lv_at hl 4 rfl) ?_
  refine lv_iconst (v := (3 : Int32)) hx hb dL_law_1110 (by decide) ?_
  refine lv_iadd hx hb dL_law_1111 ?_
  obtain ⟨g3, h⟩ := h
  refine va_sld hx hb hX hbl hbA hP.2 g3 dL_law_1112 ?_
  refine lv_aload_n hx hb dL_law_1113 rfl (lv_at hl 0 rfl) ?_
  refine lv_iload hx hb dL_law_1114 (lv_at hl 4 rfl) ?_
  refine lv_iconst (v := (4 : Int32)) hx hb dL_law_1116 (by decide) ?_
  refine lv_iadd hx hb dL_law_1117 ?_
  obtain ⟨g4, h⟩ := h
  refine va_sld hx hb hX hbl hbA hP.2 g4 dL_law_1118 ?_
  refine lv_aload_n hx hb dL_law_1119 rfl (lv_at hl 3 rfl) ?_
  refine q_calim (q_runSL C hN hP (c_L_whose hst h) rfl (cw_L_whose C.hA) (ini_L C.hA) (ml_L_124 C.hA) (st_L_whose C.hA) hd_L_whose ⟨rfl, rfl⟩ ⟨Nat.le_of_ble_eq_true rfl, Nat.le_of_ble_eq_true rfl⟩ ⟨by show _ ≤ 601024; omega, by show _ ≤ 7293034; omega⟩ hl.1 rfl (Nat.le_of_ble_eq_true rfl) dL_law_1120) hP (fun v_1120 u_1120 H locs h hP => ?_)
  refine lv_istore (lv' := [(5, .int v_1120), (0, .ref b), (1, .ref x1), (2, .ref x2), (3, .ref x3), (4, .int x4)]) hx hb dL_law_1123 hl (by decide) rfl (fun ls hl => ?_)
  refine lv_aload_n hx hb dL_law_1125 rfl (lv_at hl 3 rfl) ?_
  refine lv_aload_n hx hb dL_law_1126 rfl (lv_at hl 1 rfl) ?_
  refine lv_iload hx hb dL_law_1127 (lv_at hl 5 rfl) ?_
  refine lv_iconst (v := (1 : Int32)) hx hb dL_law_1129 (by decide) ?_
  refine lv_iadd hx hb dL_law_1130 ?_
  refine va_sld hx hb hX hbl hbA hP.2 g1 dL_law_1131 ?_
  refine lv_aload_n hx hb dL_law_1132 rfl (lv_at hl 1 rfl) ?_
  refine lv_iload hx hb dL_law_1133 (lv_at hl 5 rfl) ?_
  refine lv_iconst (v := (2 : Int32)) hx hb dL_law_1135 (by decide) ?_
  refine lv_iadd hx hb dL_law_1136 ?_
  refine va_sld hx hb hX hbl hbA hP.2 g2 dL_law_1137 ?_
  refine lv_aload_n hx hb dL_law_1138 rfl (lv_at hl 1 rfl) ?_
  refine lv_iload hx hb dL_law_1139 (lv_at hl 5 rfl) ?_
  refine lv_iconst (v := (3 : Int32)) hx hb dL_law_1141 (by decide) ?_
  refine lv_iadd hx hb dL_law_1142 ?_
  refine va_sld hx hb hX hbl hbA hP.2 g3 dL_law_1143 ?_
  refine lv_aload_n hx hb dL_law_1144 rfl (lv_at hl 1 rfl) ?_
  refine lv_iload hx hb dL_law_1145 (lv_at hl 5 rfl) ?_
  refine lv_iconst (v := (4 : Int32)) hx hb dL_law_1147 (by decide) ?_
  refine lv_iadd hx hb dL_law_1148 ?_
  refine va_sld hx hb hX hbl hbA hP.2 g4 dL_law_1149 ?_
  obtain ⟨g5, h⟩ := h
  refine q_cali (q_runV C hP (c_X12_whose h) (cd_X12_whose C.hA) (ini_X12 C.hA) (ml_L_127 C.hA) (im_X12_whose C.hA) (sl_X12_whose C.hA) g5 (by decide) rfl hd_X12_whose ⟨rfl, rfl⟩ ⟨Nat.le_of_ble_eq_true rfl, Nat.le_of_ble_eq_true rfl⟩ ⟨by show _ ≤ 601024; omega, by show _ ≤ 7293034; omega⟩ hl.1 rfl (Nat.le_of_ble_eq_true rfl) dL_law_1150) hP (fun v_1150 u_1150 H locs h hP => ?_)
  refine lv_istore (lv' := [(6, .int v_1150), (5, .int v_1120), (0, .ref b), (1, .ref x1), (2, .ref x2), (3, .ref x3), (4, .int x4)]) hx hb dL_law_1153 hl (by decide) rfl (fun ls hl => ?_)
  refine lv_aload_n hx hb dL_law_1155 rfl (lv_at hl 4 rfl) ?_
  refine q_cali (q_runV C hP (c_X12_thrown h) (cd_X12_thrown C.hA) (ini_X12 C.hA) (ml_L_82 C.hA) (im_X12_thrown C.hA) (sl_X12_thrown C.hA) g5 (by decide) rfl hd_X12_thrown ⟨rfl, rfl⟩ ⟨Nat.le_of_ble_eq_true rfl, Nat.le_of_ble_eq_true rfl⟩ ⟨by show _ ≤ 601024; omega, by show _ ≤ 7293034; omega⟩ hl.1 rfl (Nat.le_of_ble_eq_true rfl) dL_law_1156) hP (fun v_1156 u_1156 H locs h hP => ?_)
  refine lv_iload hx hb dL_law_1159 (lv_at hl 1 rfl) ?_
  refine lv_icmp_eq (tgt := 1166) hx hb dL_law_1161 (by decide) (fun c1161 => ?_) (fun c1161 => ?_)
  · have h := h.1 c1161
    refine lv_iload hx hb dL_law_1166 (lv_at hl 1 rfl) ?_
    refine lv_if_ne (tgt := 1183) hx hb dL_law_1168 (by decide) (fun c1168 => ?_) (fun c1168 => ?_)
    · have h := h.2 c1168
      refine W.widen (k := cells + 8) (n := slots + 64) (by omega) (by omega) ?_
      exact b_L_law_1183 hst C hr hlk hN hX hbl hz0 hcs hk_23 h (lv_sub hl [2, 3, 4, 5, 6] rfl) hP
    · have h := h.1 c1168
      refine lv_aload_n hx hb dL_law_1171 rfl (lv_at hl 5 rfl) ?_
      refine lv_iconst (v := (0 : Int32)) hx hb dL_law_1172 (by decide) ?_
      obtain ⟨g6, h⟩ := h
      obtain ⟨g7, h⟩ := h
      refine q_lald C hP g6 g7 dL_law_1173 ?_
      refine lv_iload hx hb dL_law_1174 (lv_at hl 0 rfl) ?_
      refine lv_i2l (v := v_1150.toInt64) hx hb dL_law_1176 rfl ?_
      refine W.lcmp hx hb dL_law_1177 ?_
      refine lv_if_eq (tgt := 1183) hx hb dL_law_1178 (by decide) (fun c1178 => ?_) (fun c1178 => ?_)
      · have h := h.1 c1178
        refine W.widen (k := cells + 8) (n := slots + 64) (by omega) (by omega) ?_
        exact b_L_law_1183 hst C hr hlk hN hX hbl hz0 hcs hk_23 h (lv_sub hl [2, 3, 4, 5, 6] rfl) hP
      · have h := h.2 c1178
        refine lv_iconst (v := (0 : Int32)) hx hb dL_law_1181 (by decide) ?_
        exact h.elim
  · have h := h.2 c1161
    refine lv_iconst (v := (0 : Int32)) hx hb dL_law_1164 (by decide) ?_
    exact h.elim
set_option maxHeartbeats 4000000 in
set_option maxRecDepth 100000 in
theorem b_L_law_1091 {G : Gx} {b L : Nat} {xs : Nat → Int32} {p : Program} {l : Launch} {e : Env} {s : State} {m : MethodId} {below : List Frame} {meth : Method} {c : Code} (hst : l.stackTraces = false) (C : Cx G p s m c cL_law RL 7) (hr : meth.sig.returnType = ret) (hlk : meth.locks = false) (hN : ncE s) (hX : va_X b L xs s s.heap) (hbl : b < s.heap.size) (hz0 : gz G = s.heap.size) {cells slots : Nat} (hcs : cells + 16 ≤ 601024 ∧ slots + 128 ≤ 7293034) {k_23 : Nat → Nat → Nat → Int32 → Mm → Prop} (hk_23 : ∀ (x1 : Nat) (x2 : Nat) (x3 : Nat) (x4 : Int32) (u : Mm) (H : Heap) (locs : List Loc) (ls : Array Slot), k_23 x1 x2 x3 x4 u → lv_has ls 7 [(0, .ref b), (1, .ref x1), (2, .ref x2), (3, .ref x3), (4, .int x4)] → Hp G u s H locs → W p l e room_1 s m #[Value.ref b] below meth c H locs (cells + 16) (slots + 128) (lw_Z below #[Value.ref b] s) (F0 m 23 ls [])) {x1 : Nat} {x2 : Nat} {x3 : Nat} {x4 : Int32} {u : Mm} {H : Heap} {locs : List Loc} {ls : Array Slot} (h : V_L_law_1091 G b L xs k_23 x1 x2 x3 x4 u) (hl : lv_has ls 7 [(0, .ref b), (1, .ref x1), (2, .ref x2), (3, .ref x3), (4, .int x4)]) (hP : Hp G u s H locs) : W p l e room_1 s m #[Value.ref b] below meth c H locs (cells + 8) (slots + 64) (lw_Z below #[Value.ref b] s) (F0 m 1091 ls []) := by
  have hx := C.1
  have hb := C.2.1
  have hbA : ¬ ag G b := by unfold ag; omega
  unfold V_L_law_1091 at h
  refine lv_goto (tgt := 1694) hx hb dL_law_1091 (by decide) ?_
  refine W.widen (k := cells + 16) (n := slots + 128) (by omega) (by omega) ?_
  exact b_L_law_1694 hst C hr hlk hN hX hbl hz0 hcs hk_23 h (lv_sub hl [0, 1, 2, 3, 4] rfl) hP
set_option maxHeartbeats 4000000 in
set_option maxRecDepth 100000 in
theorem b_L_law_1014 {G : Gx} {b L : Nat} {xs : Nat → Int32} {p : Program} {l : Launch} {e : Env} {s : State} {m : MethodId} {below : List Frame} {meth : Method} {c : Code} (hst : l.stackTraces = false) (C : Cx G p s m c cL_law RL 7) (hr : meth.sig.returnType = ret) (hlk : meth.locks = false) (hN : ncE s) (hX : va_X b L xs s s.heap) (hbl : b < s.heap.size) (hz0 : gz G = s.heap.size) {cells slots : Nat} (hcs : cells + 16 ≤ 601024 ∧ slots + 128 ≤ 7293034) {k_23 : Nat → Nat → Nat → Int32 → Mm → Prop} (hk_23 : ∀ (x1 : Nat) (x2 : Nat) (x3 : Nat) (x4 : Int32) (u : Mm) (H : Heap) (locs : List Loc) (ls : Array Slot), k_23 x1 x2 x3 x4 u → lv_has ls 7 [(0, .ref b), (1, .ref x1), (2, .ref x2), (3, .ref x3), (4, .int x4)] → Hp G u s H locs → W p l e room_1 s m #[Value.ref b] below meth c H locs (cells + 16) (slots + 128) (lw_Z below #[Value.ref b] s) (F0 m 23 ls [])) {x1 : Nat} {x2 : Nat} {x3 : Nat} {x4 : Int32} {u : Mm} {H : Heap} {locs : List Loc} {ls : Array Slot} (h : V_L_law_1014 G b L xs k_23 x1 x2 x3 x4 u) (hl : lv_has ls 7 [(0, .ref b), (1, .ref x1), (2, .ref x2), (3, .ref x3), (4, .int x4)]) (hP : Hp G u s H locs) : W p l e room_1 s m #[Value.ref b] below meth c H locs cells slots (lw_Z below #[Value.ref b] s) (F0 m 1014 ls []) := by
  have hx := C.1
  have hb := C.2.1
  have hbA : ¬ ag G b := by unfold ag; omega
  unfold V_L_law_1014 at h
  refine lv_aload_n hx hb dL_law_1014 rfl (lv_at hl 1 rfl) ?_
  refine lv_aload_n hx hb dL_law_1015 rfl (lv_at hl 0 rfl) ?_
  refine lv_iload hx hb dL_law_1016 (lv_at hl 4 rfl) ?_
  refine lv_iconst (v := (1 : Int32)) hx hb dL_law_1018 (by decide) ?_
  refine lv_iadd hx hb dL_law_1019 ?_
  obtain ⟨g1, h⟩ := h
  refine va_sld hx hb hX hbl hbA hP.2 g1 dL_law_1020 ?_
  refine lv_aload_n hx hb dL_law_1021 rfl (lv_at hl 0 rfl) ?_
  refine lv_iload hx hb dL_law_1022 (lv_at hl 4 rfl) ?_
  refine lv_iconst (v := (2 : Int32)) hx hb dL_law_1024 (by decide) ?_
  refine lv_iadd hx hb dL_law_1025 ?_
  obtain ⟨g2, h⟩ := h
  refine va_sld hx hb hX hbl hbA hP.2 g2 dL_law_1026 ?_
  refine lv_aload_n hx hb dL_law_1027 rfl (lv_at hl 0 rfl) ?_
  refine lv_iload hx hb dL_law_1028 (lv_at hl 4 rfl) ?_
  refine lv_iconst (v := (3 : Int32)) hx hb dL_law_1030 (by decide) ?_
  refine lv_iadd hx hb dL_law_1031 ?_
  obtain ⟨g3, h⟩ := h
  refine va_sld hx hb hX hbl hbA hP.2 g3 dL_law_1032 ?_
  refine lv_aload_n hx hb dL_law_1033 rfl (lv_at hl 3 rfl) ?_
  refine q_calim (q_runSL C hN hP (c_L_airs hst h) rfl (cw_L_airs C.hA) (ini_L C.hA) (ml_L_121 C.hA) (st_L_airs C.hA) hd_L_airs ⟨rfl, rfl⟩ ⟨Nat.le_of_ble_eq_true rfl, Nat.le_of_ble_eq_true rfl⟩ ⟨by show _ ≤ 601024; omega, by show _ ≤ 7293034; omega⟩ hl.1 rfl (Nat.le_of_ble_eq_true rfl) dL_law_1034) hP (fun v_1034 u_1034 H locs h hP => ?_)
  refine lv_istore (lv' := [(5, .int v_1034), (0, .ref b), (1, .ref x1), (2, .ref x2), (3, .ref x3), (4, .int x4)]) hx hb dL_law_1037 hl (by decide) rfl (fun ls hl => ?_)
  refine lv_aload_n hx hb dL_law_1039 rfl (lv_at hl 3 rfl) ?_
  refine lv_aload_n hx hb dL_law_1040 rfl (lv_at hl 1 rfl) ?_
  refine lv_iload hx hb dL_law_1041 (lv_at hl 5 rfl) ?_
  refine lv_iconst (v := (1 : Int32)) hx hb dL_law_1043 (by decide) ?_
  refine lv_iadd hx hb dL_law_1044 ?_
  refine va_sld hx hb hX hbl hbA hP.2 g1 dL_law_1045 ?_
  refine lv_aload_n hx hb dL_law_1046 rfl (lv_at hl 1 rfl) ?_
  refine lv_iload hx hb dL_law_1047 (lv_at hl 5 rfl) ?_
  refine lv_iconst (v := (2 : Int32)) hx hb dL_law_1049 (by decide) ?_
  refine lv_iadd hx hb dL_law_1050 ?_
  refine va_sld hx hb hX hbl hbA hP.2 g2 dL_law_1051 ?_
  refine lv_aload_n hx hb dL_law_1052 rfl (lv_at hl 1 rfl) ?_
  refine lv_iload hx hb dL_law_1053 (lv_at hl 5 rfl) ?_
  refine lv_iconst (v := (3 : Int32)) hx hb dL_law_1055 (by decide) ?_
  refine lv_iadd hx hb dL_law_1056 ?_
  refine va_sld hx hb hX hbl hbA hP.2 g3 dL_law_1057 ?_
  obtain ⟨g4, h⟩ := h
  refine q_cali (q_runV C hP (c_X12_airs h) (cd_X12_airs C.hA) (ini_X12 C.hA) (ml_L_123 C.hA) (im_X12_airs C.hA) (sl_X12_airs C.hA) g4 (by decide) rfl hd_X12_airs ⟨rfl, rfl⟩ ⟨Nat.le_of_ble_eq_true rfl, Nat.le_of_ble_eq_true rfl⟩ ⟨by show _ ≤ 601024; omega, by show _ ≤ 7293034; omega⟩ hl.1 rfl (Nat.le_of_ble_eq_true rfl) dL_law_1058) hP (fun v_1058 u_1058 H locs h hP => ?_)
  refine lv_istore (lv' := [(6, .int v_1058), (5, .int v_1034), (0, .ref b), (1, .ref x1), (2, .ref x2), (3, .ref x3), (4, .int x4)]) hx hb dL_law_1061 hl (by decide) rfl (fun ls hl => ?_)
  refine lv_aload_n hx hb dL_law_1063 rfl (lv_at hl 4 rfl) ?_
  refine q_cali (q_runV C hP (c_X12_thrown h) (cd_X12_thrown C.hA) (ini_X12 C.hA) (ml_L_82 C.hA) (im_X12_thrown C.hA) (sl_X12_thrown C.hA) g4 (by decide) rfl hd_X12_thrown ⟨rfl, rfl⟩ ⟨Nat.le_of_ble_eq_true rfl, Nat.le_of_ble_eq_true rfl⟩ ⟨by show _ ≤ 601024; omega, by show _ ≤ 7293034; omega⟩ hl.1 rfl (Nat.le_of_ble_eq_true rfl) dL_law_1064) hP (fun v_1064 u_1064 H locs h hP => ?_)
  refine lv_iload hx hb dL_law_1067 (lv_at hl 1 rfl) ?_
  refine lv_icmp_eq (tgt := 1074) hx hb dL_law_1069 (by decide) (fun c1069 => ?_) (fun c1069 => ?_)
  · have h := h.1 c1069
    refine lv_iload hx hb dL_law_1074 (lv_at hl 1 rfl) ?_
    refine lv_if_ne (tgt := 1091) hx hb dL_law_1076 (by decide) (fun c1076 => ?_) (fun c1076 => ?_)
    · have h := h.2 c1076
      refine W.widen (k := cells + 8) (n := slots + 64) (by omega) (by omega) ?_
      exact b_L_law_1091 hst C hr hlk hN hX hbl hz0 hcs hk_23 h (lv_sub hl [2, 3, 4, 5, 6] rfl) hP
    · have h := h.1 c1076
      refine lv_aload_n hx hb dL_law_1079 rfl (lv_at hl 5 rfl) ?_
      refine lv_iconst (v := (0 : Int32)) hx hb dL_law_1080 (by decide) ?_
      obtain ⟨g5, h⟩ := h
      obtain ⟨g6, h⟩ := h
      refine q_lald C hP g5 g6 dL_law_1081 ?_
      refine lv_iload hx hb dL_law_1082 (lv_at hl 0 rfl) ?_
      refine lv_i2l (v := v_1058.toInt64) hx hb dL_law_1084 rfl ?_
      refine W.lcmp hx hb dL_law_1085 ?_
      refine lv_if_eq (tgt := 1091) hx hb dL_law_1086 (by decide) (fun c1086 => ?_) (fun c1086 => ?_)
      · have h := h.1 c1086
        refine W.widen (k := cells + 8) (n := slots + 64) (by omega) (by omega) ?_
        exact b_L_law_1091 hst C hr hlk hN hX hbl hz0 hcs hk_23 h (lv_sub hl [2, 3, 4, 5, 6] rfl) hP
      · have h := h.2 c1086
        refine lv_iconst (v := (0 : Int32)) hx hb dL_law_1089 (by decide) ?_
        exact h.elim
  · have h := h.2 c1069
    refine lv_iconst (v := (0 : Int32)) hx hb dL_law_1072 (by decide) ?_
    exact h.elim
set_option maxHeartbeats 4000000 in
set_option maxRecDepth 100000 in
theorem b_L_law_1011 {G : Gx} {b L : Nat} {xs : Nat → Int32} {p : Program} {l : Launch} {e : Env} {s : State} {m : MethodId} {below : List Frame} {meth : Method} {c : Code} (hst : l.stackTraces = false) (C : Cx G p s m c cL_law RL 7) (hr : meth.sig.returnType = ret) (hlk : meth.locks = false) (hN : ncE s) (hX : va_X b L xs s s.heap) (hbl : b < s.heap.size) (hz0 : gz G = s.heap.size) {cells slots : Nat} (hcs : cells + 16 ≤ 601024 ∧ slots + 128 ≤ 7293034) {k_23 : Nat → Nat → Nat → Int32 → Mm → Prop} (hk_23 : ∀ (x1 : Nat) (x2 : Nat) (x3 : Nat) (x4 : Int32) (u : Mm) (H : Heap) (locs : List Loc) (ls : Array Slot), k_23 x1 x2 x3 x4 u → lv_has ls 7 [(0, .ref b), (1, .ref x1), (2, .ref x2), (3, .ref x3), (4, .int x4)] → Hp G u s H locs → W p l e room_1 s m #[Value.ref b] below meth c H locs (cells + 16) (slots + 128) (lw_Z below #[Value.ref b] s) (F0 m 23 ls [])) {x1 : Nat} {x2 : Nat} {x3 : Nat} {x4 : Int32} {u : Mm} {H : Heap} {locs : List Loc} {ls : Array Slot} (h : V_L_law_1011 G b L xs k_23 x1 x2 x3 x4 u) (hl : lv_has ls 7 [(0, .ref b), (1, .ref x1), (2, .ref x2), (3, .ref x3), (4, .int x4)]) (hP : Hp G u s H locs) : W p l e room_1 s m #[Value.ref b] below meth c H locs (cells + 8) (slots + 64) (lw_Z below #[Value.ref b] s) (F0 m 1011 ls []) := by
  have hx := C.1
  have hb := C.2.1
  have hbA : ¬ ag G b := by unfold ag; omega
  unfold V_L_law_1011 at h
  refine lv_goto (tgt := 1694) hx hb dL_law_1011 (by decide) ?_
  refine W.widen (k := cells + 16) (n := slots + 128) (by omega) (by omega) ?_
  exact b_L_law_1694 hst C hr hlk hN hX hbl hz0 hcs hk_23 h (lv_sub hl [0, 1, 2, 3, 4] rfl) hP
set_option maxHeartbeats 4000000 in
set_option maxRecDepth 100000 in
theorem b_L_law_934 {G : Gx} {b L : Nat} {xs : Nat → Int32} {p : Program} {l : Launch} {e : Env} {s : State} {m : MethodId} {below : List Frame} {meth : Method} {c : Code} (hst : l.stackTraces = false) (C : Cx G p s m c cL_law RL 7) (hr : meth.sig.returnType = ret) (hlk : meth.locks = false) (hN : ncE s) (hX : va_X b L xs s s.heap) (hbl : b < s.heap.size) (hz0 : gz G = s.heap.size) {cells slots : Nat} (hcs : cells + 16 ≤ 601024 ∧ slots + 128 ≤ 7293034) {k_23 : Nat → Nat → Nat → Int32 → Mm → Prop} (hk_23 : ∀ (x1 : Nat) (x2 : Nat) (x3 : Nat) (x4 : Int32) (u : Mm) (H : Heap) (locs : List Loc) (ls : Array Slot), k_23 x1 x2 x3 x4 u → lv_has ls 7 [(0, .ref b), (1, .ref x1), (2, .ref x2), (3, .ref x3), (4, .int x4)] → Hp G u s H locs → W p l e room_1 s m #[Value.ref b] below meth c H locs (cells + 16) (slots + 128) (lw_Z below #[Value.ref b] s) (F0 m 23 ls [])) {x1 : Nat} {x2 : Nat} {x3 : Nat} {x4 : Int32} {u : Mm} {H : Heap} {locs : List Loc} {ls : Array Slot} (h : V_L_law_934 G b L xs k_23 x1 x2 x3 x4 u) (hl : lv_has ls 7 [(0, .ref b), (1, .ref x1), (2, .ref x2), (3, .ref x3), (4, .int x4)]) (hP : Hp G u s H locs) : W p l e room_1 s m #[Value.ref b] below meth c H locs cells slots (lw_Z below #[Value.ref b] s) (F0 m 934 ls []) := by
  have hx := C.1
  have hb := C.2.1
  have hbA : ¬ ag G b := by unfold ag; omega
  unfold V_L_law_934 at h
  refine lv_aload_n hx hb dL_law_934 rfl (lv_at hl 1 rfl) ?_
  refine lv_aload_n hx hb dL_law_935 rfl (lv_at hl 0 rfl) ?_
  refine lv_iload hx hb dL_law_936 (lv_at hl 4 rfl) ?_
  refine lv_iconst (v := (1 : Int32)) hx hb dL_law_938 (by decide) ?_
  refine lv_iadd hx hb dL_law_939 ?_
  obtain ⟨g1, h⟩ := h
  refine va_sld hx hb hX hbl hbA hP.2 g1 dL_law_940 ?_
  refine lv_aload_n hx hb dL_law_941 rfl (lv_at hl 0 rfl) ?_
  refine lv_iload hx hb dL_law_942 (lv_at hl 4 rfl) ?_
  refine lv_iconst (v := (2 : Int32)) hx hb dL_law_944 (by decide) ?_
  refine lv_iadd hx hb dL_law_945 ?_
  obtain ⟨g2, h⟩ := h
  refine va_sld hx hb hX hbl hbA hP.2 g2 dL_law_946 ?_
  refine lv_aload_n hx hb dL_law_947 rfl (lv_at hl 0 rfl) ?_
  refine lv_iload hx hb dL_law_948 (lv_at hl 4 rfl) ?_
  refine lv_iconst (v := (3 : Int32)) hx hb dL_law_950 (by decide) ?_
  refine lv_iadd hx hb dL_law_951 ?_
  obtain ⟨g3, h⟩ := h
  refine va_sld hx hb hX hbl hbA hP.2 g3 dL_law_952 ?_
  refine lv_aload_n hx hb dL_law_953 rfl (lv_at hl 3 rfl) ?_
  refine q_calim (q_runSL C hN hP (c_L_where hst h) rfl (cw_L_where C.hA) (ini_L C.hA) (ml_L_117 C.hA) (st_L_where C.hA) hd_L_where ⟨rfl, rfl⟩ ⟨Nat.le_of_ble_eq_true rfl, Nat.le_of_ble_eq_true rfl⟩ ⟨by show _ ≤ 601024; omega, by show _ ≤ 7293034; omega⟩ hl.1 rfl (Nat.le_of_ble_eq_true rfl) dL_law_954) hP (fun v_954 u_954 H locs h hP => ?_)
  refine lv_istore (lv' := [(5, .int v_954), (0, .ref b), (1, .ref x1), (2, .ref x2), (3, .ref x3), (4, .int x4)]) hx hb dL_law_957 hl (by decide) rfl (fun ls hl => ?_)
  refine lv_aload_n hx hb dL_law_959 rfl (lv_at hl 3 rfl) ?_
  refine lv_aload_n hx hb dL_law_960 rfl (lv_at hl 1 rfl) ?_
  refine lv_iload hx hb dL_law_961 (lv_at hl 5 rfl) ?_
  refine lv_iconst (v := (1 : Int32)) hx hb dL_law_963 (by decide) ?_
  refine lv_iadd hx hb dL_law_964 ?_
  refine va_sld hx hb hX hbl hbA hP.2 g1 dL_law_965 ?_
  refine lv_aload_n hx hb dL_law_966 rfl (lv_at hl 1 rfl) ?_
  refine lv_iload hx hb dL_law_967 (lv_at hl 5 rfl) ?_
  refine lv_iconst (v := (2 : Int32)) hx hb dL_law_969 (by decide) ?_
  refine lv_iadd hx hb dL_law_970 ?_
  refine va_sld hx hb hX hbl hbA hP.2 g2 dL_law_971 ?_
  refine lv_aload_n hx hb dL_law_972 rfl (lv_at hl 1 rfl) ?_
  refine lv_iload hx hb dL_law_973 (lv_at hl 5 rfl) ?_
  refine lv_iconst (v := (3 : Int32)) hx hb dL_law_975 (by decide) ?_
  refine lv_iadd hx hb dL_law_976 ?_
  refine va_sld hx hb hX hbl hbA hP.2 g3 dL_law_977 ?_
  obtain ⟨g4, h⟩ := h
  refine q_cali (q_runV C hP (c_X12_where h) (cd_X12_where C.hA) (ini_X12 C.hA) (ml_L_120 C.hA) (im_X12_where C.hA) (sl_X12_where C.hA) g4 (by decide) rfl hd_X12_where ⟨rfl, rfl⟩ ⟨Nat.le_of_ble_eq_true rfl, Nat.le_of_ble_eq_true rfl⟩ ⟨by show _ ≤ 601024; omega, by show _ ≤ 7293034; omega⟩ hl.1 rfl (Nat.le_of_ble_eq_true rfl) dL_law_978) hP (fun v_978 u_978 H locs h hP => ?_)
  refine lv_istore (lv' := [(6, .int v_978), (5, .int v_954), (0, .ref b), (1, .ref x1), (2, .ref x2), (3, .ref x3), (4, .int x4)]) hx hb dL_law_981 hl (by decide) rfl (fun ls hl => ?_)
  refine lv_aload_n hx hb dL_law_983 rfl (lv_at hl 4 rfl) ?_
  refine q_cali (q_runV C hP (c_X12_thrown h) (cd_X12_thrown C.hA) (ini_X12 C.hA) (ml_L_82 C.hA) (im_X12_thrown C.hA) (sl_X12_thrown C.hA) g4 (by decide) rfl hd_X12_thrown ⟨rfl, rfl⟩ ⟨Nat.le_of_ble_eq_true rfl, Nat.le_of_ble_eq_true rfl⟩ ⟨by show _ ≤ 601024; omega, by show _ ≤ 7293034; omega⟩ hl.1 rfl (Nat.le_of_ble_eq_true rfl) dL_law_984) hP (fun v_984 u_984 H locs h hP => ?_)
  refine lv_iload hx hb dL_law_987 (lv_at hl 1 rfl) ?_
  refine lv_icmp_eq (tgt := 994) hx hb dL_law_989 (by decide) (fun c989 => ?_) (fun c989 => ?_)
  · have h := h.1 c989
    refine lv_iload hx hb dL_law_994 (lv_at hl 1 rfl) ?_
    refine lv_if_ne (tgt := 1011) hx hb dL_law_996 (by decide) (fun c996 => ?_) (fun c996 => ?_)
    · have h := h.2 c996
      refine W.widen (k := cells + 8) (n := slots + 64) (by omega) (by omega) ?_
      exact b_L_law_1011 hst C hr hlk hN hX hbl hz0 hcs hk_23 h (lv_sub hl [2, 3, 4, 5, 6] rfl) hP
    · have h := h.1 c996
      refine lv_aload_n hx hb dL_law_999 rfl (lv_at hl 5 rfl) ?_
      refine lv_iconst (v := (0 : Int32)) hx hb dL_law_1000 (by decide) ?_
      obtain ⟨g5, h⟩ := h
      obtain ⟨g6, h⟩ := h
      refine q_lald C hP g5 g6 dL_law_1001 ?_
      refine lv_iload hx hb dL_law_1002 (lv_at hl 0 rfl) ?_
      refine lv_i2l (v := v_978.toInt64) hx hb dL_law_1004 rfl ?_
      refine W.lcmp hx hb dL_law_1005 ?_
      refine lv_if_eq (tgt := 1011) hx hb dL_law_1006 (by decide) (fun c1006 => ?_) (fun c1006 => ?_)
      · have h := h.1 c1006
        refine W.widen (k := cells + 8) (n := slots + 64) (by omega) (by omega) ?_
        exact b_L_law_1011 hst C hr hlk hN hX hbl hz0 hcs hk_23 h (lv_sub hl [2, 3, 4, 5, 6] rfl) hP
      · have h := h.2 c1006
        refine lv_iconst (v := (0 : Int32)) hx hb dL_law_1009 (by decide) ?_
        exact h.elim
  · have h := h.2 c989
    refine lv_iconst (v := (0 : Int32)) hx hb dL_law_992 (by decide) ?_
    exact h.elim
set_option maxHeartbeats 4000000 in
set_option maxRecDepth 100000 in
theorem b_L_law_931 {G : Gx} {b L : Nat} {xs : Nat → Int32} {p : Program} {l : Launch} {e : Env} {s : State} {m : MethodId} {below : List Frame} {meth : Method} {c : Code} (hst : l.stackTraces = false) (C : Cx G p s m c cL_law RL 7) (hr : meth.sig.returnType = ret) (hlk : meth.locks = false) (hN : ncE s) (hX : va_X b L xs s s.heap) (hbl : b < s.heap.size) (hz0 : gz G = s.heap.size) {cells slots : Nat} (hcs : cells + 16 ≤ 601024 ∧ slots + 128 ≤ 7293034) {k_23 : Nat → Nat → Nat → Int32 → Mm → Prop} (hk_23 : ∀ (x1 : Nat) (x2 : Nat) (x3 : Nat) (x4 : Int32) (u : Mm) (H : Heap) (locs : List Loc) (ls : Array Slot), k_23 x1 x2 x3 x4 u → lv_has ls 7 [(0, .ref b), (1, .ref x1), (2, .ref x2), (3, .ref x3), (4, .int x4)] → Hp G u s H locs → W p l e room_1 s m #[Value.ref b] below meth c H locs (cells + 16) (slots + 128) (lw_Z below #[Value.ref b] s) (F0 m 23 ls [])) {x1 : Nat} {x2 : Nat} {x3 : Nat} {x4 : Int32} {u : Mm} {H : Heap} {locs : List Loc} {ls : Array Slot} (h : V_L_law_931 G b L xs k_23 x1 x2 x3 x4 u) (hl : lv_has ls 7 [(0, .ref b), (1, .ref x1), (2, .ref x2), (3, .ref x3), (4, .int x4)]) (hP : Hp G u s H locs) : W p l e room_1 s m #[Value.ref b] below meth c H locs (cells + 8) (slots + 64) (lw_Z below #[Value.ref b] s) (F0 m 931 ls []) := by
  have hx := C.1
  have hb := C.2.1
  have hbA : ¬ ag G b := by unfold ag; omega
  unfold V_L_law_931 at h
  refine lv_goto (tgt := 1694) hx hb dL_law_931 (by decide) ?_
  refine W.widen (k := cells + 16) (n := slots + 128) (by omega) (by omega) ?_
  exact b_L_law_1694 hst C hr hlk hN hX hbl hz0 hcs hk_23 h (lv_sub hl [0, 1, 2, 3, 4] rfl) hP
set_option maxHeartbeats 4000000 in
set_option maxRecDepth 100000 in
theorem b_L_law_925 {G : Gx} {b L : Nat} {xs : Nat → Int32} {p : Program} {l : Launch} {e : Env} {s : State} {m : MethodId} {below : List Frame} {meth : Method} {c : Code} (hst : l.stackTraces = false) (C : Cx G p s m c cL_law RL 7) (hr : meth.sig.returnType = ret) (hlk : meth.locks = false) (hN : ncE s) (hX : va_X b L xs s s.heap) (hbl : b < s.heap.size) (hz0 : gz G = s.heap.size) {cells slots : Nat} (hcs : cells + 16 ≤ 601024 ∧ slots + 128 ≤ 7293034) {k_23 : Nat → Nat → Nat → Int32 → Mm → Prop} (hk_23 : ∀ (x1 : Nat) (x2 : Nat) (x3 : Nat) (x4 : Int32) (u : Mm) (H : Heap) (locs : List Loc) (ls : Array Slot), k_23 x1 x2 x3 x4 u → lv_has ls 7 [(0, .ref b), (1, .ref x1), (2, .ref x2), (3, .ref x3), (4, .int x4)] → Hp G u s H locs → W p l e room_1 s m #[Value.ref b] below meth c H locs (cells + 16) (slots + 128) (lw_Z below #[Value.ref b] s) (F0 m 23 ls [])) {x1 : Nat} {x2 : Nat} {x3 : Nat} {x4 : Int32} {t0 : Int64} {t1 : Int64} {u : Mm} {H : Heap} {locs : List Loc} {ls : Array Slot} (h : V_L_law_925 G b L xs k_23 x1 x2 x3 x4 t0 t1 u) (hl : lv_has ls 7 [(0, .ref b), (1, .ref x1), (2, .ref x2), (3, .ref x3), (4, .int x4)]) (hP : Hp G u s H locs) : W p l e room_1 s m #[Value.ref b] below meth c H locs (cells + 8) (slots + 64) (lw_Z below #[Value.ref b] s) (F0 m 925 ls [.long t1, .long t0]) := by
  have hx := C.1
  have hb := C.2.1
  have hbA : ¬ ag G b := by unfold ag; omega
  unfold V_L_law_925 at h
  refine W.lcmp hx hb dL_law_925 ?_
  refine lv_if_eq (tgt := 931) hx hb dL_law_926 (by decide) (fun c926 => ?_) (fun c926 => ?_)
  · have h := h.1 c926
    exact b_L_law_931 hst C hr hlk hN hX hbl hz0 hcs hk_23 h (lv_sub hl [0, 1, 2, 3, 4] rfl) hP
  · have h := h.2 c926
    refine lv_iconst (v := (0 : Int32)) hx hb dL_law_929 (by decide) ?_
    exact h.elim
set_option maxHeartbeats 4000000 in
set_option maxRecDepth 100000 in
theorem b_L_law_859 {G : Gx} {b L : Nat} {xs : Nat → Int32} {p : Program} {l : Launch} {e : Env} {s : State} {m : MethodId} {below : List Frame} {meth : Method} {c : Code} (hst : l.stackTraces = false) (C : Cx G p s m c cL_law RL 7) (hr : meth.sig.returnType = ret) (hlk : meth.locks = false) (hN : ncE s) (hX : va_X b L xs s s.heap) (hbl : b < s.heap.size) (hz0 : gz G = s.heap.size) {cells slots : Nat} (hcs : cells + 16 ≤ 601024 ∧ slots + 128 ≤ 7293034) {k_23 : Nat → Nat → Nat → Int32 → Mm → Prop} (hk_23 : ∀ (x1 : Nat) (x2 : Nat) (x3 : Nat) (x4 : Int32) (u : Mm) (H : Heap) (locs : List Loc) (ls : Array Slot), k_23 x1 x2 x3 x4 u → lv_has ls 7 [(0, .ref b), (1, .ref x1), (2, .ref x2), (3, .ref x3), (4, .int x4)] → Hp G u s H locs → W p l e room_1 s m #[Value.ref b] below meth c H locs (cells + 16) (slots + 128) (lw_Z below #[Value.ref b] s) (F0 m 23 ls [])) {x1 : Nat} {x2 : Nat} {x3 : Nat} {x4 : Int32} {u : Mm} {H : Heap} {locs : List Loc} {ls : Array Slot} (h : V_L_law_859 G b L xs k_23 x1 x2 x3 x4 u) (hl : lv_has ls 7 [(0, .ref b), (1, .ref x1), (2, .ref x2), (3, .ref x3), (4, .int x4)]) (hP : Hp G u s H locs) : W p l e room_1 s m #[Value.ref b] below meth c H locs cells slots (lw_Z below #[Value.ref b] s) (F0 m 859 ls []) := by
  have hx := C.1
  have hb := C.2.1
  have hbA : ¬ ag G b := by unfold ag; omega
  unfold V_L_law_859 at h
  refine lv_aload_n hx hb dL_law_859 rfl (lv_at hl 1 rfl) ?_
  refine lv_aload_n hx hb dL_law_860 rfl (lv_at hl 0 rfl) ?_
  refine lv_iload hx hb dL_law_861 (lv_at hl 4 rfl) ?_
  refine lv_iconst (v := (1 : Int32)) hx hb dL_law_863 (by decide) ?_
  refine lv_iadd hx hb dL_law_864 ?_
  obtain ⟨g1, h⟩ := h
  refine va_sld hx hb hX hbl hbA hP.2 g1 dL_law_865 ?_
  refine lv_aload_n hx hb dL_law_866 rfl (lv_at hl 0 rfl) ?_
  refine lv_iload hx hb dL_law_867 (lv_at hl 4 rfl) ?_
  refine lv_iconst (v := (2 : Int32)) hx hb dL_law_869 (by decide) ?_
  refine lv_iadd hx hb dL_law_870 ?_
  obtain ⟨g2, h⟩ := h
  refine va_sld hx hb hX hbl hbA hP.2 g2 dL_law_871 ?_
  refine lv_aload_n hx hb dL_law_872 rfl (lv_at hl 3 rfl) ?_
  refine q_calim (q_runSL C hN hP (c_L_fits hst h) rfl (cw_L_fits C.hA) (ini_L C.hA) (ml_L_114 C.hA) (st_L_fits C.hA) hd_L_fits ⟨rfl, rfl⟩ ⟨Nat.le_of_ble_eq_true rfl, Nat.le_of_ble_eq_true rfl⟩ ⟨by show _ ≤ 601024; omega, by show _ ≤ 7293034; omega⟩ hl.1 rfl (Nat.le_of_ble_eq_true rfl) dL_law_873) hP (fun v_873 u_873 H locs h hP => ?_)
  refine lv_istore (lv' := [(5, .int v_873), (0, .ref b), (1, .ref x1), (2, .ref x2), (3, .ref x3), (4, .int x4)]) hx hb dL_law_876 hl (by decide) rfl (fun ls hl => ?_)
  refine lv_aload_n hx hb dL_law_878 rfl (lv_at hl 3 rfl) ?_
  refine lv_aload_n hx hb dL_law_879 rfl (lv_at hl 1 rfl) ?_
  refine lv_iload hx hb dL_law_880 (lv_at hl 5 rfl) ?_
  refine lv_iconst (v := (1 : Int32)) hx hb dL_law_882 (by decide) ?_
  refine lv_iadd hx hb dL_law_883 ?_
  refine va_sld hx hb hX hbl hbA hP.2 g1 dL_law_884 ?_
  refine lv_aload_n hx hb dL_law_885 rfl (lv_at hl 1 rfl) ?_
  refine lv_iload hx hb dL_law_886 (lv_at hl 5 rfl) ?_
  refine lv_iconst (v := (2 : Int32)) hx hb dL_law_888 (by decide) ?_
  refine lv_iadd hx hb dL_law_889 ?_
  refine va_sld hx hb hX hbl hbA hP.2 g2 dL_law_890 ?_
  obtain ⟨g3, h⟩ := h
  refine q_cali (q_runV C hP (c_X12_fits h) (cd_X12_fits C.hA) (ini_X12 C.hA) (ml_L_116 C.hA) (im_X12_fits C.hA) (sl_X12_fits C.hA) g3 (by decide) rfl hd_X12_fits ⟨rfl, rfl⟩ ⟨Nat.le_of_ble_eq_true rfl, Nat.le_of_ble_eq_true rfl⟩ ⟨by show _ ≤ 601024; omega, by show _ ≤ 7293034; omega⟩ hl.1 rfl (Nat.le_of_ble_eq_true rfl) dL_law_891) hP (fun v_891 u_891 H locs h hP => ?_)
  refine lv_istore (lv' := [(6, .int v_891), (5, .int v_873), (0, .ref b), (1, .ref x1), (2, .ref x2), (3, .ref x3), (4, .int x4)]) hx hb dL_law_894 hl (by decide) rfl (fun ls hl => ?_)
  refine lv_aload_n hx hb dL_law_896 rfl (lv_at hl 4 rfl) ?_
  refine q_cali (q_runV C hP (c_X12_thrown h) (cd_X12_thrown C.hA) (ini_X12 C.hA) (ml_L_82 C.hA) (im_X12_thrown C.hA) (sl_X12_thrown C.hA) g3 (by decide) rfl hd_X12_thrown ⟨rfl, rfl⟩ ⟨Nat.le_of_ble_eq_true rfl, Nat.le_of_ble_eq_true rfl⟩ ⟨by show _ ≤ 601024; omega, by show _ ≤ 7293034; omega⟩ hl.1 rfl (Nat.le_of_ble_eq_true rfl) dL_law_897) hP (fun v_897 u_897 H locs h hP => ?_)
  refine lv_iload hx hb dL_law_900 (lv_at hl 1 rfl) ?_
  refine lv_icmp_eq (tgt := 907) hx hb dL_law_902 (by decide) (fun c902 => ?_) (fun c902 => ?_)
  · have h := h.1 c902
    refine lv_iload hx hb dL_law_907 (lv_at hl 1 rfl) ?_
    refine lv_if_ne (tgt := 931) hx hb dL_law_909 (by decide) (fun c909 => ?_) (fun c909 => ?_)
    · have h := h.2 c909
      refine W.widen (k := cells + 8) (n := slots + 64) (by omega) (by omega) ?_
      exact b_L_law_931 hst C hr hlk hN hX hbl hz0 hcs hk_23 h (lv_sub hl [2, 3, 4, 5, 6] rfl) hP
    · have h := h.1 c909
      refine lv_aload_n hx hb dL_law_912 rfl (lv_at hl 5 rfl) ?_
      refine lv_iconst (v := (0 : Int32)) hx hb dL_law_913 (by decide) ?_
      obtain ⟨g4, h⟩ := h
      obtain ⟨g5, h⟩ := h
      refine q_lald C hP g4 g5 dL_law_914 ?_
      refine lv_iload hx hb dL_law_915 (lv_at hl 0 rfl) ?_
      refine lv_if_eq (tgt := 924) hx hb dL_law_917 (by decide) (fun c917 => ?_) (fun c917 => ?_)
      · have h := h.1 c917
        refine lv_lconst (v := 0) hx hb dL_law_924 rfl ?_
        refine W.widen (k := cells + 8) (n := slots + 64) (by omega) (by omega) ?_
        exact b_L_law_925 hst C hr hlk hN hX hbl hz0 hcs hk_23 h (lv_sub hl [2, 3, 4, 5, 6] rfl) hP
      · have h := h.2 c917
        refine lv_lconst (v := 1) hx hb dL_law_920 rfl ?_
        refine lv_goto (tgt := 925) hx hb dL_law_921 (by decide) ?_
        refine W.widen (k := cells + 8) (n := slots + 64) (by omega) (by omega) ?_
        exact b_L_law_925 hst C hr hlk hN hX hbl hz0 hcs hk_23 h (lv_sub hl [2, 3, 4, 5, 6] rfl) hP
  · have h := h.2 c902
    refine lv_iconst (v := (0 : Int32)) hx hb dL_law_905 (by decide) ?_
    exact h.elim
set_option maxHeartbeats 4000000 in
set_option maxRecDepth 100000 in
theorem b_L_law_856 {G : Gx} {b L : Nat} {xs : Nat → Int32} {p : Program} {l : Launch} {e : Env} {s : State} {m : MethodId} {below : List Frame} {meth : Method} {c : Code} (hst : l.stackTraces = false) (C : Cx G p s m c cL_law RL 7) (hr : meth.sig.returnType = ret) (hlk : meth.locks = false) (hN : ncE s) (hX : va_X b L xs s s.heap) (hbl : b < s.heap.size) (hz0 : gz G = s.heap.size) {cells slots : Nat} (hcs : cells + 16 ≤ 601024 ∧ slots + 128 ≤ 7293034) {k_23 : Nat → Nat → Nat → Int32 → Mm → Prop} (hk_23 : ∀ (x1 : Nat) (x2 : Nat) (x3 : Nat) (x4 : Int32) (u : Mm) (H : Heap) (locs : List Loc) (ls : Array Slot), k_23 x1 x2 x3 x4 u → lv_has ls 7 [(0, .ref b), (1, .ref x1), (2, .ref x2), (3, .ref x3), (4, .int x4)] → Hp G u s H locs → W p l e room_1 s m #[Value.ref b] below meth c H locs (cells + 16) (slots + 128) (lw_Z below #[Value.ref b] s) (F0 m 23 ls [])) {x1 : Nat} {x2 : Nat} {x3 : Nat} {x4 : Int32} {u : Mm} {H : Heap} {locs : List Loc} {ls : Array Slot} (h : V_L_law_856 G b L xs k_23 x1 x2 x3 x4 u) (hl : lv_has ls 7 [(0, .ref b), (1, .ref x1), (2, .ref x2), (3, .ref x3), (4, .int x4)]) (hP : Hp G u s H locs) : W p l e room_1 s m #[Value.ref b] below meth c H locs (cells + 8) (slots + 64) (lw_Z below #[Value.ref b] s) (F0 m 856 ls []) := by
  have hx := C.1
  have hb := C.2.1
  have hbA : ¬ ag G b := by unfold ag; omega
  unfold V_L_law_856 at h
  refine lv_goto (tgt := 1694) hx hb dL_law_856 (by decide) ?_
  refine W.widen (k := cells + 16) (n := slots + 128) (by omega) (by omega) ?_
  exact b_L_law_1694 hst C hr hlk hN hX hbl hz0 hcs hk_23 h (lv_sub hl [0, 1, 2, 3, 4] rfl) hP
set_option maxHeartbeats 4000000 in
set_option maxRecDepth 100000 in
theorem b_L_law_791 {G : Gx} {b L : Nat} {xs : Nat → Int32} {p : Program} {l : Launch} {e : Env} {s : State} {m : MethodId} {below : List Frame} {meth : Method} {c : Code} (hst : l.stackTraces = false) (C : Cx G p s m c cL_law RL 7) (hr : meth.sig.returnType = ret) (hlk : meth.locks = false) (hN : ncE s) (hX : va_X b L xs s s.heap) (hbl : b < s.heap.size) (hz0 : gz G = s.heap.size) {cells slots : Nat} (hcs : cells + 16 ≤ 601024 ∧ slots + 128 ≤ 7293034) {k_23 : Nat → Nat → Nat → Int32 → Mm → Prop} (hk_23 : ∀ (x1 : Nat) (x2 : Nat) (x3 : Nat) (x4 : Int32) (u : Mm) (H : Heap) (locs : List Loc) (ls : Array Slot), k_23 x1 x2 x3 x4 u → lv_has ls 7 [(0, .ref b), (1, .ref x1), (2, .ref x2), (3, .ref x3), (4, .int x4)] → Hp G u s H locs → W p l e room_1 s m #[Value.ref b] below meth c H locs (cells + 16) (slots + 128) (lw_Z below #[Value.ref b] s) (F0 m 23 ls [])) {x1 : Nat} {x2 : Nat} {x3 : Nat} {x4 : Int32} {u : Mm} {H : Heap} {locs : List Loc} {ls : Array Slot} (h : V_L_law_791 G b L xs k_23 x1 x2 x3 x4 u) (hl : lv_has ls 7 [(0, .ref b), (1, .ref x1), (2, .ref x2), (3, .ref x3), (4, .int x4)]) (hP : Hp G u s H locs) : W p l e room_1 s m #[Value.ref b] below meth c H locs cells slots (lw_Z below #[Value.ref b] s) (F0 m 791 ls []) := by
  have hx := C.1
  have hb := C.2.1
  have hbA : ¬ ag G b := by unfold ag; omega
  unfold V_L_law_791 at h
  refine lv_aload_n hx hb dL_law_791 rfl (lv_at hl 1 rfl) ?_
  refine lv_aload_n hx hb dL_law_792 rfl (lv_at hl 0 rfl) ?_
  refine lv_iload hx hb dL_law_793 (lv_at hl 4 rfl) ?_
  refine lv_iconst (v := (1 : Int32)) hx hb dL_law_795 (by decide) ?_
  refine lv_iadd hx hb dL_law_796 ?_
  obtain ⟨g1, h⟩ := h
  refine va_sld hx hb hX hbl hbA hP.2 g1 dL_law_797 ?_
  refine lv_aload_n hx hb dL_law_798 rfl (lv_at hl 0 rfl) ?_
  refine lv_iload hx hb dL_law_799 (lv_at hl 4 rfl) ?_
  refine lv_iconst (v := (2 : Int32)) hx hb dL_law_801 (by decide) ?_
  refine lv_iadd hx hb dL_law_802 ?_
  obtain ⟨g2, h⟩ := h
  refine va_sld hx hb hX hbl hbA hP.2 g2 dL_law_803 ?_
  refine lv_aload_n hx hb dL_law_804 rfl (lv_at hl 3 rfl) ?_
  refine q_calim (q_runSL C hN hP (c_L_told hst h) rfl (cw_L_told C.hA) (ini_L C.hA) (ml_L_111 C.hA) (st_L_told C.hA) hd_L_told ⟨rfl, rfl⟩ ⟨Nat.le_of_ble_eq_true rfl, Nat.le_of_ble_eq_true rfl⟩ ⟨by show _ ≤ 601024; omega, by show _ ≤ 7293034; omega⟩ hl.1 rfl (Nat.le_of_ble_eq_true rfl) dL_law_805) hP (fun v_805 u_805 H locs h hP => ?_)
  refine lv_istore (lv' := [(5, .int v_805), (0, .ref b), (1, .ref x1), (2, .ref x2), (3, .ref x3), (4, .int x4)]) hx hb dL_law_808 hl (by decide) rfl (fun ls hl => ?_)
  refine lv_aload_n hx hb dL_law_810 rfl (lv_at hl 3 rfl) ?_
  refine lv_aload_n hx hb dL_law_811 rfl (lv_at hl 1 rfl) ?_
  refine lv_iload hx hb dL_law_812 (lv_at hl 5 rfl) ?_
  refine lv_iconst (v := (1 : Int32)) hx hb dL_law_814 (by decide) ?_
  refine lv_iadd hx hb dL_law_815 ?_
  refine va_sld hx hb hX hbl hbA hP.2 g1 dL_law_816 ?_
  refine lv_aload_n hx hb dL_law_817 rfl (lv_at hl 1 rfl) ?_
  refine lv_iload hx hb dL_law_818 (lv_at hl 5 rfl) ?_
  refine lv_iconst (v := (2 : Int32)) hx hb dL_law_820 (by decide) ?_
  refine lv_iadd hx hb dL_law_821 ?_
  refine va_sld hx hb hX hbl hbA hP.2 g2 dL_law_822 ?_
  obtain ⟨g3, h⟩ := h
  refine q_cali (q_runV C hP (c_X12_told h) (cd_X12_told C.hA) (ini_X12 C.hA) (ml_L_113 C.hA) (im_X12_told C.hA) (sl_X12_told C.hA) g3 (by decide) rfl hd_X12_told ⟨rfl, rfl⟩ ⟨Nat.le_of_ble_eq_true rfl, Nat.le_of_ble_eq_true rfl⟩ ⟨by show _ ≤ 601024; omega, by show _ ≤ 7293034; omega⟩ hl.1 rfl (Nat.le_of_ble_eq_true rfl) dL_law_823) hP (fun v_823 u_823 H locs h hP => ?_)
  refine lv_istore (lv' := [(6, .int v_823), (5, .int v_805), (0, .ref b), (1, .ref x1), (2, .ref x2), (3, .ref x3), (4, .int x4)]) hx hb dL_law_826 hl (by decide) rfl (fun ls hl => ?_)
  refine lv_aload_n hx hb dL_law_828 rfl (lv_at hl 4 rfl) ?_
  refine q_cali (q_runV C hP (c_X12_thrown h) (cd_X12_thrown C.hA) (ini_X12 C.hA) (ml_L_82 C.hA) (im_X12_thrown C.hA) (sl_X12_thrown C.hA) g3 (by decide) rfl hd_X12_thrown ⟨rfl, rfl⟩ ⟨Nat.le_of_ble_eq_true rfl, Nat.le_of_ble_eq_true rfl⟩ ⟨by show _ ≤ 601024; omega, by show _ ≤ 7293034; omega⟩ hl.1 rfl (Nat.le_of_ble_eq_true rfl) dL_law_829) hP (fun v_829 u_829 H locs h hP => ?_)
  refine lv_iload hx hb dL_law_832 (lv_at hl 1 rfl) ?_
  refine lv_icmp_eq (tgt := 839) hx hb dL_law_834 (by decide) (fun c834 => ?_) (fun c834 => ?_)
  · have h := h.1 c834
    refine lv_iload hx hb dL_law_839 (lv_at hl 1 rfl) ?_
    refine lv_if_ne (tgt := 856) hx hb dL_law_841 (by decide) (fun c841 => ?_) (fun c841 => ?_)
    · have h := h.2 c841
      refine W.widen (k := cells + 8) (n := slots + 64) (by omega) (by omega) ?_
      exact b_L_law_856 hst C hr hlk hN hX hbl hz0 hcs hk_23 h (lv_sub hl [2, 3, 4, 5, 6] rfl) hP
    · have h := h.1 c841
      refine lv_aload_n hx hb dL_law_844 rfl (lv_at hl 5 rfl) ?_
      refine lv_iconst (v := (0 : Int32)) hx hb dL_law_845 (by decide) ?_
      obtain ⟨g4, h⟩ := h
      obtain ⟨g5, h⟩ := h
      refine q_lald C hP g4 g5 dL_law_846 ?_
      refine lv_iload hx hb dL_law_847 (lv_at hl 0 rfl) ?_
      refine lv_i2l (v := v_823.toInt64) hx hb dL_law_849 rfl ?_
      refine W.lcmp hx hb dL_law_850 ?_
      refine lv_if_eq (tgt := 856) hx hb dL_law_851 (by decide) (fun c851 => ?_) (fun c851 => ?_)
      · have h := h.1 c851
        refine W.widen (k := cells + 8) (n := slots + 64) (by omega) (by omega) ?_
        exact b_L_law_856 hst C hr hlk hN hX hbl hz0 hcs hk_23 h (lv_sub hl [2, 3, 4, 5, 6] rfl) hP
      · have h := h.2 c851
        refine lv_iconst (v := (0 : Int32)) hx hb dL_law_854 (by decide) ?_
        exact h.elim
  · have h := h.2 c834
    refine lv_iconst (v := (0 : Int32)) hx hb dL_law_837 (by decide) ?_
    exact h.elim
set_option maxHeartbeats 4000000 in
set_option maxRecDepth 100000 in
theorem b_L_law_788 {G : Gx} {b L : Nat} {xs : Nat → Int32} {p : Program} {l : Launch} {e : Env} {s : State} {m : MethodId} {below : List Frame} {meth : Method} {c : Code} (hst : l.stackTraces = false) (C : Cx G p s m c cL_law RL 7) (hr : meth.sig.returnType = ret) (hlk : meth.locks = false) (hN : ncE s) (hX : va_X b L xs s s.heap) (hbl : b < s.heap.size) (hz0 : gz G = s.heap.size) {cells slots : Nat} (hcs : cells + 16 ≤ 601024 ∧ slots + 128 ≤ 7293034) {k_23 : Nat → Nat → Nat → Int32 → Mm → Prop} (hk_23 : ∀ (x1 : Nat) (x2 : Nat) (x3 : Nat) (x4 : Int32) (u : Mm) (H : Heap) (locs : List Loc) (ls : Array Slot), k_23 x1 x2 x3 x4 u → lv_has ls 7 [(0, .ref b), (1, .ref x1), (2, .ref x2), (3, .ref x3), (4, .int x4)] → Hp G u s H locs → W p l e room_1 s m #[Value.ref b] below meth c H locs (cells + 16) (slots + 128) (lw_Z below #[Value.ref b] s) (F0 m 23 ls [])) {x1 : Nat} {x2 : Nat} {x3 : Nat} {x4 : Int32} {u : Mm} {H : Heap} {locs : List Loc} {ls : Array Slot} (h : V_L_law_788 G b L xs k_23 x1 x2 x3 x4 u) (hl : lv_has ls 7 [(0, .ref b), (1, .ref x1), (2, .ref x2), (3, .ref x3), (4, .int x4)]) (hP : Hp G u s H locs) : W p l e room_1 s m #[Value.ref b] below meth c H locs (cells + 8) (slots + 64) (lw_Z below #[Value.ref b] s) (F0 m 788 ls []) := by
  have hx := C.1
  have hb := C.2.1
  have hbA : ¬ ag G b := by unfold ag; omega
  unfold V_L_law_788 at h
  refine lv_goto (tgt := 1694) hx hb dL_law_788 (by decide) ?_
  refine W.widen (k := cells + 16) (n := slots + 128) (by omega) (by omega) ?_
  exact b_L_law_1694 hst C hr hlk hN hX hbl hz0 hcs hk_23 h (lv_sub hl [0, 1, 2, 3, 4] rfl) hP
set_option maxHeartbeats 4000000 in
set_option maxRecDepth 100000 in
theorem b_L_law_723 {G : Gx} {b L : Nat} {xs : Nat → Int32} {p : Program} {l : Launch} {e : Env} {s : State} {m : MethodId} {below : List Frame} {meth : Method} {c : Code} (hst : l.stackTraces = false) (C : Cx G p s m c cL_law RL 7) (hr : meth.sig.returnType = ret) (hlk : meth.locks = false) (hN : ncE s) (hX : va_X b L xs s s.heap) (hbl : b < s.heap.size) (hz0 : gz G = s.heap.size) {cells slots : Nat} (hcs : cells + 16 ≤ 601024 ∧ slots + 128 ≤ 7293034) {k_23 : Nat → Nat → Nat → Int32 → Mm → Prop} (hk_23 : ∀ (x1 : Nat) (x2 : Nat) (x3 : Nat) (x4 : Int32) (u : Mm) (H : Heap) (locs : List Loc) (ls : Array Slot), k_23 x1 x2 x3 x4 u → lv_has ls 7 [(0, .ref b), (1, .ref x1), (2, .ref x2), (3, .ref x3), (4, .int x4)] → Hp G u s H locs → W p l e room_1 s m #[Value.ref b] below meth c H locs (cells + 16) (slots + 128) (lw_Z below #[Value.ref b] s) (F0 m 23 ls [])) {x1 : Nat} {x2 : Nat} {x3 : Nat} {x4 : Int32} {u : Mm} {H : Heap} {locs : List Loc} {ls : Array Slot} (h : V_L_law_723 G b L xs k_23 x1 x2 x3 x4 u) (hl : lv_has ls 7 [(0, .ref b), (1, .ref x1), (2, .ref x2), (3, .ref x3), (4, .int x4)]) (hP : Hp G u s H locs) : W p l e room_1 s m #[Value.ref b] below meth c H locs cells slots (lw_Z below #[Value.ref b] s) (F0 m 723 ls []) := by
  have hx := C.1
  have hb := C.2.1
  have hbA : ¬ ag G b := by unfold ag; omega
  unfold V_L_law_723 at h
  refine lv_aload_n hx hb dL_law_723 rfl (lv_at hl 1 rfl) ?_
  refine lv_aload_n hx hb dL_law_724 rfl (lv_at hl 0 rfl) ?_
  refine lv_iload hx hb dL_law_725 (lv_at hl 4 rfl) ?_
  refine lv_iconst (v := (1 : Int32)) hx hb dL_law_727 (by decide) ?_
  refine lv_iadd hx hb dL_law_728 ?_
  obtain ⟨g1, h⟩ := h
  refine va_sld hx hb hX hbl hbA hP.2 g1 dL_law_729 ?_
  refine lv_aload_n hx hb dL_law_730 rfl (lv_at hl 0 rfl) ?_
  refine lv_iload hx hb dL_law_731 (lv_at hl 4 rfl) ?_
  refine lv_iconst (v := (2 : Int32)) hx hb dL_law_733 (by decide) ?_
  refine lv_iadd hx hb dL_law_734 ?_
  obtain ⟨g2, h⟩ := h
  refine va_sld hx hb hX hbl hbA hP.2 g2 dL_law_735 ?_
  refine lv_aload_n hx hb dL_law_736 rfl (lv_at hl 3 rfl) ?_
  refine q_calim (q_runSL C hN hP (c_L_tick hst h) rfl (cw_L_tick C.hA) (ini_L C.hA) (ml_L_108 C.hA) (st_L_tick C.hA) hd_L_tick ⟨rfl, rfl⟩ ⟨Nat.le_of_ble_eq_true rfl, Nat.le_of_ble_eq_true rfl⟩ ⟨by show _ ≤ 601024; omega, by show _ ≤ 7293034; omega⟩ hl.1 rfl (Nat.le_of_ble_eq_true rfl) dL_law_737) hP (fun v_737 u_737 H locs h hP => ?_)
  refine lv_istore (lv' := [(5, .int v_737), (0, .ref b), (1, .ref x1), (2, .ref x2), (3, .ref x3), (4, .int x4)]) hx hb dL_law_740 hl (by decide) rfl (fun ls hl => ?_)
  refine lv_aload_n hx hb dL_law_742 rfl (lv_at hl 3 rfl) ?_
  refine lv_aload_n hx hb dL_law_743 rfl (lv_at hl 1 rfl) ?_
  refine lv_iload hx hb dL_law_744 (lv_at hl 5 rfl) ?_
  refine lv_iconst (v := (1 : Int32)) hx hb dL_law_746 (by decide) ?_
  refine lv_iadd hx hb dL_law_747 ?_
  refine va_sld hx hb hX hbl hbA hP.2 g1 dL_law_748 ?_
  refine lv_aload_n hx hb dL_law_749 rfl (lv_at hl 1 rfl) ?_
  refine lv_iload hx hb dL_law_750 (lv_at hl 5 rfl) ?_
  refine lv_iconst (v := (2 : Int32)) hx hb dL_law_752 (by decide) ?_
  refine lv_iadd hx hb dL_law_753 ?_
  refine va_sld hx hb hX hbl hbA hP.2 g2 dL_law_754 ?_
  obtain ⟨g3, h⟩ := h
  refine q_cali (q_runV C hP (c_X12_tick h) (cd_X12_tick C.hA) (ini_X12 C.hA) (ml_L_110 C.hA) (im_X12_tick C.hA) (sl_X12_tick C.hA) g3 (by decide) rfl hd_X12_tick ⟨rfl, rfl⟩ ⟨Nat.le_of_ble_eq_true rfl, Nat.le_of_ble_eq_true rfl⟩ ⟨by show _ ≤ 601024; omega, by show _ ≤ 7293034; omega⟩ hl.1 rfl (Nat.le_of_ble_eq_true rfl) dL_law_755) hP (fun v_755 u_755 H locs h hP => ?_)
  refine lv_istore (lv' := [(6, .int v_755), (5, .int v_737), (0, .ref b), (1, .ref x1), (2, .ref x2), (3, .ref x3), (4, .int x4)]) hx hb dL_law_758 hl (by decide) rfl (fun ls hl => ?_)
  refine lv_aload_n hx hb dL_law_760 rfl (lv_at hl 4 rfl) ?_
  refine q_cali (q_runV C hP (c_X12_thrown h) (cd_X12_thrown C.hA) (ini_X12 C.hA) (ml_L_82 C.hA) (im_X12_thrown C.hA) (sl_X12_thrown C.hA) g3 (by decide) rfl hd_X12_thrown ⟨rfl, rfl⟩ ⟨Nat.le_of_ble_eq_true rfl, Nat.le_of_ble_eq_true rfl⟩ ⟨by show _ ≤ 601024; omega, by show _ ≤ 7293034; omega⟩ hl.1 rfl (Nat.le_of_ble_eq_true rfl) dL_law_761) hP (fun v_761 u_761 H locs h hP => ?_)
  refine lv_iload hx hb dL_law_764 (lv_at hl 1 rfl) ?_
  refine lv_icmp_eq (tgt := 771) hx hb dL_law_766 (by decide) (fun c766 => ?_) (fun c766 => ?_)
  · have h := h.1 c766
    refine lv_iload hx hb dL_law_771 (lv_at hl 1 rfl) ?_
    refine lv_if_ne (tgt := 788) hx hb dL_law_773 (by decide) (fun c773 => ?_) (fun c773 => ?_)
    · have h := h.2 c773
      refine W.widen (k := cells + 8) (n := slots + 64) (by omega) (by omega) ?_
      exact b_L_law_788 hst C hr hlk hN hX hbl hz0 hcs hk_23 h (lv_sub hl [2, 3, 4, 5, 6] rfl) hP
    · have h := h.1 c773
      refine lv_aload_n hx hb dL_law_776 rfl (lv_at hl 5 rfl) ?_
      refine lv_iconst (v := (0 : Int32)) hx hb dL_law_777 (by decide) ?_
      obtain ⟨g4, h⟩ := h
      obtain ⟨g5, h⟩ := h
      refine q_lald C hP g4 g5 dL_law_778 ?_
      refine lv_iload hx hb dL_law_779 (lv_at hl 0 rfl) ?_
      refine lv_i2l (v := v_755.toInt64) hx hb dL_law_781 rfl ?_
      refine W.lcmp hx hb dL_law_782 ?_
      refine lv_if_eq (tgt := 788) hx hb dL_law_783 (by decide) (fun c783 => ?_) (fun c783 => ?_)
      · have h := h.1 c783
        refine W.widen (k := cells + 8) (n := slots + 64) (by omega) (by omega) ?_
        exact b_L_law_788 hst C hr hlk hN hX hbl hz0 hcs hk_23 h (lv_sub hl [2, 3, 4, 5, 6] rfl) hP
      · have h := h.2 c783
        refine lv_iconst (v := (0 : Int32)) hx hb dL_law_786 (by decide) ?_
        exact h.elim
  · have h := h.2 c766
    refine lv_iconst (v := (0 : Int32)) hx hb dL_law_769 (by decide) ?_
    exact h.elim
set_option maxHeartbeats 4000000 in
set_option maxRecDepth 100000 in
theorem b_L_law_662 {G : Gx} {b L : Nat} {xs : Nat → Int32} {p : Program} {l : Launch} {e : Env} {s : State} {m : MethodId} {below : List Frame} {meth : Method} {c : Code} (hst : l.stackTraces = false) (C : Cx G p s m c cL_law RL 7) (hr : meth.sig.returnType = ret) (hlk : meth.locks = false) (hN : ncE s) (hX : va_X b L xs s s.heap) (hbl : b < s.heap.size) (hz0 : gz G = s.heap.size) {cells slots : Nat} (hcs : cells + 16 ≤ 601024 ∧ slots + 128 ≤ 7293034) {k_23 : Nat → Nat → Nat → Int32 → Mm → Prop} (hk_23 : ∀ (x1 : Nat) (x2 : Nat) (x3 : Nat) (x4 : Int32) (u : Mm) (H : Heap) (locs : List Loc) (ls : Array Slot), k_23 x1 x2 x3 x4 u → lv_has ls 7 [(0, .ref b), (1, .ref x1), (2, .ref x2), (3, .ref x3), (4, .int x4)] → Hp G u s H locs → W p l e room_1 s m #[Value.ref b] below meth c H locs (cells + 16) (slots + 128) (lw_Z below #[Value.ref b] s) (F0 m 23 ls [])) {x1 : Nat} {x2 : Nat} {x3 : Nat} {x4 : Int32} {u : Mm} {H : Heap} {locs : List Loc} {ls : Array Slot} (h : V_L_law_662 G b L xs k_23 x1 x2 x3 x4 u) (hl : lv_has ls 7 [(0, .ref b), (1, .ref x1), (2, .ref x2), (3, .ref x3), (4, .int x4)]) (hP : Hp G u s H locs) : W p l e room_1 s m #[Value.ref b] below meth c H locs cells slots (lw_Z below #[Value.ref b] s) (F0 m 662 ls []) := by
  have hx := C.1
  have hb := C.2.1
  have hbA : ¬ ag G b := by unfold ag; omega
  unfold V_L_law_662 at h
  refine lv_aload_n hx hb dL_law_662 rfl (lv_at hl 1 rfl) ?_
  refine lv_aload_n hx hb dL_law_663 rfl (lv_at hl 0 rfl) ?_
  refine lv_iload hx hb dL_law_664 (lv_at hl 4 rfl) ?_
  refine lv_iconst (v := (1 : Int32)) hx hb dL_law_666 (by decide) ?_
  refine lv_iadd hx hb dL_law_667 ?_
  obtain ⟨g1, h⟩ := h
  refine va_sld hx hb hX hbl hbA hP.2 g1 dL_law_668 ?_
  refine lv_aload_n hx hb dL_law_669 rfl (lv_at hl 0 rfl) ?_
  refine lv_iload hx hb dL_law_670 (lv_at hl 4 rfl) ?_
  refine lv_iconst (v := (2 : Int32)) hx hb dL_law_672 (by decide) ?_
  refine lv_iadd hx hb dL_law_673 ?_
  obtain ⟨g2, h⟩ := h
  refine va_sld hx hb hX hbl hbA hP.2 g2 dL_law_674 ?_
  refine lv_aload_n hx hb dL_law_675 rfl (lv_at hl 0 rfl) ?_
  refine lv_iload hx hb dL_law_676 (lv_at hl 4 rfl) ?_
  refine lv_iconst (v := (3 : Int32)) hx hb dL_law_678 (by decide) ?_
  refine lv_iadd hx hb dL_law_679 ?_
  obtain ⟨g3, h⟩ := h
  refine va_sld hx hb hX hbl hbA hP.2 g3 dL_law_680 ?_
  refine lv_aload_n hx hb dL_law_681 rfl (lv_at hl 0 rfl) ?_
  refine lv_iload hx hb dL_law_682 (lv_at hl 4 rfl) ?_
  refine lv_iconst (v := (4 : Int32)) hx hb dL_law_684 (by decide) ?_
  refine lv_iadd hx hb dL_law_685 ?_
  obtain ⟨g4, h⟩ := h
  refine va_sld hx hb hX hbl hbA hP.2 g4 dL_law_686 ?_
  obtain ⟨g5, h⟩ := h
  refine q_cali (q_runV C hP (c_X11_station h) (cd_X11_station C.hA) (ini_X11 C.hA) (ml_L_104 C.hA) (im_X11_station C.hA) (sl_X11_station C.hA) g5 (by decide) rfl hd_X11_station ⟨rfl, rfl⟩ ⟨Nat.le_of_ble_eq_true rfl, Nat.le_of_ble_eq_true rfl⟩ ⟨by show _ ≤ 601024; omega, by show _ ≤ 7293034; omega⟩ hl.1 rfl (Nat.le_of_ble_eq_true rfl) dL_law_687) hP (fun v_687 u_687 H locs h hP => ?_)
  refine lv_aload_n hx hb dL_law_690 rfl (lv_at hl 2 rfl) ?_
  refine lv_aload_n hx hb dL_law_691 rfl (lv_at hl 0 rfl) ?_
  refine lv_iload hx hb dL_law_692 (lv_at hl 4 rfl) ?_
  refine lv_iconst (v := (1 : Int32)) hx hb dL_law_694 (by decide) ?_
  refine lv_iadd hx hb dL_law_695 ?_
  refine va_sld hx hb hX hbl hbA hP.2 g1 dL_law_696 ?_
  refine lv_aload_n hx hb dL_law_697 rfl (lv_at hl 0 rfl) ?_
  refine lv_iload hx hb dL_law_698 (lv_at hl 4 rfl) ?_
  refine lv_iconst (v := (2 : Int32)) hx hb dL_law_700 (by decide) ?_
  refine lv_iadd hx hb dL_law_701 ?_
  refine va_sld hx hb hX hbl hbA hP.2 g2 dL_law_702 ?_
  refine lv_aload_n hx hb dL_law_703 rfl (lv_at hl 0 rfl) ?_
  refine lv_iload hx hb dL_law_704 (lv_at hl 4 rfl) ?_
  refine lv_iconst (v := (3 : Int32)) hx hb dL_law_706 (by decide) ?_
  refine lv_iadd hx hb dL_law_707 ?_
  refine va_sld hx hb hX hbl hbA hP.2 g3 dL_law_708 ?_
  refine lv_aload_n hx hb dL_law_709 rfl (lv_at hl 0 rfl) ?_
  refine lv_iload hx hb dL_law_710 (lv_at hl 4 rfl) ?_
  refine lv_iconst (v := (4 : Int32)) hx hb dL_law_712 (by decide) ?_
  refine lv_iadd hx hb dL_law_713 ?_
  refine va_sld hx hb hX hbl hbA hP.2 g4 dL_law_714 ?_
  obtain ⟨g6, h⟩ := h
  refine q_cali (q_runV C hP (c_X12_station h) (cd_X12_station C.hA) (ini_X12 C.hA) (ml_L_107 C.hA) (im_X12_station C.hA) (sl_X12_station C.hA) g6 (by decide) rfl hd_X12_station ⟨rfl, rfl⟩ ⟨Nat.le_of_ble_eq_true rfl, Nat.le_of_ble_eq_true rfl⟩ ⟨by show _ ≤ 601024; omega, by show _ ≤ 7293034; omega⟩ hl.1 rfl (Nat.le_of_ble_eq_true rfl) dL_law_715) hP (fun v_715 u_715 H locs h hP => ?_)
  refine lv_icmp_eq (tgt := 1694) hx hb dL_law_718 (by decide) (fun c718 => ?_) (fun c718 => ?_)
  · have h := h.1 c718
    refine W.widen (k := cells + 16) (n := slots + 128) (by omega) (by omega) ?_
    exact b_L_law_1694 hst C hr hlk hN hX hbl hz0 hcs hk_23 h (lv_sub hl [0, 1, 2, 3, 4] rfl) hP
  · have h := h.2 c718
    refine lv_iconst (v := (0 : Int32)) hx hb dL_law_721 (by decide) ?_
    exact h.elim
set_option maxHeartbeats 4000000 in
set_option maxRecDepth 100000 in
theorem b_L_law_659 {G : Gx} {b L : Nat} {xs : Nat → Int32} {p : Program} {l : Launch} {e : Env} {s : State} {m : MethodId} {below : List Frame} {meth : Method} {c : Code} (hst : l.stackTraces = false) (C : Cx G p s m c cL_law RL 7) (hr : meth.sig.returnType = ret) (hlk : meth.locks = false) (hN : ncE s) (hX : va_X b L xs s s.heap) (hbl : b < s.heap.size) (hz0 : gz G = s.heap.size) {cells slots : Nat} (hcs : cells + 16 ≤ 601024 ∧ slots + 128 ≤ 7293034) {k_23 : Nat → Nat → Nat → Int32 → Mm → Prop} (hk_23 : ∀ (x1 : Nat) (x2 : Nat) (x3 : Nat) (x4 : Int32) (u : Mm) (H : Heap) (locs : List Loc) (ls : Array Slot), k_23 x1 x2 x3 x4 u → lv_has ls 7 [(0, .ref b), (1, .ref x1), (2, .ref x2), (3, .ref x3), (4, .int x4)] → Hp G u s H locs → W p l e room_1 s m #[Value.ref b] below meth c H locs (cells + 16) (slots + 128) (lw_Z below #[Value.ref b] s) (F0 m 23 ls [])) {x1 : Nat} {x2 : Nat} {x3 : Nat} {x4 : Int32} {u : Mm} {H : Heap} {locs : List Loc} {ls : Array Slot} (h : V_L_law_659 G b L xs k_23 x1 x2 x3 x4 u) (hl : lv_has ls 7 [(0, .ref b), (1, .ref x1), (2, .ref x2), (3, .ref x3), (4, .int x4)]) (hP : Hp G u s H locs) : W p l e room_1 s m #[Value.ref b] below meth c H locs (cells + 8) (slots + 64) (lw_Z below #[Value.ref b] s) (F0 m 659 ls []) := by
  have hx := C.1
  have hb := C.2.1
  have hbA : ¬ ag G b := by unfold ag; omega
  unfold V_L_law_659 at h
  refine lv_goto (tgt := 1694) hx hb dL_law_659 (by decide) ?_
  refine W.widen (k := cells + 16) (n := slots + 128) (by omega) (by omega) ?_
  exact b_L_law_1694 hst C hr hlk hN hX hbl hz0 hcs hk_23 h (lv_sub hl [0, 1, 2, 3, 4] rfl) hP
set_option maxHeartbeats 4000000 in
set_option maxRecDepth 100000 in
theorem b_L_law_544 {G : Gx} {b L : Nat} {xs : Nat → Int32} {p : Program} {l : Launch} {e : Env} {s : State} {m : MethodId} {below : List Frame} {meth : Method} {c : Code} (hst : l.stackTraces = false) (C : Cx G p s m c cL_law RL 7) (hr : meth.sig.returnType = ret) (hlk : meth.locks = false) (hN : ncE s) (hX : va_X b L xs s s.heap) (hbl : b < s.heap.size) (hz0 : gz G = s.heap.size) {cells slots : Nat} (hcs : cells + 16 ≤ 601024 ∧ slots + 128 ≤ 7293034) {k_23 : Nat → Nat → Nat → Int32 → Mm → Prop} (hk_23 : ∀ (x1 : Nat) (x2 : Nat) (x3 : Nat) (x4 : Int32) (u : Mm) (H : Heap) (locs : List Loc) (ls : Array Slot), k_23 x1 x2 x3 x4 u → lv_has ls 7 [(0, .ref b), (1, .ref x1), (2, .ref x2), (3, .ref x3), (4, .int x4)] → Hp G u s H locs → W p l e room_1 s m #[Value.ref b] below meth c H locs (cells + 16) (slots + 128) (lw_Z below #[Value.ref b] s) (F0 m 23 ls [])) {x1 : Nat} {x2 : Nat} {x3 : Nat} {x4 : Int32} {u : Mm} {H : Heap} {locs : List Loc} {ls : Array Slot} (h : V_L_law_544 G b L xs k_23 x1 x2 x3 x4 u) (hl : lv_has ls 7 [(0, .ref b), (1, .ref x1), (2, .ref x2), (3, .ref x3), (4, .int x4)]) (hP : Hp G u s H locs) : W p l e room_1 s m #[Value.ref b] below meth c H locs cells slots (lw_Z below #[Value.ref b] s) (F0 m 544 ls []) := by
  have hx := C.1
  have hb := C.2.1
  have hbA : ¬ ag G b := by unfold ag; omega
  unfold V_L_law_544 at h
  refine lv_aload_n hx hb dL_law_544 rfl (lv_at hl 1 rfl) ?_
  refine lv_aload_n hx hb dL_law_545 rfl (lv_at hl 0 rfl) ?_
  refine lv_iload hx hb dL_law_546 (lv_at hl 4 rfl) ?_
  refine lv_iconst (v := (1 : Int32)) hx hb dL_law_548 (by decide) ?_
  refine lv_iadd hx hb dL_law_549 ?_
  obtain ⟨g1, h⟩ := h
  refine va_sld hx hb hX hbl hbA hP.2 g1 dL_law_550 ?_
  refine lv_aload_n hx hb dL_law_551 rfl (lv_at hl 0 rfl) ?_
  refine lv_iload hx hb dL_law_552 (lv_at hl 4 rfl) ?_
  refine lv_iconst (v := (2 : Int32)) hx hb dL_law_554 (by decide) ?_
  refine lv_iadd hx hb dL_law_555 ?_
  obtain ⟨g2, h⟩ := h
  refine va_sld hx hb hX hbl hbA hP.2 g2 dL_law_556 ?_
  refine lv_aload_n hx hb dL_law_557 rfl (lv_at hl 0 rfl) ?_
  refine lv_iload hx hb dL_law_558 (lv_at hl 4 rfl) ?_
  refine lv_iconst (v := (3 : Int32)) hx hb dL_law_560 (by decide) ?_
  refine lv_iadd hx hb dL_law_561 ?_
  obtain ⟨g3, h⟩ := h
  refine va_sld hx hb hX hbl hbA hP.2 g3 dL_law_562 ?_
  refine lv_aload_n hx hb dL_law_563 rfl (lv_at hl 0 rfl) ?_
  refine lv_iload hx hb dL_law_564 (lv_at hl 4 rfl) ?_
  refine lv_iconst (v := (4 : Int32)) hx hb dL_law_566 (by decide) ?_
  refine lv_iadd hx hb dL_law_567 ?_
  obtain ⟨g4, h⟩ := h
  refine va_sld hx hb hX hbl hbA hP.2 g4 dL_law_568 ?_
  refine lv_aload_n hx hb dL_law_569 rfl (lv_at hl 0 rfl) ?_
  refine lv_iload hx hb dL_law_570 (lv_at hl 4 rfl) ?_
  refine lv_iconst (v := (5 : Int32)) hx hb dL_law_572 (by decide) ?_
  refine lv_iadd hx hb dL_law_573 ?_
  obtain ⟨g5, h⟩ := h
  refine va_sld hx hb hX hbl hbA hP.2 g5 dL_law_574 ?_
  refine lv_aload_n hx hb dL_law_575 rfl (lv_at hl 0 rfl) ?_
  refine lv_iload hx hb dL_law_576 (lv_at hl 4 rfl) ?_
  refine lv_bipush (v := (6 : Int32)) hx hb dL_law_578 (by decide) ?_
  refine lv_iadd hx hb dL_law_580 ?_
  obtain ⟨g6, h⟩ := h
  refine va_sld hx hb hX hbl hbA hP.2 g6 dL_law_581 ?_
  refine lv_aload_n hx hb dL_law_582 rfl (lv_at hl 3 rfl) ?_
  refine q_calim (q_runSL C hN hP (c_L_strength hst h) rfl (cw_L_strength C.hA) (ini_L C.hA) (ml_L_101 C.hA) (st_L_strength C.hA) hd_L_strength ⟨rfl, rfl⟩ ⟨Nat.le_of_ble_eq_true rfl, Nat.le_of_ble_eq_true rfl⟩ ⟨by show _ ≤ 601024; omega, by show _ ≤ 7293034; omega⟩ hl.1 rfl (Nat.le_of_ble_eq_true rfl) dL_law_583) hP (fun v_583 u_583 H locs h hP => ?_)
  refine lv_istore (lv' := [(5, .int v_583), (0, .ref b), (1, .ref x1), (2, .ref x2), (3, .ref x3), (4, .int x4)]) hx hb dL_law_586 hl (by decide) rfl (fun ls hl => ?_)
  refine lv_aload_n hx hb dL_law_588 rfl (lv_at hl 3 rfl) ?_
  refine lv_aload_n hx hb dL_law_589 rfl (lv_at hl 1 rfl) ?_
  refine lv_iload hx hb dL_law_590 (lv_at hl 5 rfl) ?_
  refine lv_iconst (v := (1 : Int32)) hx hb dL_law_592 (by decide) ?_
  refine lv_iadd hx hb dL_law_593 ?_
  refine va_sld hx hb hX hbl hbA hP.2 g1 dL_law_594 ?_
  refine lv_aload_n hx hb dL_law_595 rfl (lv_at hl 1 rfl) ?_
  refine lv_iload hx hb dL_law_596 (lv_at hl 5 rfl) ?_
  refine lv_iconst (v := (2 : Int32)) hx hb dL_law_598 (by decide) ?_
  refine lv_iadd hx hb dL_law_599 ?_
  refine va_sld hx hb hX hbl hbA hP.2 g2 dL_law_600 ?_
  refine lv_aload_n hx hb dL_law_601 rfl (lv_at hl 1 rfl) ?_
  refine lv_iload hx hb dL_law_602 (lv_at hl 5 rfl) ?_
  refine lv_iconst (v := (3 : Int32)) hx hb dL_law_604 (by decide) ?_
  refine lv_iadd hx hb dL_law_605 ?_
  refine va_sld hx hb hX hbl hbA hP.2 g3 dL_law_606 ?_
  refine lv_aload_n hx hb dL_law_607 rfl (lv_at hl 1 rfl) ?_
  refine lv_iload hx hb dL_law_608 (lv_at hl 5 rfl) ?_
  refine lv_iconst (v := (4 : Int32)) hx hb dL_law_610 (by decide) ?_
  refine lv_iadd hx hb dL_law_611 ?_
  refine va_sld hx hb hX hbl hbA hP.2 g4 dL_law_612 ?_
  refine lv_aload_n hx hb dL_law_613 rfl (lv_at hl 1 rfl) ?_
  refine lv_iload hx hb dL_law_614 (lv_at hl 5 rfl) ?_
  refine lv_iconst (v := (5 : Int32)) hx hb dL_law_616 (by decide) ?_
  refine lv_iadd hx hb dL_law_617 ?_
  refine va_sld hx hb hX hbl hbA hP.2 g5 dL_law_618 ?_
  refine lv_aload_n hx hb dL_law_619 rfl (lv_at hl 1 rfl) ?_
  refine lv_iload hx hb dL_law_620 (lv_at hl 5 rfl) ?_
  refine lv_bipush (v := (6 : Int32)) hx hb dL_law_622 (by decide) ?_
  refine lv_iadd hx hb dL_law_624 ?_
  refine va_sld hx hb hX hbl hbA hP.2 g6 dL_law_625 ?_
  obtain ⟨g7, h⟩ := h
  refine q_cali (q_runV C hP (c_X12_strength h) (cd_X12_strength C.hA) (ini_X12 C.hA) (ml_L_103 C.hA) (im_X12_strength C.hA) (sl_X12_strength C.hA) g7 (by decide) rfl hd_X12_strength ⟨rfl, rfl⟩ ⟨Nat.le_of_ble_eq_true rfl, Nat.le_of_ble_eq_true rfl⟩ ⟨by show _ ≤ 601024; omega, by show _ ≤ 7293034; omega⟩ hl.1 rfl (Nat.le_of_ble_eq_true rfl) dL_law_626) hP (fun v_626 u_626 H locs h hP => ?_)
  refine lv_istore (lv' := [(6, .int v_626), (5, .int v_583), (0, .ref b), (1, .ref x1), (2, .ref x2), (3, .ref x3), (4, .int x4)]) hx hb dL_law_629 hl (by decide) rfl (fun ls hl => ?_)
  refine lv_aload_n hx hb dL_law_631 rfl (lv_at hl 4 rfl) ?_
  refine q_cali (q_runV C hP (c_X12_thrown h) (cd_X12_thrown C.hA) (ini_X12 C.hA) (ml_L_82 C.hA) (im_X12_thrown C.hA) (sl_X12_thrown C.hA) g7 (by decide) rfl hd_X12_thrown ⟨rfl, rfl⟩ ⟨Nat.le_of_ble_eq_true rfl, Nat.le_of_ble_eq_true rfl⟩ ⟨by show _ ≤ 601024; omega, by show _ ≤ 7293034; omega⟩ hl.1 rfl (Nat.le_of_ble_eq_true rfl) dL_law_632) hP (fun v_632 u_632 H locs h hP => ?_)
  refine lv_iload hx hb dL_law_635 (lv_at hl 1 rfl) ?_
  refine lv_icmp_eq (tgt := 642) hx hb dL_law_637 (by decide) (fun c637 => ?_) (fun c637 => ?_)
  · have h := h.1 c637
    refine lv_iload hx hb dL_law_642 (lv_at hl 1 rfl) ?_
    refine lv_if_ne (tgt := 659) hx hb dL_law_644 (by decide) (fun c644 => ?_) (fun c644 => ?_)
    · have h := h.2 c644
      refine W.widen (k := cells + 8) (n := slots + 64) (by omega) (by omega) ?_
      exact b_L_law_659 hst C hr hlk hN hX hbl hz0 hcs hk_23 h (lv_sub hl [2, 3, 4, 5, 6] rfl) hP
    · have h := h.1 c644
      refine lv_aload_n hx hb dL_law_647 rfl (lv_at hl 5 rfl) ?_
      refine lv_iconst (v := (0 : Int32)) hx hb dL_law_648 (by decide) ?_
      obtain ⟨g8, h⟩ := h
      obtain ⟨g9, h⟩ := h
      refine q_lald C hP g8 g9 dL_law_649 ?_
      refine lv_iload hx hb dL_law_650 (lv_at hl 0 rfl) ?_
      refine lv_i2l (v := v_626.toInt64) hx hb dL_law_652 rfl ?_
      refine W.lcmp hx hb dL_law_653 ?_
      refine lv_if_eq (tgt := 659) hx hb dL_law_654 (by decide) (fun c654 => ?_) (fun c654 => ?_)
      · have h := h.1 c654
        refine W.widen (k := cells + 8) (n := slots + 64) (by omega) (by omega) ?_
        exact b_L_law_659 hst C hr hlk hN hX hbl hz0 hcs hk_23 h (lv_sub hl [2, 3, 4, 5, 6] rfl) hP
      · have h := h.2 c654
        refine lv_iconst (v := (0 : Int32)) hx hb dL_law_657 (by decide) ?_
        exact h.elim
  · have h := h.2 c637
    refine lv_iconst (v := (0 : Int32)) hx hb dL_law_640 (by decide) ?_
    exact h.elim
set_option maxHeartbeats 4000000 in
set_option maxRecDepth 100000 in
theorem b_L_law_541 {G : Gx} {b L : Nat} {xs : Nat → Int32} {p : Program} {l : Launch} {e : Env} {s : State} {m : MethodId} {below : List Frame} {meth : Method} {c : Code} (hst : l.stackTraces = false) (C : Cx G p s m c cL_law RL 7) (hr : meth.sig.returnType = ret) (hlk : meth.locks = false) (hN : ncE s) (hX : va_X b L xs s s.heap) (hbl : b < s.heap.size) (hz0 : gz G = s.heap.size) {cells slots : Nat} (hcs : cells + 16 ≤ 601024 ∧ slots + 128 ≤ 7293034) {k_23 : Nat → Nat → Nat → Int32 → Mm → Prop} (hk_23 : ∀ (x1 : Nat) (x2 : Nat) (x3 : Nat) (x4 : Int32) (u : Mm) (H : Heap) (locs : List Loc) (ls : Array Slot), k_23 x1 x2 x3 x4 u → lv_has ls 7 [(0, .ref b), (1, .ref x1), (2, .ref x2), (3, .ref x3), (4, .int x4)] → Hp G u s H locs → W p l e room_1 s m #[Value.ref b] below meth c H locs (cells + 16) (slots + 128) (lw_Z below #[Value.ref b] s) (F0 m 23 ls [])) {x1 : Nat} {x2 : Nat} {x3 : Nat} {x4 : Int32} {u : Mm} {H : Heap} {locs : List Loc} {ls : Array Slot} (h : V_L_law_541 G b L xs k_23 x1 x2 x3 x4 u) (hl : lv_has ls 7 [(0, .ref b), (1, .ref x1), (2, .ref x2), (3, .ref x3), (4, .int x4)]) (hP : Hp G u s H locs) : W p l e room_1 s m #[Value.ref b] below meth c H locs (cells + 8) (slots + 64) (lw_Z below #[Value.ref b] s) (F0 m 541 ls []) := by
  have hx := C.1
  have hb := C.2.1
  have hbA : ¬ ag G b := by unfold ag; omega
  unfold V_L_law_541 at h
  refine lv_goto (tgt := 1694) hx hb dL_law_541 (by decide) ?_
  refine W.widen (k := cells + 16) (n := slots + 128) (by omega) (by omega) ?_
  exact b_L_law_1694 hst C hr hlk hN hX hbl hz0 hcs hk_23 h (lv_sub hl [0, 1, 2, 3, 4] rfl) hP
set_option maxHeartbeats 4000000 in
set_option maxRecDepth 100000 in
theorem b_L_law_426 {G : Gx} {b L : Nat} {xs : Nat → Int32} {p : Program} {l : Launch} {e : Env} {s : State} {m : MethodId} {below : List Frame} {meth : Method} {c : Code} (hst : l.stackTraces = false) (C : Cx G p s m c cL_law RL 7) (hr : meth.sig.returnType = ret) (hlk : meth.locks = false) (hN : ncE s) (hX : va_X b L xs s s.heap) (hbl : b < s.heap.size) (hz0 : gz G = s.heap.size) {cells slots : Nat} (hcs : cells + 16 ≤ 601024 ∧ slots + 128 ≤ 7293034) {k_23 : Nat → Nat → Nat → Int32 → Mm → Prop} (hk_23 : ∀ (x1 : Nat) (x2 : Nat) (x3 : Nat) (x4 : Int32) (u : Mm) (H : Heap) (locs : List Loc) (ls : Array Slot), k_23 x1 x2 x3 x4 u → lv_has ls 7 [(0, .ref b), (1, .ref x1), (2, .ref x2), (3, .ref x3), (4, .int x4)] → Hp G u s H locs → W p l e room_1 s m #[Value.ref b] below meth c H locs (cells + 16) (slots + 128) (lw_Z below #[Value.ref b] s) (F0 m 23 ls [])) {x1 : Nat} {x2 : Nat} {x3 : Nat} {x4 : Int32} {u : Mm} {H : Heap} {locs : List Loc} {ls : Array Slot} (h : V_L_law_426 G b L xs k_23 x1 x2 x3 x4 u) (hl : lv_has ls 7 [(0, .ref b), (1, .ref x1), (2, .ref x2), (3, .ref x3), (4, .int x4)]) (hP : Hp G u s H locs) : W p l e room_1 s m #[Value.ref b] below meth c H locs cells slots (lw_Z below #[Value.ref b] s) (F0 m 426 ls []) := by
  have hx := C.1
  have hb := C.2.1
  have hbA : ¬ ag G b := by unfold ag; omega
  unfold V_L_law_426 at h
  refine lv_aload_n hx hb dL_law_426 rfl (lv_at hl 1 rfl) ?_
  refine lv_aload_n hx hb dL_law_427 rfl (lv_at hl 0 rfl) ?_
  refine lv_iload hx hb dL_law_428 (lv_at hl 4 rfl) ?_
  refine lv_iconst (v := (1 : Int32)) hx hb dL_law_430 (by decide) ?_
  refine lv_iadd hx hb dL_law_431 ?_
  obtain ⟨g1, h⟩ := h
  refine va_sld hx hb hX hbl hbA hP.2 g1 dL_law_432 ?_
  refine lv_aload_n hx hb dL_law_433 rfl (lv_at hl 0 rfl) ?_
  refine lv_iload hx hb dL_law_434 (lv_at hl 4 rfl) ?_
  refine lv_iconst (v := (2 : Int32)) hx hb dL_law_436 (by decide) ?_
  refine lv_iadd hx hb dL_law_437 ?_
  obtain ⟨g2, h⟩ := h
  refine va_sld hx hb hX hbl hbA hP.2 g2 dL_law_438 ?_
  refine lv_aload_n hx hb dL_law_439 rfl (lv_at hl 0 rfl) ?_
  refine lv_iload hx hb dL_law_440 (lv_at hl 4 rfl) ?_
  refine lv_iconst (v := (3 : Int32)) hx hb dL_law_442 (by decide) ?_
  refine lv_iadd hx hb dL_law_443 ?_
  obtain ⟨g3, h⟩ := h
  refine va_sld hx hb hX hbl hbA hP.2 g3 dL_law_444 ?_
  refine lv_aload_n hx hb dL_law_445 rfl (lv_at hl 0 rfl) ?_
  refine lv_iload hx hb dL_law_446 (lv_at hl 4 rfl) ?_
  refine lv_iconst (v := (4 : Int32)) hx hb dL_law_448 (by decide) ?_
  refine lv_iadd hx hb dL_law_449 ?_
  obtain ⟨g4, h⟩ := h
  refine va_sld hx hb hX hbl hbA hP.2 g4 dL_law_450 ?_
  refine lv_aload_n hx hb dL_law_451 rfl (lv_at hl 0 rfl) ?_
  refine lv_iload hx hb dL_law_452 (lv_at hl 4 rfl) ?_
  refine lv_iconst (v := (5 : Int32)) hx hb dL_law_454 (by decide) ?_
  refine lv_iadd hx hb dL_law_455 ?_
  obtain ⟨g5, h⟩ := h
  refine va_sld hx hb hX hbl hbA hP.2 g5 dL_law_456 ?_
  refine lv_aload_n hx hb dL_law_457 rfl (lv_at hl 0 rfl) ?_
  refine lv_iload hx hb dL_law_458 (lv_at hl 4 rfl) ?_
  refine lv_bipush (v := (6 : Int32)) hx hb dL_law_460 (by decide) ?_
  refine lv_iadd hx hb dL_law_462 ?_
  obtain ⟨g6, h⟩ := h
  refine va_sld hx hb hX hbl hbA hP.2 g6 dL_law_463 ?_
  refine lv_aload_n hx hb dL_law_464 rfl (lv_at hl 3 rfl) ?_
  refine q_calim (q_runSL C hN hP (c_L_clap hst h) rfl (cw_L_clap C.hA) (ini_L C.hA) (ml_L_97 C.hA) (st_L_clap C.hA) hd_L_clap ⟨rfl, rfl⟩ ⟨Nat.le_of_ble_eq_true rfl, Nat.le_of_ble_eq_true rfl⟩ ⟨by show _ ≤ 601024; omega, by show _ ≤ 7293034; omega⟩ hl.1 rfl (Nat.le_of_ble_eq_true rfl) dL_law_465) hP (fun v_465 u_465 H locs h hP => ?_)
  refine lv_istore (lv' := [(5, .int v_465), (0, .ref b), (1, .ref x1), (2, .ref x2), (3, .ref x3), (4, .int x4)]) hx hb dL_law_468 hl (by decide) rfl (fun ls hl => ?_)
  refine lv_aload_n hx hb dL_law_470 rfl (lv_at hl 3 rfl) ?_
  refine lv_aload_n hx hb dL_law_471 rfl (lv_at hl 1 rfl) ?_
  refine lv_iload hx hb dL_law_472 (lv_at hl 5 rfl) ?_
  refine lv_iconst (v := (1 : Int32)) hx hb dL_law_474 (by decide) ?_
  refine lv_iadd hx hb dL_law_475 ?_
  refine va_sld hx hb hX hbl hbA hP.2 g1 dL_law_476 ?_
  refine lv_aload_n hx hb dL_law_477 rfl (lv_at hl 1 rfl) ?_
  refine lv_iload hx hb dL_law_478 (lv_at hl 5 rfl) ?_
  refine lv_iconst (v := (2 : Int32)) hx hb dL_law_480 (by decide) ?_
  refine lv_iadd hx hb dL_law_481 ?_
  refine va_sld hx hb hX hbl hbA hP.2 g2 dL_law_482 ?_
  refine lv_aload_n hx hb dL_law_483 rfl (lv_at hl 1 rfl) ?_
  refine lv_iload hx hb dL_law_484 (lv_at hl 5 rfl) ?_
  refine lv_iconst (v := (3 : Int32)) hx hb dL_law_486 (by decide) ?_
  refine lv_iadd hx hb dL_law_487 ?_
  refine va_sld hx hb hX hbl hbA hP.2 g3 dL_law_488 ?_
  refine lv_aload_n hx hb dL_law_489 rfl (lv_at hl 1 rfl) ?_
  refine lv_iload hx hb dL_law_490 (lv_at hl 5 rfl) ?_
  refine lv_iconst (v := (4 : Int32)) hx hb dL_law_492 (by decide) ?_
  refine lv_iadd hx hb dL_law_493 ?_
  refine va_sld hx hb hX hbl hbA hP.2 g4 dL_law_494 ?_
  refine lv_aload_n hx hb dL_law_495 rfl (lv_at hl 1 rfl) ?_
  refine lv_iload hx hb dL_law_496 (lv_at hl 5 rfl) ?_
  refine lv_iconst (v := (5 : Int32)) hx hb dL_law_498 (by decide) ?_
  refine lv_iadd hx hb dL_law_499 ?_
  refine va_sld hx hb hX hbl hbA hP.2 g5 dL_law_500 ?_
  refine lv_aload_n hx hb dL_law_501 rfl (lv_at hl 1 rfl) ?_
  refine lv_iload hx hb dL_law_502 (lv_at hl 5 rfl) ?_
  refine lv_bipush (v := (6 : Int32)) hx hb dL_law_504 (by decide) ?_
  refine lv_iadd hx hb dL_law_506 ?_
  refine va_sld hx hb hX hbl hbA hP.2 g6 dL_law_507 ?_
  obtain ⟨g7, h⟩ := h
  refine q_cali (q_runV C hP (c_X12_clap h) (cd_X12_clap C.hA) (ini_X12 C.hA) (ml_L_100 C.hA) (im_X12_clap C.hA) (sl_X12_clap C.hA) g7 (by decide) rfl hd_X12_clap ⟨rfl, rfl⟩ ⟨Nat.le_of_ble_eq_true rfl, Nat.le_of_ble_eq_true rfl⟩ ⟨by show _ ≤ 601024; omega, by show _ ≤ 7293034; omega⟩ hl.1 rfl (Nat.le_of_ble_eq_true rfl) dL_law_508) hP (fun v_508 u_508 H locs h hP => ?_)
  refine lv_istore (lv' := [(6, .int v_508), (5, .int v_465), (0, .ref b), (1, .ref x1), (2, .ref x2), (3, .ref x3), (4, .int x4)]) hx hb dL_law_511 hl (by decide) rfl (fun ls hl => ?_)
  refine lv_aload_n hx hb dL_law_513 rfl (lv_at hl 4 rfl) ?_
  refine q_cali (q_runV C hP (c_X12_thrown h) (cd_X12_thrown C.hA) (ini_X12 C.hA) (ml_L_82 C.hA) (im_X12_thrown C.hA) (sl_X12_thrown C.hA) g7 (by decide) rfl hd_X12_thrown ⟨rfl, rfl⟩ ⟨Nat.le_of_ble_eq_true rfl, Nat.le_of_ble_eq_true rfl⟩ ⟨by show _ ≤ 601024; omega, by show _ ≤ 7293034; omega⟩ hl.1 rfl (Nat.le_of_ble_eq_true rfl) dL_law_514) hP (fun v_514 u_514 H locs h hP => ?_)
  refine lv_iload hx hb dL_law_517 (lv_at hl 1 rfl) ?_
  refine lv_icmp_eq (tgt := 524) hx hb dL_law_519 (by decide) (fun c519 => ?_) (fun c519 => ?_)
  · have h := h.1 c519
    refine lv_iload hx hb dL_law_524 (lv_at hl 1 rfl) ?_
    refine lv_if_ne (tgt := 541) hx hb dL_law_526 (by decide) (fun c526 => ?_) (fun c526 => ?_)
    · have h := h.2 c526
      refine W.widen (k := cells + 8) (n := slots + 64) (by omega) (by omega) ?_
      exact b_L_law_541 hst C hr hlk hN hX hbl hz0 hcs hk_23 h (lv_sub hl [2, 3, 4, 5, 6] rfl) hP
    · have h := h.1 c526
      refine lv_aload_n hx hb dL_law_529 rfl (lv_at hl 5 rfl) ?_
      refine lv_iconst (v := (0 : Int32)) hx hb dL_law_530 (by decide) ?_
      obtain ⟨g8, h⟩ := h
      obtain ⟨g9, h⟩ := h
      refine q_lald C hP g8 g9 dL_law_531 ?_
      refine lv_iload hx hb dL_law_532 (lv_at hl 0 rfl) ?_
      refine lv_i2l (v := v_508.toInt64) hx hb dL_law_534 rfl ?_
      refine W.lcmp hx hb dL_law_535 ?_
      refine lv_if_eq (tgt := 541) hx hb dL_law_536 (by decide) (fun c536 => ?_) (fun c536 => ?_)
      · have h := h.1 c536
        refine W.widen (k := cells + 8) (n := slots + 64) (by omega) (by omega) ?_
        exact b_L_law_541 hst C hr hlk hN hX hbl hz0 hcs hk_23 h (lv_sub hl [2, 3, 4, 5, 6] rfl) hP
      · have h := h.2 c536
        refine lv_iconst (v := (0 : Int32)) hx hb dL_law_539 (by decide) ?_
        exact h.elim
  · have h := h.2 c519
    refine lv_iconst (v := (0 : Int32)) hx hb dL_law_522 (by decide) ?_
    exact h.elim
set_option maxHeartbeats 4000000 in
set_option maxRecDepth 100000 in
theorem b_L_law_423 {G : Gx} {b L : Nat} {xs : Nat → Int32} {p : Program} {l : Launch} {e : Env} {s : State} {m : MethodId} {below : List Frame} {meth : Method} {c : Code} (hst : l.stackTraces = false) (C : Cx G p s m c cL_law RL 7) (hr : meth.sig.returnType = ret) (hlk : meth.locks = false) (hN : ncE s) (hX : va_X b L xs s s.heap) (hbl : b < s.heap.size) (hz0 : gz G = s.heap.size) {cells slots : Nat} (hcs : cells + 16 ≤ 601024 ∧ slots + 128 ≤ 7293034) {k_23 : Nat → Nat → Nat → Int32 → Mm → Prop} (hk_23 : ∀ (x1 : Nat) (x2 : Nat) (x3 : Nat) (x4 : Int32) (u : Mm) (H : Heap) (locs : List Loc) (ls : Array Slot), k_23 x1 x2 x3 x4 u → lv_has ls 7 [(0, .ref b), (1, .ref x1), (2, .ref x2), (3, .ref x3), (4, .int x4)] → Hp G u s H locs → W p l e room_1 s m #[Value.ref b] below meth c H locs (cells + 16) (slots + 128) (lw_Z below #[Value.ref b] s) (F0 m 23 ls [])) {x1 : Nat} {x2 : Nat} {x3 : Nat} {x4 : Int32} {u : Mm} {H : Heap} {locs : List Loc} {ls : Array Slot} (h : V_L_law_423 G b L xs k_23 x1 x2 x3 x4 u) (hl : lv_has ls 7 [(0, .ref b), (1, .ref x1), (2, .ref x2), (3, .ref x3), (4, .int x4)]) (hP : Hp G u s H locs) : W p l e room_1 s m #[Value.ref b] below meth c H locs (cells + 8) (slots + 64) (lw_Z below #[Value.ref b] s) (F0 m 423 ls []) := by
  have hx := C.1
  have hb := C.2.1
  have hbA : ¬ ag G b := by unfold ag; omega
  unfold V_L_law_423 at h
  refine lv_goto (tgt := 1694) hx hb dL_law_423 (by decide) ?_
  refine W.widen (k := cells + 16) (n := slots + 128) (by omega) (by omega) ?_
  exact b_L_law_1694 hst C hr hlk hN hX hbl hz0 hcs hk_23 h (lv_sub hl [0, 1, 2, 3, 4] rfl) hP
set_option maxHeartbeats 4000000 in
set_option maxRecDepth 100000 in
theorem b_L_law_358 {G : Gx} {b L : Nat} {xs : Nat → Int32} {p : Program} {l : Launch} {e : Env} {s : State} {m : MethodId} {below : List Frame} {meth : Method} {c : Code} (hst : l.stackTraces = false) (C : Cx G p s m c cL_law RL 7) (hr : meth.sig.returnType = ret) (hlk : meth.locks = false) (hN : ncE s) (hX : va_X b L xs s s.heap) (hbl : b < s.heap.size) (hz0 : gz G = s.heap.size) {cells slots : Nat} (hcs : cells + 16 ≤ 601024 ∧ slots + 128 ≤ 7293034) {k_23 : Nat → Nat → Nat → Int32 → Mm → Prop} (hk_23 : ∀ (x1 : Nat) (x2 : Nat) (x3 : Nat) (x4 : Int32) (u : Mm) (H : Heap) (locs : List Loc) (ls : Array Slot), k_23 x1 x2 x3 x4 u → lv_has ls 7 [(0, .ref b), (1, .ref x1), (2, .ref x2), (3, .ref x3), (4, .int x4)] → Hp G u s H locs → W p l e room_1 s m #[Value.ref b] below meth c H locs (cells + 16) (slots + 128) (lw_Z below #[Value.ref b] s) (F0 m 23 ls [])) {x1 : Nat} {x2 : Nat} {x3 : Nat} {x4 : Int32} {u : Mm} {H : Heap} {locs : List Loc} {ls : Array Slot} (h : V_L_law_358 G b L xs k_23 x1 x2 x3 x4 u) (hl : lv_has ls 7 [(0, .ref b), (1, .ref x1), (2, .ref x2), (3, .ref x3), (4, .int x4)]) (hP : Hp G u s H locs) : W p l e room_1 s m #[Value.ref b] below meth c H locs cells slots (lw_Z below #[Value.ref b] s) (F0 m 358 ls []) := by
  have hx := C.1
  have hb := C.2.1
  have hbA : ¬ ag G b := by unfold ag; omega
  unfold V_L_law_358 at h
  refine lv_aload_n hx hb dL_law_358 rfl (lv_at hl 1 rfl) ?_
  refine lv_aload_n hx hb dL_law_359 rfl (lv_at hl 0 rfl) ?_
  refine lv_iload hx hb dL_law_360 (lv_at hl 4 rfl) ?_
  refine lv_iconst (v := (1 : Int32)) hx hb dL_law_362 (by decide) ?_
  refine lv_iadd hx hb dL_law_363 ?_
  obtain ⟨g1, h⟩ := h
  refine va_sld hx hb hX hbl hbA hP.2 g1 dL_law_364 ?_
  refine lv_aload_n hx hb dL_law_365 rfl (lv_at hl 0 rfl) ?_
  refine lv_iload hx hb dL_law_366 (lv_at hl 4 rfl) ?_
  refine lv_iconst (v := (2 : Int32)) hx hb dL_law_368 (by decide) ?_
  refine lv_iadd hx hb dL_law_369 ?_
  obtain ⟨g2, h⟩ := h
  refine va_sld hx hb hX hbl hbA hP.2 g2 dL_law_370 ?_
  refine lv_aload_n hx hb dL_law_371 rfl (lv_at hl 3 rfl) ?_
  refine q_calim (q_runSL C hN hP (c_L_about hst h) rfl (cw_L_about C.hA) (ini_L C.hA) (ml_L_94 C.hA) (st_L_about C.hA) hd_L_about ⟨rfl, rfl⟩ ⟨Nat.le_of_ble_eq_true rfl, Nat.le_of_ble_eq_true rfl⟩ ⟨by show _ ≤ 601024; omega, by show _ ≤ 7293034; omega⟩ hl.1 rfl (Nat.le_of_ble_eq_true rfl) dL_law_372) hP (fun v_372 u_372 H locs h hP => ?_)
  refine lv_istore (lv' := [(5, .int v_372), (0, .ref b), (1, .ref x1), (2, .ref x2), (3, .ref x3), (4, .int x4)]) hx hb dL_law_375 hl (by decide) rfl (fun ls hl => ?_)
  refine lv_aload_n hx hb dL_law_377 rfl (lv_at hl 3 rfl) ?_
  refine lv_aload_n hx hb dL_law_378 rfl (lv_at hl 1 rfl) ?_
  refine lv_iload hx hb dL_law_379 (lv_at hl 5 rfl) ?_
  refine lv_iconst (v := (1 : Int32)) hx hb dL_law_381 (by decide) ?_
  refine lv_iadd hx hb dL_law_382 ?_
  refine va_sld hx hb hX hbl hbA hP.2 g1 dL_law_383 ?_
  refine lv_aload_n hx hb dL_law_384 rfl (lv_at hl 1 rfl) ?_
  refine lv_iload hx hb dL_law_385 (lv_at hl 5 rfl) ?_
  refine lv_iconst (v := (2 : Int32)) hx hb dL_law_387 (by decide) ?_
  refine lv_iadd hx hb dL_law_388 ?_
  refine va_sld hx hb hX hbl hbA hP.2 g2 dL_law_389 ?_
  obtain ⟨g3, h⟩ := h
  refine q_cali (q_runV C hP (c_X12_about h) (cd_X12_about C.hA) (ini_X12 C.hA) (ml_L_96 C.hA) (im_X12_about C.hA) (sl_X12_about C.hA) g3 (by decide) rfl hd_X12_about ⟨rfl, rfl⟩ ⟨Nat.le_of_ble_eq_true rfl, Nat.le_of_ble_eq_true rfl⟩ ⟨by show _ ≤ 601024; omega, by show _ ≤ 7293034; omega⟩ hl.1 rfl (Nat.le_of_ble_eq_true rfl) dL_law_390) hP (fun v_390 u_390 H locs h hP => ?_)
  refine lv_istore (lv' := [(6, .int v_390), (5, .int v_372), (0, .ref b), (1, .ref x1), (2, .ref x2), (3, .ref x3), (4, .int x4)]) hx hb dL_law_393 hl (by decide) rfl (fun ls hl => ?_)
  refine lv_aload_n hx hb dL_law_395 rfl (lv_at hl 4 rfl) ?_
  refine q_cali (q_runV C hP (c_X12_thrown h) (cd_X12_thrown C.hA) (ini_X12 C.hA) (ml_L_82 C.hA) (im_X12_thrown C.hA) (sl_X12_thrown C.hA) g3 (by decide) rfl hd_X12_thrown ⟨rfl, rfl⟩ ⟨Nat.le_of_ble_eq_true rfl, Nat.le_of_ble_eq_true rfl⟩ ⟨by show _ ≤ 601024; omega, by show _ ≤ 7293034; omega⟩ hl.1 rfl (Nat.le_of_ble_eq_true rfl) dL_law_396) hP (fun v_396 u_396 H locs h hP => ?_)
  refine lv_iload hx hb dL_law_399 (lv_at hl 1 rfl) ?_
  refine lv_icmp_eq (tgt := 406) hx hb dL_law_401 (by decide) (fun c401 => ?_) (fun c401 => ?_)
  · have h := h.1 c401
    refine lv_iload hx hb dL_law_406 (lv_at hl 1 rfl) ?_
    refine lv_if_ne (tgt := 423) hx hb dL_law_408 (by decide) (fun c408 => ?_) (fun c408 => ?_)
    · have h := h.2 c408
      refine W.widen (k := cells + 8) (n := slots + 64) (by omega) (by omega) ?_
      exact b_L_law_423 hst C hr hlk hN hX hbl hz0 hcs hk_23 h (lv_sub hl [2, 3, 4, 5, 6] rfl) hP
    · have h := h.1 c408
      refine lv_aload_n hx hb dL_law_411 rfl (lv_at hl 5 rfl) ?_
      refine lv_iconst (v := (0 : Int32)) hx hb dL_law_412 (by decide) ?_
      obtain ⟨g4, h⟩ := h
      obtain ⟨g5, h⟩ := h
      refine q_lald C hP g4 g5 dL_law_413 ?_
      refine lv_iload hx hb dL_law_414 (lv_at hl 0 rfl) ?_
      refine lv_i2l (v := v_390.toInt64) hx hb dL_law_416 rfl ?_
      refine W.lcmp hx hb dL_law_417 ?_
      refine lv_if_eq (tgt := 423) hx hb dL_law_418 (by decide) (fun c418 => ?_) (fun c418 => ?_)
      · have h := h.1 c418
        refine W.widen (k := cells + 8) (n := slots + 64) (by omega) (by omega) ?_
        exact b_L_law_423 hst C hr hlk hN hX hbl hz0 hcs hk_23 h (lv_sub hl [2, 3, 4, 5, 6] rfl) hP
      · have h := h.2 c418
        refine lv_iconst (v := (0 : Int32)) hx hb dL_law_421 (by decide) ?_
        exact h.elim
  · have h := h.2 c401
    refine lv_iconst (v := (0 : Int32)) hx hb dL_law_404 (by decide) ?_
    exact h.elim
set_option maxHeartbeats 4000000 in
set_option maxRecDepth 100000 in
theorem b_L_law_355 {G : Gx} {b L : Nat} {xs : Nat → Int32} {p : Program} {l : Launch} {e : Env} {s : State} {m : MethodId} {below : List Frame} {meth : Method} {c : Code} (hst : l.stackTraces = false) (C : Cx G p s m c cL_law RL 7) (hr : meth.sig.returnType = ret) (hlk : meth.locks = false) (hN : ncE s) (hX : va_X b L xs s s.heap) (hbl : b < s.heap.size) (hz0 : gz G = s.heap.size) {cells slots : Nat} (hcs : cells + 16 ≤ 601024 ∧ slots + 128 ≤ 7293034) {k_23 : Nat → Nat → Nat → Int32 → Mm → Prop} (hk_23 : ∀ (x1 : Nat) (x2 : Nat) (x3 : Nat) (x4 : Int32) (u : Mm) (H : Heap) (locs : List Loc) (ls : Array Slot), k_23 x1 x2 x3 x4 u → lv_has ls 7 [(0, .ref b), (1, .ref x1), (2, .ref x2), (3, .ref x3), (4, .int x4)] → Hp G u s H locs → W p l e room_1 s m #[Value.ref b] below meth c H locs (cells + 16) (slots + 128) (lw_Z below #[Value.ref b] s) (F0 m 23 ls [])) {x1 : Nat} {x2 : Nat} {x3 : Nat} {x4 : Int32} {u : Mm} {H : Heap} {locs : List Loc} {ls : Array Slot} (h : V_L_law_355 G b L xs k_23 x1 x2 x3 x4 u) (hl : lv_has ls 7 [(0, .ref b), (1, .ref x1), (2, .ref x2), (3, .ref x3), (4, .int x4)]) (hP : Hp G u s H locs) : W p l e room_1 s m #[Value.ref b] below meth c H locs (cells + 8) (slots + 64) (lw_Z below #[Value.ref b] s) (F0 m 355 ls []) := by
  have hx := C.1
  have hb := C.2.1
  have hbA : ¬ ag G b := by unfold ag; omega
  unfold V_L_law_355 at h
  refine lv_goto (tgt := 1694) hx hb dL_law_355 (by decide) ?_
  refine W.widen (k := cells + 16) (n := slots + 128) (by omega) (by omega) ?_
  exact b_L_law_1694 hst C hr hlk hN hX hbl hz0 hcs hk_23 h (lv_sub hl [0, 1, 2, 3, 4] rfl) hP
set_option maxHeartbeats 4000000 in
set_option maxRecDepth 100000 in
theorem b_L_law_302 {G : Gx} {b L : Nat} {xs : Nat → Int32} {p : Program} {l : Launch} {e : Env} {s : State} {m : MethodId} {below : List Frame} {meth : Method} {c : Code} (hst : l.stackTraces = false) (C : Cx G p s m c cL_law RL 7) (hr : meth.sig.returnType = ret) (hlk : meth.locks = false) (hN : ncE s) (hX : va_X b L xs s s.heap) (hbl : b < s.heap.size) (hz0 : gz G = s.heap.size) {cells slots : Nat} (hcs : cells + 16 ≤ 601024 ∧ slots + 128 ≤ 7293034) {k_23 : Nat → Nat → Nat → Int32 → Mm → Prop} (hk_23 : ∀ (x1 : Nat) (x2 : Nat) (x3 : Nat) (x4 : Int32) (u : Mm) (H : Heap) (locs : List Loc) (ls : Array Slot), k_23 x1 x2 x3 x4 u → lv_has ls 7 [(0, .ref b), (1, .ref x1), (2, .ref x2), (3, .ref x3), (4, .int x4)] → Hp G u s H locs → W p l e room_1 s m #[Value.ref b] below meth c H locs (cells + 16) (slots + 128) (lw_Z below #[Value.ref b] s) (F0 m 23 ls [])) {x1 : Nat} {x2 : Nat} {x3 : Nat} {x4 : Int32} {u : Mm} {H : Heap} {locs : List Loc} {ls : Array Slot} (h : V_L_law_302 G b L xs k_23 x1 x2 x3 x4 u) (hl : lv_has ls 7 [(0, .ref b), (1, .ref x1), (2, .ref x2), (3, .ref x3), (4, .int x4)]) (hP : Hp G u s H locs) : W p l e room_1 s m #[Value.ref b] below meth c H locs cells slots (lw_Z below #[Value.ref b] s) (F0 m 302 ls []) := by
  have hx := C.1
  have hb := C.2.1
  have hbA : ¬ ag G b := by unfold ag; omega
  unfold V_L_law_302 at h
  refine lv_aload_n hx hb dL_law_302 rfl (lv_at hl 1 rfl) ?_
  refine lv_aload_n hx hb dL_law_303 rfl (lv_at hl 0 rfl) ?_
  refine lv_iload hx hb dL_law_304 (lv_at hl 4 rfl) ?_
  refine lv_iconst (v := (1 : Int32)) hx hb dL_law_306 (by decide) ?_
  refine lv_iadd hx hb dL_law_307 ?_
  obtain ⟨g1, h⟩ := h
  refine va_sld hx hb hX hbl hbA hP.2 g1 dL_law_308 ?_
  refine lv_aload_n hx hb dL_law_309 rfl (lv_at hl 3 rfl) ?_
  refine q_calim (q_runSL C hN hP (c_L_count hst h) rfl (cw_L_count C.hA) (ini_L C.hA) (ml_L_90 C.hA) (st_L_count C.hA) hd_L_count ⟨rfl, rfl⟩ ⟨Nat.le_of_ble_eq_true rfl, Nat.le_of_ble_eq_true rfl⟩ ⟨by show _ ≤ 601024; omega, by show _ ≤ 7293034; omega⟩ hl.1 rfl (Nat.le_of_ble_eq_true rfl) dL_law_310) hP (fun v_310 u_310 H locs h hP => ?_)
  refine lv_istore (lv' := [(5, .int v_310), (0, .ref b), (1, .ref x1), (2, .ref x2), (3, .ref x3), (4, .int x4)]) hx hb dL_law_313 hl (by decide) rfl (fun ls hl => ?_)
  refine lv_aload_n hx hb dL_law_315 rfl (lv_at hl 3 rfl) ?_
  refine lv_aload_n hx hb dL_law_316 rfl (lv_at hl 1 rfl) ?_
  refine lv_iload hx hb dL_law_317 (lv_at hl 5 rfl) ?_
  refine lv_iconst (v := (1 : Int32)) hx hb dL_law_319 (by decide) ?_
  refine lv_iadd hx hb dL_law_320 ?_
  refine va_sld hx hb hX hbl hbA hP.2 g1 dL_law_321 ?_
  obtain ⟨g2, h⟩ := h
  refine q_cali (q_runV C hP (c_X12_count h) (cd_X12_count C.hA) (ini_X12 C.hA) (ml_L_93 C.hA) (im_X12_count C.hA) (sl_X12_count C.hA) g2 (by decide) rfl hd_X12_count ⟨rfl, rfl⟩ ⟨Nat.le_of_ble_eq_true rfl, Nat.le_of_ble_eq_true rfl⟩ ⟨by show _ ≤ 601024; omega, by show _ ≤ 7293034; omega⟩ hl.1 rfl (Nat.le_of_ble_eq_true rfl) dL_law_322) hP (fun v_322 u_322 H locs h hP => ?_)
  refine lv_istore (lv' := [(6, .int v_322), (5, .int v_310), (0, .ref b), (1, .ref x1), (2, .ref x2), (3, .ref x3), (4, .int x4)]) hx hb dL_law_325 hl (by decide) rfl (fun ls hl => ?_)
  refine lv_aload_n hx hb dL_law_327 rfl (lv_at hl 4 rfl) ?_
  refine q_cali (q_runV C hP (c_X12_thrown h) (cd_X12_thrown C.hA) (ini_X12 C.hA) (ml_L_82 C.hA) (im_X12_thrown C.hA) (sl_X12_thrown C.hA) g2 (by decide) rfl hd_X12_thrown ⟨rfl, rfl⟩ ⟨Nat.le_of_ble_eq_true rfl, Nat.le_of_ble_eq_true rfl⟩ ⟨by show _ ≤ 601024; omega, by show _ ≤ 7293034; omega⟩ hl.1 rfl (Nat.le_of_ble_eq_true rfl) dL_law_328) hP (fun v_328 u_328 H locs h hP => ?_)
  refine lv_iload hx hb dL_law_331 (lv_at hl 1 rfl) ?_
  refine lv_icmp_eq (tgt := 338) hx hb dL_law_333 (by decide) (fun c333 => ?_) (fun c333 => ?_)
  · have h := h.1 c333
    refine lv_iload hx hb dL_law_338 (lv_at hl 1 rfl) ?_
    refine lv_if_ne (tgt := 355) hx hb dL_law_340 (by decide) (fun c340 => ?_) (fun c340 => ?_)
    · have h := h.2 c340
      refine W.widen (k := cells + 8) (n := slots + 64) (by omega) (by omega) ?_
      exact b_L_law_355 hst C hr hlk hN hX hbl hz0 hcs hk_23 h (lv_sub hl [2, 3, 4, 5, 6] rfl) hP
    · have h := h.1 c340
      refine lv_aload_n hx hb dL_law_343 rfl (lv_at hl 5 rfl) ?_
      refine lv_iconst (v := (0 : Int32)) hx hb dL_law_344 (by decide) ?_
      obtain ⟨g3, h⟩ := h
      obtain ⟨g4, h⟩ := h
      refine q_lald C hP g3 g4 dL_law_345 ?_
      refine lv_iload hx hb dL_law_346 (lv_at hl 0 rfl) ?_
      refine lv_i2l (v := v_322.toInt64) hx hb dL_law_348 rfl ?_
      refine W.lcmp hx hb dL_law_349 ?_
      refine lv_if_eq (tgt := 355) hx hb dL_law_350 (by decide) (fun c350 => ?_) (fun c350 => ?_)
      · have h := h.1 c350
        refine W.widen (k := cells + 8) (n := slots + 64) (by omega) (by omega) ?_
        exact b_L_law_355 hst C hr hlk hN hX hbl hz0 hcs hk_23 h (lv_sub hl [2, 3, 4, 5, 6] rfl) hP
      · have h := h.2 c350
        refine lv_iconst (v := (0 : Int32)) hx hb dL_law_353 (by decide) ?_
        exact h.elim
  · have h := h.2 c333
    refine lv_iconst (v := (0 : Int32)) hx hb dL_law_336 (by decide) ?_
    exact h.elim
set_option maxHeartbeats 4000000 in
set_option maxRecDepth 100000 in
theorem b_L_law_289 {G : Gx} {b L : Nat} {xs : Nat → Int32} {p : Program} {l : Launch} {e : Env} {s : State} {m : MethodId} {below : List Frame} {meth : Method} {c : Code} (hst : l.stackTraces = false) (C : Cx G p s m c cL_law RL 7) (hr : meth.sig.returnType = ret) (hlk : meth.locks = false) (hN : ncE s) (hX : va_X b L xs s s.heap) (hbl : b < s.heap.size) (hz0 : gz G = s.heap.size) {cells slots : Nat} (hcs : cells + 16 ≤ 601024 ∧ slots + 128 ≤ 7293034) {k_23 : Nat → Nat → Nat → Int32 → Mm → Prop} (hk_23 : ∀ (x1 : Nat) (x2 : Nat) (x3 : Nat) (x4 : Int32) (u : Mm) (H : Heap) (locs : List Loc) (ls : Array Slot), k_23 x1 x2 x3 x4 u → lv_has ls 7 [(0, .ref b), (1, .ref x1), (2, .ref x2), (3, .ref x3), (4, .int x4)] → Hp G u s H locs → W p l e room_1 s m #[Value.ref b] below meth c H locs (cells + 16) (slots + 128) (lw_Z below #[Value.ref b] s) (F0 m 23 ls [])) {x1 : Nat} {x2 : Nat} {x3 : Nat} {x4 : Int32} {u : Mm} {H : Heap} {locs : List Loc} {ls : Array Slot} (h : V_L_law_289 G b L xs k_23 x1 x2 x3 x4 u) (hl : lv_has ls 7 [(0, .ref b), (1, .ref x1), (2, .ref x2), (3, .ref x3), (4, .int x4)]) (hP : Hp G u s H locs) : W p l e room_1 s m #[Value.ref b] below meth c H locs cells slots (lw_Z below #[Value.ref b] s) (F0 m 289 ls []) := by
  have hx := C.1
  have hb := C.2.1
  have hbA : ¬ ag G b := by unfold ag; omega
  unfold V_L_law_289 at h
  refine lv_aload_n hx hb dL_law_289 rfl (lv_at hl 1 rfl) ?_
  obtain ⟨g1, h⟩ := h
  refine q_cali (q_runV C hP (c_X11_fault h) (cd_X11_fault C.hA) (ini_X11 C.hA) (ml_L_86 C.hA) (im_X11_fault C.hA) (sl_X11_fault C.hA) g1 (by decide) rfl hd_X11_fault ⟨rfl, rfl⟩ ⟨Nat.le_of_ble_eq_true rfl, Nat.le_of_ble_eq_true rfl⟩ ⟨by show _ ≤ 601024; omega, by show _ ≤ 7293034; omega⟩ hl.1 rfl (Nat.le_of_ble_eq_true rfl) dL_law_290) hP (fun v_290 u_290 H locs h hP => ?_)
  refine lv_aload_n hx hb dL_law_293 rfl (lv_at hl 2 rfl) ?_
  obtain ⟨g2, h⟩ := h
  refine q_cali (q_runV C hP (c_X12_fault h) (cd_X12_fault C.hA) (ini_X12 C.hA) (ml_L_89 C.hA) (im_X12_fault C.hA) (sl_X12_fault C.hA) g2 (by decide) rfl hd_X12_fault ⟨rfl, rfl⟩ ⟨Nat.le_of_ble_eq_true rfl, Nat.le_of_ble_eq_true rfl⟩ ⟨by show _ ≤ 601024; omega, by show _ ≤ 7293034; omega⟩ hl.1 rfl (Nat.le_of_ble_eq_true rfl) dL_law_294) hP (fun v_294 u_294 H locs h hP => ?_)
  refine lv_icmp_eq (tgt := 1694) hx hb dL_law_297 (by decide) (fun c297 => ?_) (fun c297 => ?_)
  · have h := h.1 c297
    refine W.widen (k := cells + 16) (n := slots + 128) (by omega) (by omega) ?_
    exact b_L_law_1694 hst C hr hlk hN hX hbl hz0 hcs hk_23 h (lv_sub hl [0, 1, 2, 3, 4] rfl) hP
  · have h := h.2 c297
    refine lv_iconst (v := (0 : Int32)) hx hb dL_law_300 (by decide) ?_
    exact h.elim
set_option maxHeartbeats 4000000 in
set_option maxRecDepth 100000 in
theorem b_L_law_286 {G : Gx} {b L : Nat} {xs : Nat → Int32} {p : Program} {l : Launch} {e : Env} {s : State} {m : MethodId} {below : List Frame} {meth : Method} {c : Code} (hst : l.stackTraces = false) (C : Cx G p s m c cL_law RL 7) (hr : meth.sig.returnType = ret) (hlk : meth.locks = false) (hN : ncE s) (hX : va_X b L xs s s.heap) (hbl : b < s.heap.size) (hz0 : gz G = s.heap.size) {cells slots : Nat} (hcs : cells + 16 ≤ 601024 ∧ slots + 128 ≤ 7293034) {k_23 : Nat → Nat → Nat → Int32 → Mm → Prop} (hk_23 : ∀ (x1 : Nat) (x2 : Nat) (x3 : Nat) (x4 : Int32) (u : Mm) (H : Heap) (locs : List Loc) (ls : Array Slot), k_23 x1 x2 x3 x4 u → lv_has ls 7 [(0, .ref b), (1, .ref x1), (2, .ref x2), (3, .ref x3), (4, .int x4)] → Hp G u s H locs → W p l e room_1 s m #[Value.ref b] below meth c H locs (cells + 16) (slots + 128) (lw_Z below #[Value.ref b] s) (F0 m 23 ls [])) {x1 : Nat} {x2 : Nat} {x3 : Nat} {x4 : Int32} {u : Mm} {H : Heap} {locs : List Loc} {ls : Array Slot} (h : V_L_law_286 G b L xs k_23 x1 x2 x3 x4 u) (hl : lv_has ls 7 [(0, .ref b), (1, .ref x1), (2, .ref x2), (3, .ref x3), (4, .int x4)]) (hP : Hp G u s H locs) : W p l e room_1 s m #[Value.ref b] below meth c H locs (cells + 8) (slots + 64) (lw_Z below #[Value.ref b] s) (F0 m 286 ls []) := by
  have hx := C.1
  have hb := C.2.1
  have hbA : ¬ ag G b := by unfold ag; omega
  unfold V_L_law_286 at h
  refine lv_goto (tgt := 1694) hx hb dL_law_286 (by decide) ?_
  refine W.widen (k := cells + 16) (n := slots + 128) (by omega) (by omega) ?_
  exact b_L_law_1694 hst C hr hlk hN hX hbl hz0 hcs hk_23 h (lv_sub hl [0, 1, 2, 3, 4] rfl) hP
set_option maxHeartbeats 4000000 in
set_option maxRecDepth 100000 in
theorem b_L_law_221 {G : Gx} {b L : Nat} {xs : Nat → Int32} {p : Program} {l : Launch} {e : Env} {s : State} {m : MethodId} {below : List Frame} {meth : Method} {c : Code} (hst : l.stackTraces = false) (C : Cx G p s m c cL_law RL 7) (hr : meth.sig.returnType = ret) (hlk : meth.locks = false) (hN : ncE s) (hX : va_X b L xs s s.heap) (hbl : b < s.heap.size) (hz0 : gz G = s.heap.size) {cells slots : Nat} (hcs : cells + 16 ≤ 601024 ∧ slots + 128 ≤ 7293034) {k_23 : Nat → Nat → Nat → Int32 → Mm → Prop} (hk_23 : ∀ (x1 : Nat) (x2 : Nat) (x3 : Nat) (x4 : Int32) (u : Mm) (H : Heap) (locs : List Loc) (ls : Array Slot), k_23 x1 x2 x3 x4 u → lv_has ls 7 [(0, .ref b), (1, .ref x1), (2, .ref x2), (3, .ref x3), (4, .int x4)] → Hp G u s H locs → W p l e room_1 s m #[Value.ref b] below meth c H locs (cells + 16) (slots + 128) (lw_Z below #[Value.ref b] s) (F0 m 23 ls [])) {x1 : Nat} {x2 : Nat} {x3 : Nat} {x4 : Int32} {u : Mm} {H : Heap} {locs : List Loc} {ls : Array Slot} (h : V_L_law_221 G b L xs k_23 x1 x2 x3 x4 u) (hl : lv_has ls 7 [(0, .ref b), (1, .ref x1), (2, .ref x2), (3, .ref x3), (4, .int x4)]) (hP : Hp G u s H locs) : W p l e room_1 s m #[Value.ref b] below meth c H locs cells slots (lw_Z below #[Value.ref b] s) (F0 m 221 ls []) := by
  have hx := C.1
  have hb := C.2.1
  have hbA : ¬ ag G b := by unfold ag; omega
  unfold V_L_law_221 at h
  refine lv_aload_n hx hb dL_law_221 rfl (lv_at hl 1 rfl) ?_
  refine lv_aload_n hx hb dL_law_222 rfl (lv_at hl 0 rfl) ?_
  refine lv_iload hx hb dL_law_223 (lv_at hl 4 rfl) ?_
  refine lv_iconst (v := (1 : Int32)) hx hb dL_law_225 (by decide) ?_
  refine lv_iadd hx hb dL_law_226 ?_
  obtain ⟨g1, h⟩ := h
  refine va_sld hx hb hX hbl hbA hP.2 g1 dL_law_227 ?_
  refine lv_aload_n hx hb dL_law_228 rfl (lv_at hl 0 rfl) ?_
  refine lv_iload hx hb dL_law_229 (lv_at hl 4 rfl) ?_
  refine lv_iconst (v := (2 : Int32)) hx hb dL_law_231 (by decide) ?_
  refine lv_iadd hx hb dL_law_232 ?_
  obtain ⟨g2, h⟩ := h
  refine va_sld hx hb hX hbl hbA hP.2 g2 dL_law_233 ?_
  refine lv_aload_n hx hb dL_law_234 rfl (lv_at hl 3 rfl) ?_
  refine q_calim (q_runSL C hN hP (c_L_land hst h) rfl (cw_L_land C.hA) (ini_L C.hA) (ml_L_76 C.hA) (st_L_land C.hA) hd_L_land ⟨rfl, rfl⟩ ⟨Nat.le_of_ble_eq_true rfl, Nat.le_of_ble_eq_true rfl⟩ ⟨by show _ ≤ 601024; omega, by show _ ≤ 7293034; omega⟩ hl.1 rfl (Nat.le_of_ble_eq_true rfl) dL_law_235) hP (fun v_235 u_235 H locs h hP => ?_)
  refine lv_istore (lv' := [(5, .int v_235), (0, .ref b), (1, .ref x1), (2, .ref x2), (3, .ref x3), (4, .int x4)]) hx hb dL_law_238 hl (by decide) rfl (fun ls hl => ?_)
  refine lv_aload_n hx hb dL_law_240 rfl (lv_at hl 3 rfl) ?_
  refine lv_aload_n hx hb dL_law_241 rfl (lv_at hl 1 rfl) ?_
  refine lv_iload hx hb dL_law_242 (lv_at hl 5 rfl) ?_
  refine lv_iconst (v := (1 : Int32)) hx hb dL_law_244 (by decide) ?_
  refine lv_iadd hx hb dL_law_245 ?_
  refine va_sld hx hb hX hbl hbA hP.2 g1 dL_law_246 ?_
  refine lv_aload_n hx hb dL_law_247 rfl (lv_at hl 1 rfl) ?_
  refine lv_iload hx hb dL_law_248 (lv_at hl 5 rfl) ?_
  refine lv_iconst (v := (2 : Int32)) hx hb dL_law_250 (by decide) ?_
  refine lv_iadd hx hb dL_law_251 ?_
  refine va_sld hx hb hX hbl hbA hP.2 g2 dL_law_252 ?_
  obtain ⟨g3, h⟩ := h
  refine q_cali (q_runV C hP (c_X12_land h) (cd_X12_land C.hA) (ini_X12 C.hA) (ml_L_81 C.hA) (im_X12_land C.hA) (sl_X12_land C.hA) g3 (by decide) rfl hd_X12_land ⟨rfl, rfl⟩ ⟨Nat.le_of_ble_eq_true rfl, Nat.le_of_ble_eq_true rfl⟩ ⟨by show _ ≤ 601024; omega, by show _ ≤ 7293034; omega⟩ hl.1 rfl (Nat.le_of_ble_eq_true rfl) dL_law_253) hP (fun v_253 u_253 H locs h hP => ?_)
  refine lv_istore (lv' := [(6, .int v_253), (5, .int v_235), (0, .ref b), (1, .ref x1), (2, .ref x2), (3, .ref x3), (4, .int x4)]) hx hb dL_law_256 hl (by decide) rfl (fun ls hl => ?_)
  refine lv_aload_n hx hb dL_law_258 rfl (lv_at hl 4 rfl) ?_
  refine q_cali (q_runV C hP (c_X12_thrown h) (cd_X12_thrown C.hA) (ini_X12 C.hA) (ml_L_82 C.hA) (im_X12_thrown C.hA) (sl_X12_thrown C.hA) g3 (by decide) rfl hd_X12_thrown ⟨rfl, rfl⟩ ⟨Nat.le_of_ble_eq_true rfl, Nat.le_of_ble_eq_true rfl⟩ ⟨by show _ ≤ 601024; omega, by show _ ≤ 7293034; omega⟩ hl.1 rfl (Nat.le_of_ble_eq_true rfl) dL_law_259) hP (fun v_259 u_259 H locs h hP => ?_)
  refine lv_iload hx hb dL_law_262 (lv_at hl 1 rfl) ?_
  refine lv_icmp_eq (tgt := 269) hx hb dL_law_264 (by decide) (fun c264 => ?_) (fun c264 => ?_)
  · have h := h.1 c264
    refine lv_iload hx hb dL_law_269 (lv_at hl 1 rfl) ?_
    refine lv_if_ne (tgt := 286) hx hb dL_law_271 (by decide) (fun c271 => ?_) (fun c271 => ?_)
    · have h := h.2 c271
      refine W.widen (k := cells + 8) (n := slots + 64) (by omega) (by omega) ?_
      exact b_L_law_286 hst C hr hlk hN hX hbl hz0 hcs hk_23 h (lv_sub hl [2, 3, 4, 5, 6] rfl) hP
    · have h := h.1 c271
      refine lv_aload_n hx hb dL_law_274 rfl (lv_at hl 5 rfl) ?_
      refine lv_iconst (v := (0 : Int32)) hx hb dL_law_275 (by decide) ?_
      obtain ⟨g4, h⟩ := h
      obtain ⟨g5, h⟩ := h
      refine q_lald C hP g4 g5 dL_law_276 ?_
      refine lv_iload hx hb dL_law_277 (lv_at hl 0 rfl) ?_
      refine lv_i2l (v := v_253.toInt64) hx hb dL_law_279 rfl ?_
      refine W.lcmp hx hb dL_law_280 ?_
      refine lv_if_eq (tgt := 286) hx hb dL_law_281 (by decide) (fun c281 => ?_) (fun c281 => ?_)
      · have h := h.1 c281
        refine W.widen (k := cells + 8) (n := slots + 64) (by omega) (by omega) ?_
        exact b_L_law_286 hst C hr hlk hN hX hbl hz0 hcs hk_23 h (lv_sub hl [2, 3, 4, 5, 6] rfl) hP
      · have h := h.2 c281
        refine lv_iconst (v := (0 : Int32)) hx hb dL_law_284 (by decide) ?_
        exact h.elim
  · have h := h.2 c264
    refine lv_iconst (v := (0 : Int32)) hx hb dL_law_267 (by decide) ?_
    exact h.elim
set_option maxHeartbeats 4000000 in
set_option maxRecDepth 100000 in
theorem b_L_law_148 {G : Gx} {b L : Nat} {xs : Nat → Int32} {p : Program} {l : Launch} {e : Env} {s : State} {m : MethodId} {below : List Frame} {meth : Method} {c : Code} (hst : l.stackTraces = false) (C : Cx G p s m c cL_law RL 7) (hr : meth.sig.returnType = ret) (hlk : meth.locks = false) (hN : ncE s) (hX : va_X b L xs s s.heap) (hbl : b < s.heap.size) (hz0 : gz G = s.heap.size) {cells slots : Nat} (hcs : cells + 16 ≤ 601024 ∧ slots + 128 ≤ 7293034) {k_23 : Nat → Nat → Nat → Int32 → Mm → Prop} (hk_23 : ∀ (x1 : Nat) (x2 : Nat) (x3 : Nat) (x4 : Int32) (u : Mm) (H : Heap) (locs : List Loc) (ls : Array Slot), k_23 x1 x2 x3 x4 u → lv_has ls 7 [(0, .ref b), (1, .ref x1), (2, .ref x2), (3, .ref x3), (4, .int x4)] → Hp G u s H locs → W p l e room_1 s m #[Value.ref b] below meth c H locs (cells + 16) (slots + 128) (lw_Z below #[Value.ref b] s) (F0 m 23 ls [])) {x1 : Nat} {x2 : Nat} {x3 : Nat} {x4 : Int32} {u : Mm} {H : Heap} {locs : List Loc} {ls : Array Slot} (h : V_L_law_148 G b L xs k_23 x1 x2 x3 x4 u) (hl : lv_has ls 7 [(0, .ref b), (1, .ref x1), (2, .ref x2), (3, .ref x3), (4, .int x4)]) (hP : Hp G u s H locs) : W p l e room_1 s m #[Value.ref b] below meth c H locs cells slots (lw_Z below #[Value.ref b] s) (F0 m 148 ls []) := by
  have hx := C.1
  have hb := C.2.1
  have hbA : ¬ ag G b := by unfold ag; omega
  unfold V_L_law_148 at h
  refine lv_aload_n hx hb dL_law_148 rfl (lv_at hl 1 rfl) ?_
  refine lv_aload_n hx hb dL_law_149 rfl (lv_at hl 0 rfl) ?_
  refine lv_iload hx hb dL_law_150 (lv_at hl 4 rfl) ?_
  refine lv_iconst (v := (1 : Int32)) hx hb dL_law_152 (by decide) ?_
  refine lv_iadd hx hb dL_law_153 ?_
  obtain ⟨g1, h⟩ := h
  refine va_sld hx hb hX hbl hbA hP.2 g1 dL_law_154 ?_
  refine lv_aload_n hx hb dL_law_155 rfl (lv_at hl 0 rfl) ?_
  refine lv_iload hx hb dL_law_156 (lv_at hl 4 rfl) ?_
  refine lv_iconst (v := (2 : Int32)) hx hb dL_law_158 (by decide) ?_
  refine lv_iadd hx hb dL_law_159 ?_
  obtain ⟨g2, h⟩ := h
  refine va_sld hx hb hX hbl hbA hP.2 g2 dL_law_160 ?_
  refine lv_aload_n hx hb dL_law_161 rfl (lv_at hl 0 rfl) ?_
  refine lv_iload hx hb dL_law_162 (lv_at hl 4 rfl) ?_
  refine lv_iconst (v := (3 : Int32)) hx hb dL_law_164 (by decide) ?_
  refine lv_iadd hx hb dL_law_165 ?_
  obtain ⟨g3, h⟩ := h
  refine va_sld hx hb hX hbl hbA hP.2 g3 dL_law_166 ?_
  refine lv_aload_n hx hb dL_law_167 rfl (lv_at hl 0 rfl) ?_
  refine lv_iload hx hb dL_law_168 (lv_at hl 4 rfl) ?_
  refine lv_iconst (v := (4 : Int32)) hx hb dL_law_170 (by decide) ?_
  refine lv_iadd hx hb dL_law_171 ?_
  obtain ⟨g4, h⟩ := h
  refine va_sld hx hb hX hbl hbA hP.2 g4 dL_law_172 ?_
  refine lv_aload_n hx hb dL_law_173 rfl (lv_at hl 0 rfl) ?_
  refine lv_iload hx hb dL_law_174 (lv_at hl 4 rfl) ?_
  refine lv_iconst (v := (5 : Int32)) hx hb dL_law_176 (by decide) ?_
  refine lv_iadd hx hb dL_law_177 ?_
  obtain ⟨g5, h⟩ := h
  refine va_sld hx hb hX hbl hbA hP.2 g5 dL_law_178 ?_
  obtain ⟨g6, h⟩ := h
  refine q_cali (q_runV C hP (c_X11_feed h) (cd_X11_feed C.hA) (ini_X11 C.hA) (ml_L_72 C.hA) (im_X11_feed C.hA) (sl_X11_feed C.hA) g6 (by decide) rfl hd_X11_feed ⟨rfl, rfl⟩ ⟨Nat.le_of_ble_eq_true rfl, Nat.le_of_ble_eq_true rfl⟩ ⟨by show _ ≤ 601024; omega, by show _ ≤ 7293034; omega⟩ hl.1 rfl (Nat.le_of_ble_eq_true rfl) dL_law_179) hP (fun v_179 u_179 H locs h hP => ?_)
  refine lv_aload_n hx hb dL_law_182 rfl (lv_at hl 2 rfl) ?_
  refine lv_aload_n hx hb dL_law_183 rfl (lv_at hl 0 rfl) ?_
  refine lv_iload hx hb dL_law_184 (lv_at hl 4 rfl) ?_
  refine lv_iconst (v := (1 : Int32)) hx hb dL_law_186 (by decide) ?_
  refine lv_iadd hx hb dL_law_187 ?_
  refine va_sld hx hb hX hbl hbA hP.2 g1 dL_law_188 ?_
  refine lv_aload_n hx hb dL_law_189 rfl (lv_at hl 0 rfl) ?_
  refine lv_iload hx hb dL_law_190 (lv_at hl 4 rfl) ?_
  refine lv_iconst (v := (2 : Int32)) hx hb dL_law_192 (by decide) ?_
  refine lv_iadd hx hb dL_law_193 ?_
  refine va_sld hx hb hX hbl hbA hP.2 g2 dL_law_194 ?_
  refine lv_aload_n hx hb dL_law_195 rfl (lv_at hl 0 rfl) ?_
  refine lv_iload hx hb dL_law_196 (lv_at hl 4 rfl) ?_
  refine lv_iconst (v := (3 : Int32)) hx hb dL_law_198 (by decide) ?_
  refine lv_iadd hx hb dL_law_199 ?_
  refine va_sld hx hb hX hbl hbA hP.2 g3 dL_law_200 ?_
  refine lv_aload_n hx hb dL_law_201 rfl (lv_at hl 0 rfl) ?_
  refine lv_iload hx hb dL_law_202 (lv_at hl 4 rfl) ?_
  refine lv_iconst (v := (4 : Int32)) hx hb dL_law_204 (by decide) ?_
  refine lv_iadd hx hb dL_law_205 ?_
  refine va_sld hx hb hX hbl hbA hP.2 g4 dL_law_206 ?_
  refine lv_aload_n hx hb dL_law_207 rfl (lv_at hl 0 rfl) ?_
  refine lv_iload hx hb dL_law_208 (lv_at hl 4 rfl) ?_
  refine lv_iconst (v := (5 : Int32)) hx hb dL_law_210 (by decide) ?_
  refine lv_iadd hx hb dL_law_211 ?_
  refine va_sld hx hb hX hbl hbA hP.2 g5 dL_law_212 ?_
  obtain ⟨g7, h⟩ := h
  refine q_cali (q_runV C hP (c_X12_feed h) (cd_X12_feed C.hA) (ini_X12 C.hA) (ml_L_75 C.hA) (im_X12_feed C.hA) (sl_X12_feed C.hA) g7 (by decide) rfl hd_X12_feed ⟨rfl, rfl⟩ ⟨Nat.le_of_ble_eq_true rfl, Nat.le_of_ble_eq_true rfl⟩ ⟨by show _ ≤ 601024; omega, by show _ ≤ 7293034; omega⟩ hl.1 rfl (Nat.le_of_ble_eq_true rfl) dL_law_213) hP (fun v_213 u_213 H locs h hP => ?_)
  refine lv_icmp_eq (tgt := 1694) hx hb dL_law_216 (by decide) (fun c216 => ?_) (fun c216 => ?_)
  · have h := h.1 c216
    refine W.widen (k := cells + 16) (n := slots + 128) (by omega) (by omega) ?_
    exact b_L_law_1694 hst C hr hlk hN hX hbl hz0 hcs hk_23 h (lv_sub hl [0, 1, 2, 3, 4] rfl) hP
  · have h := h.2 c216
    refine lv_iconst (v := (0 : Int32)) hx hb dL_law_219 (by decide) ?_
    exact h.elim
set_option maxHeartbeats 4000000 in
set_option maxRecDepth 100000 in
theorem b_L_law_23 {G : Gx} {b L : Nat} {xs : Nat → Int32} {p : Program} {l : Launch} {e : Env} {s : State} {m : MethodId} {below : List Frame} {meth : Method} {c : Code} (hst : l.stackTraces = false) (C : Cx G p s m c cL_law RL 7) (hr : meth.sig.returnType = ret) (hlk : meth.locks = false) (hN : ncE s) (hX : va_X b L xs s s.heap) (hbl : b < s.heap.size) (hz0 : gz G = s.heap.size) {cells slots : Nat} (hcs : cells + 16 ≤ 601024 ∧ slots + 128 ≤ 7293034) {k_23 : Nat → Nat → Nat → Int32 → Mm → Prop} (hk_23 : ∀ (x1 : Nat) (x2 : Nat) (x3 : Nat) (x4 : Int32) (u : Mm) (H : Heap) (locs : List Loc) (ls : Array Slot), k_23 x1 x2 x3 x4 u → lv_has ls 7 [(0, .ref b), (1, .ref x1), (2, .ref x2), (3, .ref x3), (4, .int x4)] → Hp G u s H locs → W p l e room_1 s m #[Value.ref b] below meth c H locs (cells + 16) (slots + 128) (lw_Z below #[Value.ref b] s) (F0 m 23 ls [])) {x1 : Nat} {x2 : Nat} {x3 : Nat} {x4 : Int32} {u : Mm} {H : Heap} {locs : List Loc} {ls : Array Slot} (h : V_L_law_23_B G b L xs k_23 x1 x2 x3 x4 u) (hl : lv_has ls 7 [(0, .ref b), (1, .ref x1), (2, .ref x2), (3, .ref x3), (4, .int x4)]) (hP : Hp G u s H locs) : W p l e room_1 s m #[Value.ref b] below meth c H locs cells slots (lw_Z below #[Value.ref b] s) (F0 m 23 ls []) := by
  have hx := C.1
  have hb := C.2.1
  have hbA : ¬ ag G b := by unfold ag; omega
  unfold V_L_law_23_B at h
  refine lv_iload hx hb dL_law_23 (lv_at hl 4 rfl) ?_
  refine lv_aload_n hx hb dL_law_25 rfl (lv_at hl 0 rfl) ?_
  refine va_slen hx hb hX hbl hbA hP.2 dL_law_26 ?_
  refine lv_bipush (v := (7 : Int32)) hx hb dL_law_27 (by decide) ?_
  refine lv_isub hx hb dL_law_29 ?_
  refine lv_icmp_gt (tgt := 1700) hx hb dL_law_30 (by decide) (fun c30 => ?_) (fun c30 => ?_)
  · have h := h.1 c30
    refine lv_iconst (v := (1 : Int32)) hx hb dL_law_1700 (by decide) ?_
    refine va_forget (fun q hq => by have := hP.2.2.2 q hq; unfold ag at this; omega) ?_
    refine W.widen (k := 601024) (n := 7293034) (by omega) (by omega) ?_
    exact lw_ret hx hb hr hlk dL_law_1701
  · have h := h.2 c30
    refine lv_aload_n hx hb dL_law_33 rfl (lv_at hl 0 rfl) ?_
    refine lv_iload hx hb dL_law_34 (lv_at hl 4 rfl) ?_
    obtain ⟨g1, h⟩ := h
    refine va_sld hx hb hX hbl hbA hP.2 g1 dL_law_36 ?_
    refine lv_bipush (v := (31 : Int32)) hx hb dL_law_37 (by decide) ?_
    refine lv_iand hx hb dL_law_39 ?_
    by_cases c40_0 : ((xs x4.toNatClampNeg) &&& (31 : Int32)) = (0 : Int32)
    · have h := h.1 c40_0
      refine lv_tableIn (tgt := 148) (off := 108) hx hb dL_law_40 (by rw [c40_0]; decide) (by rw [c40_0]; decide) (by rw [c40_0]; rfl) (by decide) ?_
      exact b_L_law_148 hst C hr hlk hN hX hbl hz0 hcs hk_23 h (lv_sub hl [0, 1, 2, 3, 4] rfl) hP
    have h := h.2
    by_cases c40_1 : ((xs x4.toNatClampNeg) &&& (31 : Int32)) = (1 : Int32)
    · have h := h.1 c40_1
      refine lv_tableIn (tgt := 221) (off := 181) hx hb dL_law_40 (by rw [c40_1]; decide) (by rw [c40_1]; decide) (by rw [c40_1]; rfl) (by decide) ?_
      exact b_L_law_221 hst C hr hlk hN hX hbl hz0 hcs hk_23 h (lv_sub hl [0, 1, 2, 3, 4] rfl) hP
    have h := h.2
    by_cases c40_2 : ((xs x4.toNatClampNeg) &&& (31 : Int32)) = (2 : Int32)
    · have h := h.1 c40_2
      refine lv_tableIn (tgt := 289) (off := 249) hx hb dL_law_40 (by rw [c40_2]; decide) (by rw [c40_2]; decide) (by rw [c40_2]; rfl) (by decide) ?_
      exact b_L_law_289 hst C hr hlk hN hX hbl hz0 hcs hk_23 h (lv_sub hl [0, 1, 2, 3, 4] rfl) hP
    have h := h.2
    by_cases c40_3 : ((xs x4.toNatClampNeg) &&& (31 : Int32)) = (3 : Int32)
    · have h := h.1 c40_3
      refine lv_tableIn (tgt := 302) (off := 262) hx hb dL_law_40 (by rw [c40_3]; decide) (by rw [c40_3]; decide) (by rw [c40_3]; rfl) (by decide) ?_
      exact b_L_law_302 hst C hr hlk hN hX hbl hz0 hcs hk_23 h (lv_sub hl [0, 1, 2, 3, 4] rfl) hP
    have h := h.2
    by_cases c40_4 : ((xs x4.toNatClampNeg) &&& (31 : Int32)) = (4 : Int32)
    · have h := h.1 c40_4
      refine lv_tableIn (tgt := 358) (off := 318) hx hb dL_law_40 (by rw [c40_4]; decide) (by rw [c40_4]; decide) (by rw [c40_4]; rfl) (by decide) ?_
      exact b_L_law_358 hst C hr hlk hN hX hbl hz0 hcs hk_23 h (lv_sub hl [0, 1, 2, 3, 4] rfl) hP
    have h := h.2
    by_cases c40_5 : ((xs x4.toNatClampNeg) &&& (31 : Int32)) = (5 : Int32)
    · have h := h.1 c40_5
      refine lv_tableIn (tgt := 426) (off := 386) hx hb dL_law_40 (by rw [c40_5]; decide) (by rw [c40_5]; decide) (by rw [c40_5]; rfl) (by decide) ?_
      exact b_L_law_426 hst C hr hlk hN hX hbl hz0 hcs hk_23 h (lv_sub hl [0, 1, 2, 3, 4] rfl) hP
    have h := h.2
    by_cases c40_6 : ((xs x4.toNatClampNeg) &&& (31 : Int32)) = (6 : Int32)
    · have h := h.1 c40_6
      refine lv_tableIn (tgt := 544) (off := 504) hx hb dL_law_40 (by rw [c40_6]; decide) (by rw [c40_6]; decide) (by rw [c40_6]; rfl) (by decide) ?_
      exact b_L_law_544 hst C hr hlk hN hX hbl hz0 hcs hk_23 h (lv_sub hl [0, 1, 2, 3, 4] rfl) hP
    have h := h.2
    by_cases c40_7 : ((xs x4.toNatClampNeg) &&& (31 : Int32)) = (7 : Int32)
    · have h := h.1 c40_7
      refine lv_tableIn (tgt := 662) (off := 622) hx hb dL_law_40 (by rw [c40_7]; decide) (by rw [c40_7]; decide) (by rw [c40_7]; rfl) (by decide) ?_
      exact b_L_law_662 hst C hr hlk hN hX hbl hz0 hcs hk_23 h (lv_sub hl [0, 1, 2, 3, 4] rfl) hP
    have h := h.2
    by_cases c40_8 : ((xs x4.toNatClampNeg) &&& (31 : Int32)) = (8 : Int32)
    · have h := h.1 c40_8
      refine lv_tableIn (tgt := 723) (off := 683) hx hb dL_law_40 (by rw [c40_8]; decide) (by rw [c40_8]; decide) (by rw [c40_8]; rfl) (by decide) ?_
      exact b_L_law_723 hst C hr hlk hN hX hbl hz0 hcs hk_23 h (lv_sub hl [0, 1, 2, 3, 4] rfl) hP
    have h := h.2
    by_cases c40_9 : ((xs x4.toNatClampNeg) &&& (31 : Int32)) = (9 : Int32)
    · have h := h.1 c40_9
      refine lv_tableIn (tgt := 791) (off := 751) hx hb dL_law_40 (by rw [c40_9]; decide) (by rw [c40_9]; decide) (by rw [c40_9]; rfl) (by decide) ?_
      exact b_L_law_791 hst C hr hlk hN hX hbl hz0 hcs hk_23 h (lv_sub hl [0, 1, 2, 3, 4] rfl) hP
    have h := h.2
    by_cases c40_10 : ((xs x4.toNatClampNeg) &&& (31 : Int32)) = (10 : Int32)
    · have h := h.1 c40_10
      refine lv_tableIn (tgt := 859) (off := 819) hx hb dL_law_40 (by rw [c40_10]; decide) (by rw [c40_10]; decide) (by rw [c40_10]; rfl) (by decide) ?_
      exact b_L_law_859 hst C hr hlk hN hX hbl hz0 hcs hk_23 h (lv_sub hl [0, 1, 2, 3, 4] rfl) hP
    have h := h.2
    by_cases c40_11 : ((xs x4.toNatClampNeg) &&& (31 : Int32)) = (11 : Int32)
    · have h := h.1 c40_11
      refine lv_tableIn (tgt := 934) (off := 894) hx hb dL_law_40 (by rw [c40_11]; decide) (by rw [c40_11]; decide) (by rw [c40_11]; rfl) (by decide) ?_
      exact b_L_law_934 hst C hr hlk hN hX hbl hz0 hcs hk_23 h (lv_sub hl [0, 1, 2, 3, 4] rfl) hP
    have h := h.2
    by_cases c40_12 : ((xs x4.toNatClampNeg) &&& (31 : Int32)) = (12 : Int32)
    · have h := h.1 c40_12
      refine lv_tableIn (tgt := 1014) (off := 974) hx hb dL_law_40 (by rw [c40_12]; decide) (by rw [c40_12]; decide) (by rw [c40_12]; rfl) (by decide) ?_
      exact b_L_law_1014 hst C hr hlk hN hX hbl hz0 hcs hk_23 h (lv_sub hl [0, 1, 2, 3, 4] rfl) hP
    have h := h.2
    by_cases c40_13 : ((xs x4.toNatClampNeg) &&& (31 : Int32)) = (13 : Int32)
    · have h := h.1 c40_13
      refine lv_tableIn (tgt := 1094) (off := 1054) hx hb dL_law_40 (by rw [c40_13]; decide) (by rw [c40_13]; decide) (by rw [c40_13]; rfl) (by decide) ?_
      exact b_L_law_1094 hst C hr hlk hN hX hbl hz0 hcs hk_23 h (lv_sub hl [0, 1, 2, 3, 4] rfl) hP
    have h := h.2
    by_cases c40_14 : ((xs x4.toNatClampNeg) &&& (31 : Int32)) = (14 : Int32)
    · have h := h.1 c40_14
      refine lv_tableIn (tgt := 1186) (off := 1146) hx hb dL_law_40 (by rw [c40_14]; decide) (by rw [c40_14]; decide) (by rw [c40_14]; rfl) (by decide) ?_
      exact b_L_law_1186 hst C hr hlk hN hX hbl hz0 hcs hk_23 h (lv_sub hl [0, 1, 2, 3, 4] rfl) hP
    have h := h.2
    by_cases c40_15 : ((xs x4.toNatClampNeg) &&& (31 : Int32)) = (15 : Int32)
    · have h := h.1 c40_15
      refine lv_tableIn (tgt := 1254) (off := 1214) hx hb dL_law_40 (by rw [c40_15]; decide) (by rw [c40_15]; decide) (by rw [c40_15]; rfl) (by decide) ?_
      exact b_L_law_1254 hst C hr hlk hN hX hbl hz0 hcs hk_23 h (lv_sub hl [0, 1, 2, 3, 4] rfl) hP
    have h := h.2
    by_cases c40_16 : ((xs x4.toNatClampNeg) &&& (31 : Int32)) = (16 : Int32)
    · have h := h.1 c40_16
      refine lv_tableIn (tgt := 1334) (off := 1294) hx hb dL_law_40 (by rw [c40_16]; decide) (by rw [c40_16]; decide) (by rw [c40_16]; rfl) (by decide) ?_
      exact b_L_law_1334 hst C hr hlk hN hX hbl hz0 hcs hk_23 h (lv_sub hl [0, 1, 2, 3, 4] rfl) hP
    have h := h.2
    by_cases c40_17 : ((xs x4.toNatClampNeg) &&& (31 : Int32)) = (17 : Int32)
    · have h := h.1 c40_17
      refine lv_tableIn (tgt := 1371) (off := 1331) hx hb dL_law_40 (by rw [c40_17]; decide) (by rw [c40_17]; decide) (by rw [c40_17]; rfl) (by decide) ?_
      exact b_L_law_1371 hst C hr hlk hN hX hbl hz0 hcs hk_23 h (lv_sub hl [0, 1, 2, 3, 4] rfl) hP
    have h := h.2
    by_cases c40_18 : ((xs x4.toNatClampNeg) &&& (31 : Int32)) = (18 : Int32)
    · have h := h.1 c40_18
      refine lv_tableIn (tgt := 1463) (off := 1423) hx hb dL_law_40 (by rw [c40_18]; decide) (by rw [c40_18]; decide) (by rw [c40_18]; rfl) (by decide) ?_
      exact b_L_law_1463 hst C hr hlk hN hX hbl hz0 hcs hk_23 h (lv_sub hl [0, 1, 2, 3, 4] rfl) hP
    have h := h.2
    by_cases c40_19 : ((xs x4.toNatClampNeg) &&& (31 : Int32)) = (19 : Int32)
    · have h := h.1 c40_19
      refine lv_tableIn (tgt := 1567) (off := 1527) hx hb dL_law_40 (by rw [c40_19]; decide) (by rw [c40_19]; decide) (by rw [c40_19]; rfl) (by decide) ?_
      exact b_L_law_1567 hst C hr hlk hN hX hbl hz0 hcs hk_23 h (lv_sub hl [0, 1, 2, 3, 4] rfl) hP
    have h := h.2
    by_cases c40_20 : ((xs x4.toNatClampNeg) &&& (31 : Int32)) = (20 : Int32)
    · have h := h.1 c40_20
      refine lv_tableIn (tgt := 1659) (off := 1619) hx hb dL_law_40 (by rw [c40_20]; decide) (by rw [c40_20]; decide) (by rw [c40_20]; rfl) (by decide) ?_
      exact b_L_law_1659 hst C hr hlk hN hX hbl hz0 hcs hk_23 h (lv_sub hl [0, 1, 2, 3, 4] rfl) hP
    have h := h.2
    by_cases c40_21 : ((xs x4.toNatClampNeg) &&& (31 : Int32)) = (21 : Int32)
    · have h := h.1 c40_21
      refine lv_tableIn (tgt := 1670) (off := 1630) hx hb dL_law_40 (by rw [c40_21]; decide) (by rw [c40_21]; decide) (by rw [c40_21]; rfl) (by decide) ?_
      exact b_L_law_1670 hst C hr hlk hN hX hbl hz0 hcs hk_23 h (lv_sub hl [0, 1, 2, 3, 4] rfl) hP
    have h := h.2
    by_cases c40_22 : ((xs x4.toNatClampNeg) &&& (31 : Int32)) = (22 : Int32)
    · have h := h.1 c40_22
      refine lv_tableIn (tgt := 1681) (off := 1641) hx hb dL_law_40 (by rw [c40_22]; decide) (by rw [c40_22]; decide) (by rw [c40_22]; rfl) (by decide) ?_
      exact b_L_law_1681 hst C hr hlk hN hX hbl hz0 hcs hk_23 h (lv_sub hl [0, 1, 2, 3, 4] rfl) hP
    have h := h.2
    have h := h ⟨c40_0, c40_1, c40_2, c40_3, c40_4, c40_5, c40_6, c40_7, c40_8, c40_9, c40_10, c40_11, c40_12, c40_13, c40_14, c40_15, c40_16, c40_17, c40_18, c40_19, c40_20, c40_21, c40_22⟩
    refine lv_tableOut (tgt := 1694) hx hb dL_law_40 (by have := lv_neT c40_0 (a := 0) (by decide); have := lv_neT c40_1 (a := 1) (by decide); have := lv_neT c40_2 (a := 2) (by decide); have := lv_neT c40_3 (a := 3) (by decide); have := lv_neT c40_4 (a := 4) (by decide); have := lv_neT c40_5 (a := 5) (by decide); have := lv_neT c40_6 (a := 6) (by decide); have := lv_neT c40_7 (a := 7) (by decide); have := lv_neT c40_8 (a := 8) (by decide); have := lv_neT c40_9 (a := 9) (by decide); have := lv_neT c40_10 (a := 10) (by decide); have := lv_neT c40_11 (a := 11) (by decide); have := lv_neT c40_12 (a := 12) (by decide); have := lv_neT c40_13 (a := 13) (by decide); have := lv_neT c40_14 (a := 14) (by decide); have := lv_neT c40_15 (a := 15) (by decide); have := lv_neT c40_16 (a := 16) (by decide); have := lv_neT c40_17 (a := 17) (by decide); have := lv_neT c40_18 (a := 18) (by decide); have := lv_neT c40_19 (a := 19) (by decide); have := lv_neT c40_20 (a := 20) (by decide); have := lv_neT c40_21 (a := 21) (by decide); have := lv_neT c40_22 (a := 22) (by decide); omega) (by decide) ?_
    refine W.widen (k := cells + 16) (n := slots + 128) (by omega) (by omega) ?_
    exact b_L_law_1694 hst C hr hlk hN hX hbl hz0 hcs hk_23 h (lv_sub hl [0, 1, 2, 3, 4] rfl) hP
theorem l_L_law_23 {G : Gx} {b L : Nat} {xs : Nat → Int32} {p : Program} {l : Launch} {e : Env} {s : State} {m : MethodId} {below : List Frame} {meth : Method} {c : Code} (hst : l.stackTraces = false) (C : Cx G p s m c cL_law RL 7) (hr : meth.sig.returnType = ret) (hlk : meth.locks = false) (hN : ncE s) (hX : va_X b L xs s s.heap) (hbl : b < s.heap.size) (hz0 : gz G = s.heap.size) : ∀ (n : Nat) (cells slots : Nat) (x1 : Nat) (x2 : Nat) (x3 : Nat) (x4 : Int32) (u : Mm) (H : Heap) (locs : List Loc) (ls : Array Slot), cells + 16 * n ≤ 601024 → slots + 128 * n ≤ 7293034 → V_L_law_23 G b L xs n x1 x2 x3 x4 u → lv_has ls 7 [(0, .ref b), (1, .ref x1), (2, .ref x2), (3, .ref x3), (4, .int x4)] → Hp G u s H locs → W p l e room_1 s m #[Value.ref b] below meth c H locs cells slots (lw_Z below #[Value.ref b] s) (F0 m 23 ls []) := by
  intro n
  induction n with
  | zero => intro cells slots x1 x2 x3 x4 u H locs ls _ _ h; exact h.elim
  | succ n ih => intro cells slots x1 x2 x3 x4 u H locs ls h1 h2 h hl hP; exact b_L_law_23 hst C hr hlk hN hX hbl hz0 ⟨by omega, by omega⟩ (fun x1 x2 x3 x4 u H locs ls h hl hP => ih (cells + 16) (slots + 128) x1 x2 x3 x4 u H locs ls (by omega) (by omega) h hl hP) h hl hP
