theorem lm_X0 : ∀ w ∈ u_ws RX0 TX0 5, w ∈ lw_tbl ∧ okN w = true := by decide +kernel
theorem lay_X0 {U : State} (h : AllW U) {A : Array Value} : ∀ w ∈ u_ws RX0 TX0 5, w.before A U = true := fun w hw => h.use (lm_X0 w hw).1 (lm_X0 w hw).2
theorem lm_X1 : ∀ w ∈ u_ws RX1 TX1 8, w ∈ lw_tbl ∧ okN w = true := by decide +kernel
theorem lay_X1 {U : State} (h : AllW U) {A : Array Value} : ∀ w ∈ u_ws RX1 TX1 8, w.before A U = true := fun w hw => h.use (lm_X1 w hw).1 (lm_X1 w hw).2
theorem lm_X2 : ∀ w ∈ u_ws RX2 TX2 5, w ∈ lw_tbl ∧ okN w = true := by decide +kernel
theorem lay_X2 {U : State} (h : AllW U) {A : Array Value} : ∀ w ∈ u_ws RX2 TX2 5, w.before A U = true := fun w hw => h.use (lm_X2 w hw).1 (lm_X2 w hw).2
theorem lm_X3 : ∀ w ∈ u_ws RX3 TX3 7, w ∈ lw_tbl ∧ okN w = true := by decide +kernel
theorem lay_X3 {U : State} (h : AllW U) {A : Array Value} : ∀ w ∈ u_ws RX3 TX3 7, w.before A U = true := fun w hw => h.use (lm_X3 w hw).1 (lm_X3 w hw).2
theorem lm_X4 : ∀ w ∈ u_ws RX4 TX4 8, w ∈ lw_tbl ∧ okN w = true := by decide +kernel
theorem lay_X4 {U : State} (h : AllW U) {A : Array Value} : ∀ w ∈ u_ws RX4 TX4 8, w.before A U = true := fun w hw => h.use (lm_X4 w hw).1 (lm_X4 w hw).2
theorem lm_X5 : ∀ w ∈ u_ws RX5 TX5 8, w ∈ lw_tbl ∧ okN w = true := by decide +kernel
theorem lay_X5 {U : State} (h : AllW U) {A : Array Value} : ∀ w ∈ u_ws RX5 TX5 8, w.before A U = true := fun w hw => h.use (lm_X5 w hw).1 (lm_X5 w hw).2
theorem lm_X6 : ∀ w ∈ u_ws RX6 TX6 9, w ∈ lw_tbl ∧ okN w = true := by decide +kernel
theorem lay_X6 {U : State} (h : AllW U) {A : Array Value} : ∀ w ∈ u_ws RX6 TX6 9, w.before A U = true := fun w hw => h.use (lm_X6 w hw).1 (lm_X6 w hw).2
theorem lm_X7 : ∀ w ∈ u_ws RX7 TX7 7, w ∈ lw_tbl ∧ okN w = true := by decide +kernel
theorem lay_X7 {U : State} (h : AllW U) {A : Array Value} : ∀ w ∈ u_ws RX7 TX7 7, w.before A U = true := fun w hw => h.use (lm_X7 w hw).1 (lm_X7 w hw).2
theorem lm_X8 : ∀ w ∈ u_ws RX8 TX8 12, w ∈ lw_tbl ∧ okN w = true := by decide +kernel
theorem lay_X8 {U : State} (h : AllW U) {A : Array Value} : ∀ w ∈ u_ws RX8 TX8 12, w.before A U = true := fun w hw => h.use (lm_X8 w hw).1 (lm_X8 w hw).2
theorem lm_X9 : ∀ w ∈ u_ws RX9 TX9 5, w ∈ lw_tbl ∧ okN w = true := by decide +kernel
theorem lay_X9 {U : State} (h : AllW U) {A : Array Value} : ∀ w ∈ u_ws RX9 TX9 5, w.before A U = true := fun w hw => h.use (lm_X9 w hw).1 (lm_X9 w hw).2
theorem lm_X10 : ∀ w ∈ u_ws RX10 TX10 5, w ∈ lw_tbl ∧ okN w = true := by decide +kernel
theorem lay_X10 {U : State} (h : AllW U) {A : Array Value} : ∀ w ∈ u_ws RX10 TX10 5, w.before A U = true := fun w hw => h.use (lm_X10 w hw).1 (lm_X10 w hw).2
theorem lm_X11 : ∀ w ∈ u_ws RX11 TX11 12, w ∈ lw_tbl ∧ okN w = true := by decide +kernel
theorem lay_X11 {U : State} (h : AllW U) {A : Array Value} : ∀ w ∈ u_ws RX11 TX11 12, w.before A U = true := fun w hw => h.use (lm_X11 w hw).1 (lm_X11 w hw).2
theorem lm_X12 : ∀ w ∈ u_ws RX12 TX12 58, w ∈ lw_tbl ∧ okN w = true := by decide +kernel
theorem lay_X12 {U : State} (h : AllW U) {A : Array Value} : ∀ w ∈ u_ws RX12 TX12 58, w.before A U = true := fun w hw => h.use (lm_X12 w hw).1 (lm_X12 w hw).2
