/-! printed: private methods of a nest mate -/
set_option maxRecDepth 20000 in
theorem gX4_init_X2_init_n15 : GoodIn wsX4_init (wsX2_init) := ggX4_init_X2_init
set_option maxRecDepth 20000 in
theorem gX4_init_X3_init_n22 : GoodIn wsX4_init (wsX3_init) := ggX4_init_X3_init
