// The desks that several tests begin with.
abstract class Desks {
  static final int NONE = CubeDesk.NONE, OUTSIDE = CubeDesk.OUTSIDE, STATE = CubeDesk.STATE, FULL = CubeDesk.FULL;

  static CubeDesk desk(int... members) {
    CubeDesk x = new CubeDesk();
    for (int m : members) x.dimension(m);
    return x;
  }

  static int factAt(CubeDesk x, int measure, int... members) {
    for (int d = 0; d < members.length; d++) x.pick(d, members[d]);
    return x.fact(measure);
  }

  /** Dimension 0: 4 members in 2 in ALL (0 and 1 in 0, 2 and 3 in 1); dimension 1: 3 members in ALL; no facts. */
  static CubeDesk emptyDesk() {
    CubeDesk x = desk(4, 3);
    x.level(0, 2);
    x.parent(0, 0, 2, 1);
    x.parent(0, 0, 3, 1);
    return x;
  }

  /** emptyDesk with facts (0,0) 5, (1,0) 7, (2,1) -3, (3,2) 10, (0,0) 2: the sizes are 4 4 3 2 3 1. */
  static CubeDesk smallDesk() {
    CubeDesk x = emptyDesk();
    factAt(x, 5, 0, 0);
    factAt(x, 7, 1, 0);
    factAt(x, -3, 2, 1);
    factAt(x, 10, 3, 2);
    factAt(x, 2, 0, 0);
    return x;
  }

  /** emptyDesk with picks, filters, kept cuboids and OUT other than at first. */
  static CubeDesk handledDesk() {
    CubeDesk x = emptyDesk();
    handle(x);
    return x;
  }

  /** smallDesk, one fact of it gone, with picks, filters, kept cuboids, READ and OUT other than at first. */
  static CubeDesk busyDesk() {
    CubeDesk x = smallDesk();
    x.drop(1);
    handle(x);
    return x;
  }

  private static void handle(CubeDesk x) {
    x.keep(2, true);
    x.keep(5, true);
    x.pick(0, 0);
    x.pick(1, 0);
    x.ask(4, 1);
    x.filter(0, 1, 0);
    x.filter(1, 0, 0);
    x.table(1, 10, 1);
    x.pick(0, 3);
    x.pick(1, 2);
    x.pick(2, 5);
    x.pick(3, 7);
  }

  /** Four dimensions, the first one with levels 0, 1 and 2; no facts. */
  static CubeDesk wideDesk() {
    CubeDesk x = desk(4, 2, 1, 3);
    x.level(0, 3);
    x.level(0, 2);
    handle(x);
    return x;
  }

  /** 300 facts, the first of which went. */
  static CubeDesk crowdedDesk() {
    CubeDesk x = emptyDesk();
    for (int n = 0; n < 300; n++) x.fact(n);
    x.drop(0);
    return x;
  }

  /** A dimension for each number, with so many told levels (1 .. 3) of 8 members each; each member has parent 0. */
  static CubeDesk tallDesk(int... toldLevels) {
    CubeDesk x = new CubeDesk();
    for (int d = 0; d < toldLevels.length; d++) {
      x.dimension(8);
      for (int l = 1; l < toldLevels[d]; l++) x.level(d, 8);
    }
    return x;
  }

  /** 200 groups, 5 times 5 times 8: about as many as 512 calls can fill. */
  static CubeDesk largeDesk() {
    CubeDesk x = desk(5, 5, 8);
    for (int a = 0; a < 5; a++) {
      x.pick(0, a);
      for (int b = 0; b < 5; b++) {
        x.pick(1, b);
        for (int c = 0; c < 8; c++) {
          x.pick(2, c);
          x.fact(1);
        }
      }
    }
    return x;
  }

  /** Four dimensions of 2 members, a fact in each of the 16 cells: a cuboid has 2 groups for each level below ALL. */
  static CubeDesk binaryDesk() {
    CubeDesk x = desk(2, 2, 2, 2);
    for (int n = 0; n < 16; n++) factAt(x, n, n >> 3 & 1, n >> 2 & 1, n >> 1 & 1, n & 1);
    return x;
  }
}
