// For each promise of DOC.md: ordinary inputs, the edges that it names, and wrong inputs.
public final class PromiseTest extends Desks {
  private static final int[] FAR = {Integer.MIN_VALUE, -1000000, -1, 1000000, Integer.MAX_VALUE};
  private static int wrong = 0;
  private static int asked = 0;

  private static void due(int promise, String call, int got, int want) {
    asked++;
    if (got != want) {
      wrong++;
      System.out.println("promise " + promise + ": " + call + " answered " + got + ", due is " + want);
    }
  }

  private static void dueOut(int promise, CubeDesk x, int length, String want) {
    StringBuilder got = new StringBuilder();
    int bytes = x.count(4);
    for (int i = 0; i < bytes && i < 400; i++) got.append((char) x.out(i));
    asked++;
    if (!got.toString().equals(want) || length != want.length()) {
      wrong++;
      System.out.println("promise " + promise + ": OUT of " + length + " bytes is [" + got + "], due is [" + want + "]");
    }
  }

  public static void main(String[] args) {
    newObject();
    dimension();
    level();
    parent();
    lies();
    members();
    fact();
    drop();
    pick();
    cuboids();
    levelOf();
    size();
    serves();
    keep();
    kept();
    cost();
    server();
    gain();
    choose();
    best();
    ask();
    group();
    read();
    filter();
    total();
    table();
    out();
    count();
    fullDesk();
    System.out.println(asked + " answers looked at, " + wrong + " not as due");
    if (wrong != 0) System.exit(1);
  }

  private static void newObject() {
    CubeDesk x = new CubeDesk();
    due(1, "count(0)", x.count(0), 0);
    due(1, "count(1)", x.count(1), 0);
    due(1, "count(2)", x.count(2), 0);
    due(1, "count(3)", x.count(3), 1);
    due(1, "count(4)", x.count(4), 0);
    due(1, "count(5)", x.count(5), 0);
    due(1, "cuboids()", x.cuboids(), 1);
    due(1, "kept(0)", x.kept(0), 1);
    due(1, "size(0)", x.size(0), 0);
    due(1, "read()", x.read(), 0);
    due(1, "out(0)", x.out(0), NONE);
    due(1, "total(0)", x.total(0), 0);
    for (int d = 0; d < 4; d++) due(1, "pick(" + d + ", 0)", x.pick(d, 0), 0);
    CubeDesk other = new CubeDesk();
    other.dimension(2);
    due(1, "count(0) beside another desk", x.count(0), 0);
  }

  private static void dimension() {
    CubeDesk x = new CubeDesk();
    due(2, "dimension(0)", x.dimension(0), OUTSIDE);
    due(2, "dimension(9)", x.dimension(9), OUTSIDE);
    for (int far : FAR) due(2, "dimension(" + far + ")", x.dimension(far), OUTSIDE);
    due(2, "dimension(1)", x.dimension(1), 0);
    due(2, "dimension(8)", x.dimension(8), 1);
    due(2, "dimension(3)", x.dimension(3), 2);
    due(2, "members(1, 0)", x.members(1, 0), 8);
    due(2, "keep(1, true)", x.keep(1, true), 1);
    due(2, "dimension(9)", x.dimension(9), OUTSIDE);
    due(2, "kept(1) after a refusal", x.kept(1), 1);
    due(2, "dimension(2)", x.dimension(2), 3);
    due(2, "kept(1)", x.kept(1), 0);
    due(2, "kept(0)", x.kept(0), 1);
    due(2, "count(3)", x.count(3), 1);
    x.keep(2, true);
    due(2, "dimension(2) of five", x.dimension(2), FULL);
    due(2, "dimension(9) of five", x.dimension(9), OUTSIDE);
    due(2, "kept(2) after a refusal", x.kept(2), 1);
    x.fact(1);
    due(2, "dimension(2) of five, with a fact", x.dimension(2), STATE);
    due(2, "dimension(9) with a fact", x.dimension(9), OUTSIDE);

    CubeDesk y = desk(2);
    y.fact(4);
    due(2, "dimension(2) with a fact", y.dimension(2), STATE);
    y.drop(0);
    due(2, "dimension(2) with a fact that went", y.dimension(2), STATE);
    due(2, "count(0)", y.count(0), 1);
  }

  private static void level() {
    CubeDesk x = new CubeDesk();
    due(3, "level(0, 1) without dimensions", x.level(0, 1), OUTSIDE);
    x.dimension(5);
    x.dimension(3);
    for (int far : FAR) {
      due(3, "level(" + far + ", 1)", x.level(far, 1), OUTSIDE);
      due(3, "level(0, " + far + ")", x.level(0, far), OUTSIDE);
    }
    due(3, "level(2, 1)", x.level(2, 1), OUTSIDE);
    due(3, "level(0, 0)", x.level(0, 0), OUTSIDE);
    due(3, "level(0, 6)", x.level(0, 6), OUTSIDE);
    x.keep(2, true);
    x.filter(0, 0, 4);
    x.filter(1, 0, 1);
    due(3, "level(0, 6) again", x.level(0, 6), OUTSIDE);
    due(3, "kept(2) after a refusal", x.kept(2), 1);
    due(3, "level(0, 5)", x.level(0, 5), 1);
    due(3, "kept(2)", x.kept(2), 0);
    due(3, "kept(0)", x.kept(0), 1);
    due(3, "members(0, 1)", x.members(0, 1), 5);
    due(3, "members(0, 2)", x.members(0, 2), 1);
    due(3, "lies(0, 4, 1)", x.lies(0, 4, 1), 0);
    due(3, "level(0, 4)", x.level(0, 4), 2);
    due(3, "level(0, 4) of four", x.level(0, 4), FULL);
    due(3, "level(0, 5) above four members", x.level(0, 5), OUTSIDE);
    due(3, "level(1, 3)", x.level(1, 3), 1);
    factAt(x, 9, 2, 0);
    due(3, "total(1) with the filters at ALL again", x.total(1), 9);
    due(3, "level(1, 1) with a fact", x.level(1, 1), STATE);
    due(3, "level(0, 1) with a fact", x.level(0, 1), STATE);
    due(3, "level(1, 4) with a fact", x.level(1, 4), OUTSIDE);
    x.drop(0);
    due(3, "level(1, 1) with a fact that went", x.level(1, 1), STATE);

    CubeDesk y = desk(3, 3);
    y.filter(0, 0, 1);
    y.filter(1, 0, 2);
    y.level(0, 2);
    factAt(y, 6, 2, 2);
    factAt(y, 7, 1, 1);
    due(3, "total(1) with the other filter as it was", y.total(1), 6);
  }

  private static void parent() {
    CubeDesk x = desk(4, 2);
    due(4, "parent(0, 0, 0, 0) below ALL", x.parent(0, 0, 0, 0), OUTSIDE);
    x.level(0, 3);
    due(4, "parent(0, 1, 0, 0) below ALL", x.parent(0, 1, 0, 0), OUTSIDE);
    x.level(0, 2);
    due(4, "parent(0, 0, 3, 2)", x.parent(0, 0, 3, 2), 0);
    due(4, "parent(0, 0, 3, 1)", x.parent(0, 0, 3, 1), 2);
    due(4, "parent(0, 0, 3, 1)", x.parent(0, 0, 3, 1), 1);
    due(4, "parent(0, 1, 1, 1)", x.parent(0, 1, 1, 1), 0);
    due(4, "parent(0, 0, 4, 0)", x.parent(0, 0, 4, 0), OUTSIDE);
    due(4, "parent(0, 0, 0, 3)", x.parent(0, 0, 0, 3), OUTSIDE);
    due(4, "parent(0, 1, 3, 0)", x.parent(0, 1, 3, 0), OUTSIDE);
    due(4, "parent(0, 1, 0, 2)", x.parent(0, 1, 0, 2), OUTSIDE);
    due(4, "parent(0, 2, 0, 0)", x.parent(0, 2, 0, 0), OUTSIDE);
    due(4, "parent(0, 3, 0, 0)", x.parent(0, 3, 0, 0), OUTSIDE);
    due(4, "parent(2, 0, 0, 0)", x.parent(2, 0, 0, 0), OUTSIDE);
    for (int far : FAR) {
      due(4, "parent(" + far + ", 0, 0, 0)", x.parent(far, 0, 0, 0), OUTSIDE);
      due(4, "parent(0, " + far + ", 0, 0)", x.parent(0, far, 0, 0), OUTSIDE);
      due(4, "parent(0, 0, " + far + ", 0)", x.parent(0, 0, far, 0), OUTSIDE);
      due(4, "parent(0, 0, 0, " + far + ")", x.parent(0, 0, 0, far), OUTSIDE);
    }
    due(4, "lies(0, 3, 2)", x.lies(0, 3, 2), 1);

    CubeDesk y = smallDesk();
    y.keep(2, true);
    due(4, "size(2) before", y.size(2), 3);
    due(4, "parent(0, 0, 1, 1) with facts", y.parent(0, 0, 1, 1), 0);
    due(4, "size(2) after", y.size(2), 4);
    due(4, "kept(2)", y.kept(2), 1);
    y.filter(0, 1, 1);
    due(4, "total(1)", y.total(1), 14);
    due(4, "parent(0, 0, 1, 0)", y.parent(0, 0, 1, 0), 1);
    due(4, "total(1) back", y.total(1), 7);
  }

  private static void lies() {
    CubeDesk x = desk(4);
    due(5, "lies(0, 3, 0)", x.lies(0, 3, 0), 3);
    due(5, "lies(0, 3, 1) of ALL", x.lies(0, 3, 1), 0);
    due(5, "lies(0, 3, 2)", x.lies(0, 3, 2), OUTSIDE);
    x.level(0, 4);
    x.level(0, 3);
    x.parent(0, 0, 1, 3);
    x.parent(0, 1, 3, 2);
    due(5, "lies(0, 1, 0)", x.lies(0, 1, 0), 1);
    due(5, "lies(0, 1, 1)", x.lies(0, 1, 1), 3);
    due(5, "lies(0, 1, 2)", x.lies(0, 1, 2), 2);
    due(5, "lies(0, 1, 3)", x.lies(0, 1, 3), 0);
    due(5, "lies(0, 3, 1)", x.lies(0, 3, 1), 0);
    due(5, "lies(0, 1, 4)", x.lies(0, 1, 4), OUTSIDE);
    due(5, "lies(0, 4, 0)", x.lies(0, 4, 0), OUTSIDE);
    due(5, "lies(1, 0, 0)", x.lies(1, 0, 0), OUTSIDE);
    for (int far : FAR) {
      due(5, "lies(" + far + ", 0, 0)", x.lies(far, 0, 0), OUTSIDE);
      due(5, "lies(0, " + far + ", 0)", x.lies(0, far, 0), OUTSIDE);
      due(5, "lies(0, 0, " + far + ")", x.lies(0, 0, far), OUTSIDE);
    }
  }

  private static void members() {
    CubeDesk x = new CubeDesk();
    due(6, "members(0, 0) without dimensions", x.members(0, 0), OUTSIDE);
    x.dimension(6);
    due(6, "members(0, 0)", x.members(0, 0), 6);
    due(6, "members(0, 1) of ALL", x.members(0, 1), 1);
    due(6, "members(0, 2)", x.members(0, 2), OUTSIDE);
    x.level(0, 6);
    x.level(0, 2);
    due(6, "members(0, 1)", x.members(0, 1), 6);
    due(6, "members(0, 2)", x.members(0, 2), 2);
    due(6, "members(0, 3) of ALL", x.members(0, 3), 1);
    due(6, "members(0, 4)", x.members(0, 4), OUTSIDE);
    due(6, "members(1, 0)", x.members(1, 0), OUTSIDE);
    for (int far : FAR) {
      due(6, "members(" + far + ", 0)", x.members(far, 0), OUTSIDE);
      due(6, "members(0, " + far + ")", x.members(0, far), OUTSIDE);
    }
  }

  private static void fact() {
    CubeDesk x = desk(2, 3);
    due(7, "fact(1000)", x.fact(1000), 0);
    due(7, "fact(-1000)", x.fact(-1000), 1);
    due(7, "fact(1001)", x.fact(1001), OUTSIDE);
    due(7, "fact(-1001)", x.fact(-1001), OUTSIDE);
    for (int far : FAR) if (far != -1) due(7, "fact(" + far + ")", x.fact(far), OUTSIDE);
    x.pick(0, 2);
    due(7, "fact(1) with pick 2 of 2", x.fact(1), OUTSIDE);
    x.pick(0, 1);
    x.pick(1, 3);
    due(7, "fact(1) with pick 3 of 3", x.fact(1), OUTSIDE);
    x.pick(1, 2);
    x.pick(2, 7);
    x.pick(3, 7);
    due(7, "fact(1) with picks of no dimension", x.fact(1), 2);
    due(7, "group(0, 1)", x.group(0, 1), 12);
    due(7, "count(1)", x.count(1), 3);
    x.drop(1);
    due(7, "fact(0) after one went", x.fact(0), 3);
    x.pick(0, 0);
    x.pick(1, 0);
    due(7, "group(0, 1), its members as they were", x.group(0, 1), 12);

    CubeDesk y = desk(1);
    for (int n = 0; n < 300; n++) {
      due(7, "fact(" + n + ")", y.fact(n), n);
      if (n % 2 == 0) y.drop(n);
    }
    due(7, "fact(0) after 300", y.fact(0), FULL);
    due(7, "fact(1001) after 300", y.fact(1001), OUTSIDE);
    y.pick(0, 1);
    due(7, "fact(0) after 300 with a wrong pick", y.fact(0), OUTSIDE);
    due(7, "count(1)", y.count(1), 300);
    due(7, "count(2)", y.count(2), 150);
  }

  private static void drop() {
    CubeDesk x = new CubeDesk();
    due(8, "drop(0) without facts", x.drop(0), OUTSIDE);
    x.fact(-7);
    x.fact(11);
    due(8, "drop(2)", x.drop(2), OUTSIDE);
    for (int far : FAR) due(8, "drop(" + far + ")", x.drop(far), OUTSIDE);
    due(8, "drop(0)", x.drop(0), -7);
    due(8, "drop(0) again", x.drop(0), STATE);
    due(8, "total(1)", x.total(1), 11);
    due(8, "count(2)", x.count(2), 1);
    due(8, "drop(1)", x.drop(1), 11);
    due(8, "count(2)", x.count(2), 0);
    due(8, "count(1)", x.count(1), 2);
    due(8, "size(0)", x.size(0), 0);

    CubeDesk y = smallDesk();
    due(8, "drop(0)", y.drop(0), 5);
    due(8, "size(0) where another one lies", y.size(0), 4);
    due(8, "drop(4)", y.drop(4), 2);
    due(8, "size(0) where none lies", y.size(0), 3);
  }

  private static void pick() {
    CubeDesk x = new CubeDesk();
    for (int d = 0; d < 4; d++) {
      due(9, "pick(" + d + ", 7)", x.pick(d, 7), 0);
      due(9, "pick(" + d + ", 1)", x.pick(d, 1), 7);
      due(9, "pick(" + d + ", 8)", x.pick(d, 8), OUTSIDE);
      due(9, "pick(" + d + ", -1)", x.pick(d, -1), OUTSIDE);
      due(9, "pick(" + d + ", " + d + ")", x.pick(d, d), 1);
    }
    due(9, "pick(4, 0)", x.pick(4, 0), OUTSIDE);
    for (int far : FAR) {
      due(9, "pick(" + far + ", 0)", x.pick(far, 0), OUTSIDE);
      due(9, "pick(0, " + far + ")", x.pick(0, far), OUTSIDE);
    }
    x.dimension(8);
    x.level(0, 3);
    due(9, "pick(0, 0), as it was", x.pick(0, 0), 0);
    due(9, "pick(3, 0), as it was", x.pick(3, 0), 3);
  }

  private static void cuboids() {
    CubeDesk x = new CubeDesk();
    due(10, "cuboids()", x.cuboids(), 1);
    x.dimension(8);
    due(10, "cuboids()", x.cuboids(), 2);
    x.level(0, 8);
    due(10, "cuboids()", x.cuboids(), 3);
    x.level(0, 8);
    due(10, "cuboids()", x.cuboids(), 4);
    for (int d = 1; d < 4; d++) {
      x.dimension(8);
      x.level(d, 8);
      x.level(d, 8);
    }
    due(10, "cuboids()", x.cuboids(), 256);
    due(10, "levelOf(255, 3)", x.levelOf(255, 3), 3);
  }

  private static void levelOf() {
    CubeDesk x = new CubeDesk();
    due(11, "levelOf(0, 0) without dimensions", x.levelOf(0, 0), OUTSIDE);
    x.dimension(8);
    x.level(0, 4);
    x.dimension(2);
    x.dimension(3);
    x.level(2, 3);
    x.level(2, 1);
    due(11, "cuboids()", x.cuboids(), 24);
    int cuboid = 0;
    for (int a = 0; a < 3; a++)
      for (int b = 0; b < 2; b++)
        for (int c = 0; c < 4; c++) {
          due(11, "levelOf(" + cuboid + ", 0)", x.levelOf(cuboid, 0), a);
          due(11, "levelOf(" + cuboid + ", 1)", x.levelOf(cuboid, 1), b);
          due(11, "levelOf(" + cuboid + ", 2)", x.levelOf(cuboid, 2), c);
          cuboid++;
        }
    due(11, "levelOf(24, 0)", x.levelOf(24, 0), OUTSIDE);
    due(11, "levelOf(0, 3)", x.levelOf(0, 3), OUTSIDE);
    for (int far : FAR) {
      due(11, "levelOf(" + far + ", 0)", x.levelOf(far, 0), OUTSIDE);
      due(11, "levelOf(0, " + far + ")", x.levelOf(0, far), OUTSIDE);
    }
  }

  private static void size() {
    CubeDesk x = smallDesk();
    int[] want = {4, 4, 3, 2, 3, 1};
    for (int c = 0; c < 6; c++) due(12, "size(" + c + ")", x.size(c), want[c]);
    x.filter(0, 0, 0);
    due(12, "size(0) whatever the filter", x.size(0), 4);
    due(12, "size(6)", x.size(6), OUTSIDE);
    for (int far : FAR) due(12, "size(" + far + ")", x.size(far), OUTSIDE);
    for (int f = 0; f < 5; f++) x.drop(f);
    for (int c = 0; c < 6; c++) due(12, "size(" + c + ") without facts", x.size(c), 0);

    CubeDesk y = new CubeDesk();
    due(12, "size(0) without dimensions", y.size(0), 0);
    y.fact(1);
    y.fact(1);
    due(12, "size(0) without dimensions, with facts", y.size(0), 1);

    CubeDesk z = desk(8, 8, 8, 8);
    factAt(z, 1, 7, 7, 7, 7);
    factAt(z, 1, 7, 7, 7, 6);
    factAt(z, 1, 0, 7, 7, 7);
    due(12, "size(0)", z.size(0), 3);
    due(12, "size(1)", z.size(1), 2);
    due(12, "size(8)", z.size(8), 2);
    due(12, "size(15)", z.size(15), 1);
  }

  private static void serves() {
    CubeDesk x = emptyDesk();
    int[][] want = {
      {1, 1, 1, 1, 1, 1},
      {0, 1, 0, 1, 0, 1},
      {0, 0, 1, 1, 1, 1},
      {0, 0, 0, 1, 0, 1},
      {0, 0, 0, 0, 1, 1},
      {0, 0, 0, 0, 0, 1}};
    for (int a = 0; a < 6; a++)
      for (int b = 0; b < 6; b++) due(13, "serves(" + a + ", " + b + ")", x.serves(a, b), want[a][b]);
    due(13, "serves(6, 0)", x.serves(6, 0), OUTSIDE);
    due(13, "serves(0, 6)", x.serves(0, 6), OUTSIDE);
    for (int far : FAR) {
      due(13, "serves(" + far + ", 0)", x.serves(far, 0), OUTSIDE);
      due(13, "serves(0, " + far + ")", x.serves(0, far), OUTSIDE);
    }
    due(13, "serves(0, 0) without dimensions", new CubeDesk().serves(0, 0), 1);
  }

  private static void keep() {
    CubeDesk x = smallDesk();
    due(14, "keep(0, true)", x.keep(0, true), 0);
    due(14, "keep(0, false)", x.keep(0, false), STATE);
    due(14, "kept(0)", x.kept(0), 1);
    due(14, "keep(5, false)", x.keep(5, false), 0);
    due(14, "keep(5, true)", x.keep(5, true), 1);
    due(14, "keep(5, true)", x.keep(5, true), 0);
    due(14, "cost(5)", x.cost(5), 1);
    due(14, "keep(5, false)", x.keep(5, false), 1);
    due(14, "cost(5)", x.cost(5), 4);
    due(14, "keep(6, true)", x.keep(6, true), OUTSIDE);
    due(14, "keep(6, false)", x.keep(6, false), OUTSIDE);
    for (int far : FAR) {
      due(14, "keep(" + far + ", true)", x.keep(far, true), OUTSIDE);
      due(14, "keep(" + far + ", false)", x.keep(far, false), OUTSIDE);
    }
    due(14, "count(3)", x.count(3), 1);
  }

  private static void kept() {
    CubeDesk x = smallDesk();
    due(15, "kept(0)", x.kept(0), 1);
    for (int c = 1; c < 6; c++) due(15, "kept(" + c + ")", x.kept(c), 0);
    x.keep(3, true);
    due(15, "kept(3)", x.kept(3), 1);
    x.drop(0);
    due(15, "kept(3) after a fact went", x.kept(3), 1);
    x.choose(0);
    due(15, "kept(3) after choose(0)", x.kept(3), 0);
    due(15, "kept(6)", x.kept(6), OUTSIDE);
    for (int far : FAR) due(15, "kept(" + far + ")", x.kept(far), OUTSIDE);
  }

  private static void cost() {
    CubeDesk x = smallDesk();
    for (int c = 0; c < 6; c++) due(16, "cost(" + c + ")", x.cost(c), 4);
    x.keep(2, true);
    int[] with2 = {4, 4, 3, 3, 3, 3};
    for (int c = 0; c < 6; c++) due(16, "cost(" + c + ") with 2", x.cost(c), with2[c]);
    x.keep(3, true);
    int[] with3 = {4, 4, 3, 2, 3, 2};
    for (int c = 0; c < 6; c++) due(16, "cost(" + c + ") with 2, 3", x.cost(c), with3[c]);
    factAt(x, 1, 3, 0);
    due(16, "cost(4) after a fact came", x.cost(4), 4);
    due(16, "cost(3) after a fact came", x.cost(3), 2);
    due(16, "cost(6)", x.cost(6), OUTSIDE);
    for (int far : FAR) due(16, "cost(" + far + ")", x.cost(far), OUTSIDE);
    due(16, "cost(0) without facts", new CubeDesk().cost(0), 0);
  }

  private static void server() {
    CubeDesk x = smallDesk();
    for (int c = 0; c < 6; c++) due(17, "server(" + c + ")", x.server(c), 0);
    x.keep(1, true);
    due(17, "server(1), as small as 0", x.server(1), 0);
    x.keep(4, true);
    due(17, "server(4)", x.server(4), 4);
    due(17, "server(5)", x.server(5), 4);
    x.keep(2, true);
    due(17, "server(4), as small as 2", x.server(4), 2);
    due(17, "server(5), as small as 2", x.server(5), 2);
    x.keep(3, true);
    due(17, "server(5), smallest is 3", x.server(5), 3);
    due(17, "server(2)", x.server(2), 2);
    due(17, "server(0)", x.server(0), 0);
    due(17, "server(6)", x.server(6), OUTSIDE);
    for (int far : FAR) due(17, "server(" + far + ")", x.server(far), OUTSIDE);
  }

  private static void gain() {
    CubeDesk x = smallDesk();
    int[] bare = {0, 0, 4, 4, 2, 3};
    for (int c = 0; c < 6; c++) due(18, "gain(" + c + ")", x.gain(c), bare[c]);
    x.keep(2, true);
    int[] with2 = {0, 0, 0, 2, 0, 2};
    for (int c = 0; c < 6; c++) due(18, "gain(" + c + ") with 2", x.gain(c), with2[c]);
    x.keep(3, true);
    due(18, "gain(5) with 2, 3", x.gain(5), 1);
    due(18, "gain(3), kept", x.gain(3), 0);
    x.keep(2, false);
    due(18, "gain(2) with 3", x.gain(2), 2);
    due(18, "gain(6)", x.gain(6), OUTSIDE);
    for (int far : FAR) due(18, "gain(" + far + ")", x.gain(far), OUTSIDE);
    due(18, "gain(0) without facts", new CubeDesk().gain(0), 0);
  }

  private static void choose() {
    CubeDesk x = smallDesk();
    x.keep(5, true);
    due(19, "choose(9)", x.choose(9), OUTSIDE);
    for (int far : FAR) due(19, "choose(" + far + ")", x.choose(far), OUTSIDE);
    due(19, "kept(5) after refusals", x.kept(5), 1);
    due(19, "choose(0)", x.choose(0), 0);
    due(19, "kept(5)", x.kept(5), 0);
    due(19, "kept(0)", x.kept(0), 1);
    x.keep(5, true);
    due(19, "choose(1), the least number of two", x.choose(1), 4);
    due(19, "kept(2)", x.kept(2), 1);
    due(19, "kept(3)", x.kept(3), 0);
    due(19, "kept(5)", x.kept(5), 0);
    due(19, "choose(2)", x.choose(2), 6);
    due(19, "kept(3)", x.kept(3), 1);
    due(19, "choose(3)", x.choose(3), 7);
    due(19, "kept(5)", x.kept(5), 1);
    due(19, "choose(8), not those that gain nothing", x.choose(8), 7);
    due(19, "count(3)", x.count(3), 4);
    due(19, "kept(1)", x.kept(1), 0);
    due(19, "kept(4)", x.kept(4), 0);
    due(19, "choose(8) without facts", new CubeDesk().choose(8), 0);
  }

  private static void best() {
    CubeDesk x = smallDesk();
    x.keep(3, true);
    due(20, "best(0)", x.best(0), 0);
    due(20, "best(1), whatever is kept", x.best(1), 4);
    due(20, "best(2)", x.best(2), 6);
    due(20, "best(3)", x.best(3), 7);
    due(20, "best(4)", x.best(4), OUTSIDE);
    for (int far : FAR) due(20, "best(" + far + ")", x.best(far), OUTSIDE);
    due(20, "kept(3)", x.kept(3), 1);
    due(20, "count(3)", x.count(3), 2);
    due(20, "best(3) of one cuboid", new CubeDesk().best(3), 0);
    betterThanChosen();

    CubeDesk y = new CubeDesk();
    for (int d = 0; d < 3; d++) {
      y.dimension(8);
      y.level(d, 8);
      y.level(d, 8);
    }
    due(20, "cuboids()", y.cuboids(), 64);
    y.fact(1);
    due(20, "best(3) of 64 cuboids", y.best(3), 0);
    CubeDesk z = new CubeDesk();
    z.dimension(8);
    z.level(0, 8);
    z.level(0, 8);
    z.dimension(8);
    z.level(1, 8);
    z.level(1, 8);
    z.dimension(8);
    z.level(2, 8);
    z.dimension(8);
    due(20, "cuboids()", z.cuboids(), 96);
    due(20, "best(0) of 96 cuboids", z.best(0), STATE);
    due(20, "best(3) of 96 cuboids", z.best(3), STATE);
    due(20, "best(4) of 96 cuboids", z.best(4), OUTSIDE);
    due(20, "best(-1) of 96 cuboids", z.best(-1), OUTSIDE);
  }

  /** Sizes 4 3 3 2 4 2 3 1: one after the other takes 1 and 2, though 2 and 5 gain more. */
  private static void betterThanChosen() {
    CubeDesk x = desk(2, 3, 3);
    factAt(x, 1, 0, 1, 0);
    factAt(x, 1, 0, 2, 0);
    factAt(x, 1, 1, 2, 2);
    factAt(x, 1, 0, 1, 1);
    due(20, "choose(2)", x.choose(2), 6);
    due(20, "kept(1)", x.kept(1), 1);
    due(20, "kept(2)", x.kept(2), 1);
    due(20, "best(1)", x.best(1), 4);
    due(20, "best(2)", x.best(2), 7);
    due(20, "best(3)", x.best(3), 8);
  }

  private static void ask() {
    CubeDesk x = smallDesk();
    x.pick(0, 0);
    x.pick(1, 0);
    due(21, "ask(2, 0)", x.ask(2, 0), 3);
    due(21, "ask(2, 1)", x.ask(2, 1), 14);
    due(21, "ask(2, 2)", x.ask(2, 2), 2);
    due(21, "ask(2, 3)", x.ask(2, 3), 7);
    due(21, "ask(0, 1)", x.ask(0, 1), 7);
    due(21, "ask(5, 2)", x.ask(5, 2), -3);
    due(21, "ask(5, 3)", x.ask(5, 3), 10);
    x.filter(0, 0, 3);
    due(21, "ask(5, 1) whatever the filter", x.ask(5, 1), 21);
    due(21, "ask(6, 0)", x.ask(6, 0), OUTSIDE);
    due(21, "ask(0, 4)", x.ask(0, 4), OUTSIDE);
    for (int far : FAR) {
      due(21, "ask(" + far + ", 0)", x.ask(far, 0), OUTSIDE);
      due(21, "ask(0, " + far + ")", x.ask(0, far), OUTSIDE);
    }
    x.pick(0, 2);
    due(21, "ask(2, 0), pick 2 of 2", x.ask(2, 0), OUTSIDE);
    due(21, "ask(4, 0), pick 2 of 2", x.ask(4, 0), OUTSIDE);
    due(21, "ask(0, 0), not there", x.ask(0, 0), NONE);
    due(21, "ask(0, 1), not there", x.ask(0, 1), NONE);
    due(21, "ask(1, 1)", x.ask(1, 1), -3);
    x.pick(1, 1);
    due(21, "ask(1, 1), pick 1 of ALL", x.ask(1, 1), OUTSIDE);
    due(21, "ask(0, 3)", x.ask(0, 3), -3);
    x.drop(2);
    due(21, "ask(0, 3), it went", x.ask(0, 3), NONE);

    CubeDesk y = new CubeDesk();
    y.pick(0, 7);
    due(21, "ask(0, 0) without dimensions and facts", y.ask(0, 0), NONE);
    y.fact(8);
    y.fact(9);
    due(21, "ask(0, 1) without dimensions", y.ask(0, 1), 17);
  }

  private static void group() {
    CubeDesk x = desk(8, 8, 8, 8);
    due(22, "group(0, 0) without facts", x.group(0, 0), NONE);
    factAt(x, 1, 7, 7, 7, 7);
    factAt(x, 1, 0, 1, 2, 3);
    factAt(x, 1, 1, 0, 0, 0);
    factAt(x, 1, 0, 1, 2, 3);
    factAt(x, 1, 0, 1, 3, 0);
    int[] want = {123, 130, 1000, 7777, NONE};
    for (int k = 0; k < 5; k++) due(22, "group(0, " + k + ")", x.group(0, k), want[k]);
    due(22, "group(8, 0)", x.group(8, 0), 0);
    due(22, "group(8, 1)", x.group(8, 1), 123);
    due(22, "group(1, 1), ALL last", x.group(1, 1), 130);
    due(22, "group(15, 0)", x.group(15, 0), 0);
    due(22, "group(15, 1)", x.group(15, 1), NONE);
    x.drop(1);
    due(22, "group(0, 0), another one is there", x.group(0, 0), 123);
    x.drop(3);
    due(22, "group(0, 0), none is there", x.group(0, 0), 130);
    due(22, "group(0, -1)", x.group(0, -1), OUTSIDE);
    due(22, "group(0, MIN)", x.group(0, Integer.MIN_VALUE), OUTSIDE);
    due(22, "group(0, MAX)", x.group(0, Integer.MAX_VALUE), NONE);
    due(22, "group(16, 0)", x.group(16, 0), OUTSIDE);
    for (int far : FAR) due(22, "group(" + far + ", 0)", x.group(far, 0), OUTSIDE);
    CubeDesk y = new CubeDesk();
    due(22, "group(0, 0) without dimensions and facts", y.group(0, 0), NONE);
    y.fact(3);
    due(22, "group(0, 0) without dimensions", y.group(0, 0), 0);
    due(22, "group(0, 1) without dimensions", y.group(0, 1), NONE);
  }

  private static void read() {
    CubeDesk x = smallDesk();
    x.pick(0, 0);
    x.pick(1, 0);
    due(23, "read()", x.read(), 0);
    x.ask(5, 1);
    due(23, "read() from 0", x.read(), 4);
    x.keep(2, true);
    x.ask(5, 1);
    due(23, "read() from 2", x.read(), 7);
    x.pick(1, 2);
    due(23, "ask(2, 1)", x.ask(2, 1), NONE);
    due(23, "read() after NONE", x.read(), 10);
    x.ask(6, 1);
    x.ask(0, 4);
    x.ask(1, 0);
    due(23, "read() after refusals", x.read(), 10);
    x.total(1);
    x.table(0, 10, 1);
    x.group(0, 0);
    due(23, "read() after other calls", x.read(), 10);
    factAt(x, 4, 1, 2);
    x.pick(0, 0);
    x.ask(2, 1);
    due(23, "read() from 2 with one more", x.read(), 14);
  }

  private static void filter() {
    CubeDesk x = smallDesk();
    due(24, "filter(0, 1, 0)", x.filter(0, 1, 0), 0);
    due(24, "total(1)", x.total(1), 14);
    due(24, "filter(0, 0, 0)", x.filter(0, 0, 0), 0);
    due(24, "total(1)", x.total(1), 7);
    due(24, "filter(1, 0, 1)", x.filter(1, 0, 1), 0);
    due(24, "total(0)", x.total(0), 0);
    due(24, "filter(0, 2, 0) of ALL", x.filter(0, 2, 0), 0);
    due(24, "total(1)", x.total(1), -3);
    due(24, "filter(2, 0, 0)", x.filter(2, 0, 0), OUTSIDE);
    due(24, "filter(0, 3, 0)", x.filter(0, 3, 0), OUTSIDE);
    due(24, "filter(0, 2, 1)", x.filter(0, 2, 1), OUTSIDE);
    due(24, "filter(0, 1, 2)", x.filter(0, 1, 2), OUTSIDE);
    due(24, "filter(0, 0, 4)", x.filter(0, 0, 4), OUTSIDE);
    for (int far : FAR) {
      due(24, "filter(" + far + ", 0, 0)", x.filter(far, 0, 0), OUTSIDE);
      due(24, "filter(0, " + far + ", 0)", x.filter(0, far, 0), OUTSIDE);
      due(24, "filter(0, 0, " + far + ")", x.filter(0, 0, far), OUTSIDE);
    }
    due(24, "total(1) after refusals", x.total(1), -3);
    due(24, "filter(0, 0, 0) without dimensions", new CubeDesk().filter(0, 0, 0), OUTSIDE);
  }

  private static void total() {
    CubeDesk x = smallDesk();
    int[] all = {5, 21, -3, 10};
    for (int v = 0; v < 4; v++) due(25, "total(" + v + ")", x.total(v), all[v]);
    x.filter(0, 1, 1);
    int[] some = {2, 7, -3, 10};
    for (int v = 0; v < 4; v++) due(25, "total(" + v + ") filtered", x.total(v), some[v]);
    x.drop(2);
    int[] one = {1, 10, 10, 10};
    for (int v = 0; v < 4; v++) due(25, "total(" + v + ") of one", x.total(v), one[v]);
    x.filter(1, 0, 0);
    int[] none = {0, 0, NONE, NONE};
    for (int v = 0; v < 4; v++) due(25, "total(" + v + ") of none", x.total(v), none[v]);
    due(25, "total(4)", x.total(4), OUTSIDE);
    for (int far : FAR) due(25, "total(" + far + ")", x.total(far), OUTSIDE);
    CubeDesk y = new CubeDesk();
    y.fact(-5);
    y.fact(-9);
    int[] below = {2, -14, -9, -5};
    for (int v = 0; v < 4; v++) due(25, "total(" + v + ") below 0", y.total(v), below[v]);
  }

  private static void table() {
    CubeDesk x = smallDesk();
    dueOut(26, x, x.table(1, 10, 1), "14 . . 14\n. -3 10 7\n14 -3 10 21\n");
    dueOut(26, x, x.table(1, 10, 0), "3 . . 3\n. 1 1 2\n3 1 1 5\n");
    dueOut(26, x, x.table(1, 10, 2), "2 . . 2\n. -3 10 -3\n2 -3 10 -3\n");
    dueOut(26, x, x.table(1, 10, 3), "7 . . 7\n. -3 10 10\n7 -3 10 10\n");
    dueOut(26, x, x.table(10, 1, 1), "14 . 14\n. -3 -3\n. 10 10\n14 7 21\n");
    dueOut(26, x, x.table(0, 1, 1), "7 . 7\n7 . 7\n. -3 -3\n. 10 10\n14 7 21\n");
    dueOut(26, x, x.table(1, 1, 1), "14 . 14\n. 7 7\n14 7 21\n");
    dueOut(26, x, x.table(2, 11, 1), "21 21\n21 21\n");
    x.filter(1, 0, 1);
    String before = ". . .\n. -3 -3\n. -3 -3\n";
    dueOut(26, x, x.table(1, 1, 1), before);
    int[][] refused = {{3, 0, 0}, {12, 0, 0}, {20, 0, 0}, {0, 3, 0}, {0, 12, 0}, {0, 20, 0}, {0, 0, 4}, {9, 0, 0}, {0, 9, 0}};
    for (int[] r : refused) due(26, "table(" + r[0] + ", " + r[1] + ", " + r[2] + ")", x.table(r[0], r[1], r[2]), OUTSIDE);
    for (int far : FAR) {
      due(26, "table(" + far + ", 0, 0)", x.table(far, 0, 0), OUTSIDE);
      due(26, "table(0, " + far + ", 0)", x.table(0, far, 0), OUTSIDE);
      due(26, "table(0, 0, " + far + ")", x.table(0, 0, far), OUTSIDE);
    }
    for (int near = -40; near < 0; near++) due(26, "table(" + near + ", 0, 0)", x.table(near, 0, 0), OUTSIDE);
    dueOut(26, x, x.count(4), before);
    x.drop(2);
    dueOut(26, x, x.table(2, 11, 0), ". .\n. .\n");
    due(26, "table(0, 0, 0) without dimensions", new CubeDesk().table(0, 0, 0), OUTSIDE);
    widestTable();
  }

  /** Sums of every length from one digit to six with a sign, and a 0 that is no empty cell. */
  private static void widestTable() {
    CubeDesk x = desk(2, 1);
    factAt(x, 5, 0, 0);
    factAt(x, -5, 0, 0);
    dueOut(26, x, x.table(0, 10, 1), "0 0\n. .\n0 0\n");
    x.pick(0, 1);
    for (int n = 0; n < 250; n++) x.fact(-1000);
    dueOut(26, x, x.table(0, 10, 1), "0 0\n-250000 -250000\n-250000 -250000\n");
    factAt(x, 99, 0, 0);
    dueOut(26, x, x.table(10, 0, 1), "99 -250000 -249901\n99 -250000 -249901\n");
    dueOut(26, x, x.table(10, 0, 2), "-5 -1000 -1000\n-5 -1000 -1000\n");
  }

  private static void out() {
    CubeDesk x = smallDesk();
    due(27, "out(0) before a table", x.out(0), NONE);
    String want = "14 . 14\n. 7 7\n14 7 21\n";
    due(27, "table(1, 1, 1)", x.table(1, 1, 1), want.length());
    for (int i = 0; i < want.length(); i++) due(27, "out(" + i + ")", x.out(i), want.charAt(i));
    due(27, "out(length)", x.out(want.length()), NONE);
    for (int far : FAR) due(27, "out(" + far + ")", x.out(far), NONE);
    x.table(2, 2, 0);
    due(27, "out(7) of a shorter table", x.out(7), 10);
    due(27, "out(8) behind a shorter table", x.out(8), NONE);
    x.drop(0);
    due(27, "out(0) whatever comes or goes", x.out(0), 53);
  }

  private static void count() {
    CubeDesk x = smallDesk();
    x.drop(3);
    x.keep(2, true);
    x.table(2, 2, 0);
    int[] want = {2, 5, 4, 2, 8, 5};
    for (int w = 0; w < 6; w++) due(28, "count(" + w + ")", x.count(w), want[w]);
    x.keep(5, true);
    due(28, "count(3)", x.count(3), 3);
    due(28, "count(5)", x.count(5), 6);
    x.choose(0);
    due(28, "count(5) of cuboid 0 alone", x.count(5), 3);
    due(28, "count(6)", x.count(6), OUTSIDE);
    for (int far : FAR) due(28, "count(" + far + ")", x.count(far), OUTSIDE);
  }

  /** 256 cuboids, and a fact of 1000 in each of 150 groups: more would take more than 512 calls. */
  private static void fullDesk() {
    CubeDesk x = tallDesk(3, 3, 3, 3);
    x.pick(3, 7);
    for (int n = 0; n < 150; n++) {
      x.pick(0, n % 8);
      if (n % 8 == 0) x.pick(1, n / 8 % 8);
      if (n % 64 == 0) x.pick(2, n / 64);
      x.fact(1000);
    }
    due(12, "size(0) of a full desk", x.size(0), 150);
    due(12, "size(3) of a full desk", x.size(3), 150);
    due(12, "size(255) of a full desk", x.size(255), 1);
    due(22, "group(0, 149) of a full desk", x.group(0, 149), 7717);
    due(22, "group(0, 150) of a full desk", x.group(0, 150), NONE);
    due(18, "gain(255) of a full desk", x.gain(255), 149);
    due(18, "gain(4) of a full desk", x.gain(4), 192 * (150 - 64));
    due(20, "best(1) of a full desk", x.best(1), STATE);
    due(11, "levelOf(228, 1)", x.levelOf(228, 1), 2);
    due(17, "server(255) of a full desk", x.server(255), 0);
    for (int d = 0; d < 4; d++) x.pick(d, 0);
    due(21, "ask(255, 1) of a full desk", x.ask(255, 1), 150000);
    due(23, "read() of a full desk", x.read(), 150);
    dueOut(26, x, x.table(3, 33, 1), "150000 150000\n150000 150000\n");
    allKept();
  }

  private static void allKept() {
    CubeDesk x = tallDesk(3, 3, 3, 3);
    factAt(x, 1, 0, 0, 0, 7);
    factAt(x, 1, 1, 1, 1, 7);
    for (int c = 0; c < 256; c++) x.keep(c, true);
    due(28, "count(3) of 256 that are kept", x.count(3), 256);
    due(17, "server(254), the least number is that of levels 1 1 1 0", x.server(254), 84);
    due(17, "server(1), all that serve it are as large", x.server(1), 0);
  }
}
