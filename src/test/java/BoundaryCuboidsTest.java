// The sentences of promises 10 to 20: cuboids, which of them are kept, and what that is worth.
public final class BoundaryCuboidsTest extends Boundary {
  public static void main(String[] args) throws Exception {
    run(BoundaryCuboidsTest.class);
  }

  // ======== promise 10

  @Says(at = "Promise 10", text = "How many cuboids there are.")
  static void promise10_from1To256() {
    CubeDesk x = new CubeDesk();
    due("cuboids() without dimensions", x.cuboids(), 1);
    int before = 1;
    for (int d = 0; d < 4; d++) {
      x.dimension(8);
      due("cuboids() with dimension " + d, x.cuboids(), before * 2);
      x.level(d, 8);
      due("cuboids() with level 1 of " + d, x.cuboids(), before * 3);
      x.level(d, 8);
      due("cuboids() with level 2 of " + d, x.cuboids(), before * 4);
      before *= 4;
    }
    due("dimension(8), refused", x.dimension(8), FULL);
    due("level(3, 8), refused", x.level(3, 8), FULL);
    due("cuboids() after refusals", x.cuboids(), 256);
    x.fact(1);
    due("cuboids() whatever the facts", x.cuboids(), 256);
  }

  // ======== promise 11

  @Says(at = "Promise 11", text = "The level of a cuboid in a dimension.")
  static void promise11_ofTheFirstAndOfTheLast() {
    CubeDesk x = tallDesk(3, 1, 2, 3);
    int[] all = {3, 1, 2, 3};
    int last = x.cuboids() - 1;
    due("cuboids()", last, 95);
    for (int d = 0; d < 4; d++) {
      due("levelOf(0, " + d + ")", x.levelOf(0, d), 0);
      due("levelOf(last, " + d + "), ALL", x.levelOf(last, d), all[d]);
    }
    due("levelOf(3, 3), ALL of the last", x.levelOf(3, 3), 3);
    due("levelOf(4, 3), the last begins anew", x.levelOf(4, 3), 0);
    due("levelOf(4, 2), the one before goes on", x.levelOf(4, 2), 1);
    due("levelOf(24, 0), the first goes on", x.levelOf(24, 0), 1);
    due("levelOf(23, 0)", x.levelOf(23, 0), 0);
  }

  @Says(at = "Promise 11", text = "OUTSIDE.")
  static void promise11_outside() {
    CubeDesk x = tallDesk(2, 1);
    dueAll("levelOf(#, 0)", beside(0, 5), c -> x.levelOf(c, 0), OUTSIDE);
    dueAll("levelOf(0, #)", beside(0, 1), d -> x.levelOf(0, d), OUTSIDE);
    due("levelOf(0, 0) without dimensions", new CubeDesk().levelOf(0, 0), OUTSIDE);
    CubeDesk all = tallDesk(3, 3, 3, 3);
    dueAll("levelOf(#, 0) of 256", beside(0, 255), c -> all.levelOf(c, 0), OUTSIDE);
    dueAll("levelOf(0, #) of 256", beside(0, 3), d -> all.levelOf(0, d), OUTSIDE);
  }

  // ======== promise 12

  @Says(at = "Promise 12", text = "The SIZE of a cuboid.")
  static void promise12_followsEachFactThatComesOrGoes() {
    CubeDesk x = emptyDesk();
    for (int c = 0; c < 6; c++) due("size(" + c + ") without facts", x.size(c), 0);
    factAt(x, 1, 0, 0);
    for (int c = 0; c < 6; c++) due("size(" + c + ") with the first", x.size(c), 1);
    factAt(x, 1, 0, 0);
    due("size(0) with another one there", x.size(0), 1);
    factAt(x, 1, 1, 0);
    due("size(0) with a second group", x.size(0), 2);
    due("size(2), in the same group", x.size(2), 1);
    x.drop(0);
    due("size(0) with one of two gone", x.size(0), 2);
    x.drop(1);
    due("size(0) with both gone", x.size(0), 1);
    x.drop(2);
    for (int c = 0; c < 6; c++) due("size(" + c + ") with all gone", x.size(c), 0);
    due("size(0) without dimensions", new CubeDesk().size(0), 0);
  }

  @Says(at = "Promise 12", text = "OUTSIDE.")
  static void promise12_outside() {
    CubeDesk x = smallDesk();
    dueAll("size(#)", beside(0, 5), x::size, OUTSIDE);
    due("size(5)", x.size(5), 1);
    dueAll("size(#) without dimensions", beside(0, 0), new CubeDesk()::size, OUTSIDE);
    dueAll("size(#) of 256", beside(0, 255), tallDesk(3, 3, 3, 3)::size, OUTSIDE);
  }

  // ======== promise 13

  @Says(at = "Promise 13", text = "Whether one cuboid serves another one: 1, 0.")
  static void promise13_1Or0ForEachPair() {
    CubeDesk x = tallDesk(3, 2);
    for (int a = 0; a < 12; a++) {
      for (int b = 0; b < 12; b++) {
        int want = a / 3 <= b / 3 && a % 3 <= b % 3 ? 1 : 0;
        due("serves(" + a + ", " + b + ")", x.serves(a, b), want);
      }
    }
    due("serves(0, 0) without dimensions", new CubeDesk().serves(0, 0), 1);
    CubeDesk four = tallDesk(3, 3, 3, 3);
    due("serves(0, 255)", four.serves(0, 255), 1);
    due("serves(255, 255)", four.serves(255, 255), 1);
    due("serves(255, 254)", four.serves(255, 254), 0);
    due("serves(64, 63), the first dimension alone above", four.serves(64, 63), 0);
    due("serves(1, 252), the last dimension alone above", four.serves(1, 252), 0);
  }

  @Says(at = "Promise 13", text = "OUTSIDE.")
  static void promise13_outside() {
    CubeDesk x = smallDesk();
    dueAll("serves(#, 0)", beside(0, 5), c -> x.serves(c, 0), OUTSIDE);
    dueAll("serves(0, #)", beside(0, 5), c -> x.serves(0, c), OUTSIDE);
    dueAll("serves(#, #)", beside(0, 5), c -> x.serves(c, c), OUTSIDE);
  }

  // ======== promise 14

  @Says(at = "Promise 14", text = "A cuboid is kept (on) or not: 1 if that is another state than before, else 0.")
  static void promise14_1IfAnotherStateElse0() {
    CubeDesk x = tallDesk(3, 3, 3, 3);
    for (int c : new int[] {1, 128, 255}) {
      due("keep(" + c + ", false), as it was", x.keep(c, false), 0);
      due("keep(" + c + ", true)", x.keep(c, true), 1);
      due("keep(" + c + ", true) again", x.keep(c, true), 0);
      due("kept(" + c + ")", x.kept(c), 1);
      due("keep(" + c + ", false)", x.keep(c, false), 1);
      due("keep(" + c + ", false) again", x.keep(c, false), 0);
      due("kept(" + c + ")", x.kept(c), 0);
    }
    due("keep(0, true), as it always is", x.keep(0, true), 0);
    due("count(3)", x.count(3), 1);
  }

  @Says(at = "Promise 14", text = "A cuboid is kept (on) or not: 1 if that is another state than before, else 0.")
  static void promise14_allOf256() {
    CubeDesk x = tallDesk(3, 3, 3, 3);
    for (int c = 255; c > 0; c--) due("keep(" + c + ", true)", x.keep(c, true), 1);
    due("count(3)", x.count(3), 256);
    due("choose(0)", x.choose(0), 0);
    due("count(3) of cuboid 0 alone", x.count(3), 1);
  }

  @Says(at = "Promise 14", text = "OUTSIDE;")
  static void promise14_outside() {
    CubeDesk x = smallDesk();
    dueAll("keep(#, true)", beside(0, 5), c -> x.keep(c, true), OUTSIDE);
    dueAll("keep(#, false)", beside(0, 5), c -> x.keep(c, false), OUTSIDE);
    due("count(3)", x.count(3), 1);
    due("keep(1, true) without dimensions", new CubeDesk().keep(1, true), OUTSIDE);
  }

  @Says(at = "Promise 14", text = "STATE: cuboid 0 is to be kept no more.")
  static void promise14_stateCuboid0IsToBeKeptNoMore() {
    CubeDesk x = smallDesk();
    due("keep(0, false)", x.keep(0, false), STATE);
    due("kept(0)", x.kept(0), 1);
    due("keep(0, true)", x.keep(0, true), 0);
    x.keep(5, true);
    due("keep(0, false) with another one kept", x.keep(0, false), STATE);
    due("kept(5)", x.kept(5), 1);
    due("keep(0, false) without dimensions", new CubeDesk().keep(0, false), STATE);
  }

  // ======== promise 15

  @Says(at = "Promise 15", text = "Whether a cuboid is kept: 1, 0.")
  static void promise15_1Or0() {
    CubeDesk x = smallDesk();
    for (int c = 0; c < 6; c++) due("kept(" + c + ") at first", x.kept(c), c == 0 ? 1 : 0);
    x.keep(5, true);
    for (int c = 0; c < 6; c++) due("kept(" + c + ") with 5", x.kept(c), c == 0 || c == 5 ? 1 : 0);
    factAt(x, 1, 3, 0);
    x.drop(0);
    due("kept(5) whatever fact comes or goes", x.kept(5), 1);
    x.choose(1);
    due("kept(5) after choose(1)", x.kept(5), 0);
    due("kept(3) after choose(1)", x.kept(3), 1);
    due("count(3) after choose(1)", x.count(3), 2);
  }

  @Says(at = "Promise 15", text = "OUTSIDE.")
  static void promise15_outside() {
    CubeDesk x = smallDesk();
    dueAll("kept(#)", beside(0, 5), x::kept, OUTSIDE);
    dueAll("kept(#) without dimensions", beside(0, 0), new CubeDesk()::kept, OUTSIDE);
  }

  /** Two dimensions, facts at (0,0), (0,1) and (1,0): the sizes are 3 2 2 1. */
  private static CubeDesk cornerDesk() {
    CubeDesk x = desk(3, 3);
    factAt(x, 1, 0, 0);
    factAt(x, 1, 0, 1);
    factAt(x, 1, 1, 0);
    return x;
  }

  // ======== promise 16

  @Says(at = "Promise 16", text = "The COST of a cuboid.")
  static void promise16_withCuboid0AloneAndWithAll() {
    CubeDesk x = smallDesk();
    for (int c = 0; c < 6; c++) due("cost(" + c + ") with cuboid 0 alone", x.cost(c), 4);
    for (int c = 0; c < 6; c++) x.keep(c, true);
    int[] sizes = {4, 4, 3, 2, 3, 1};
    for (int c = 0; c < 6; c++) due("cost(" + c + ") with all, its own size", x.cost(c), sizes[c]);
    due("cost(0) of a new desk", new CubeDesk().cost(0), 0);
    int[] withTheFirst = {3, 2, 3, 2};
    CubeDesk y = cornerDesk();
    y.keep(1, true);
    for (int c = 0; c < 4; c++) due("cost(" + c + ") with the one behind cuboid 0", y.cost(c), withTheFirst[c]);
    y.keep(1, false);
    y.keep(3, true);
    due("cost(3) with the last one", y.cost(3), 1);
    factAt(x, 1, 3, 0);
    due("cost(2), which follows a fact that comes", x.cost(2), 4);
    x.drop(5);
    due("cost(2), which follows a fact that goes", x.cost(2), 3);
  }

  @Says(at = "Promise 16", text = "OUTSIDE.")
  static void promise16_outside() {
    CubeDesk x = smallDesk();
    dueAll("cost(#)", beside(0, 5), x::cost, OUTSIDE);
    dueAll("cost(#) without dimensions", beside(0, 0), new CubeDesk()::cost, OUTSIDE);
  }

  // ======== promise 17

  @Says(at = "Promise 17", text = "The SERVER of a cuboid.")
  static void promise17_withCuboid0AloneAndWithAll() {
    CubeDesk x = smallDesk();
    for (int c = 0; c < 6; c++) due("server(" + c + ") with cuboid 0 alone", x.server(c), 0);
    for (int c = 0; c < 6; c++) x.keep(c, true);
    int[] servers = {0, 0, 2, 3, 2, 5};
    for (int c = 0; c < 6; c++) due("server(" + c + ") with all", x.server(c), servers[c]);
    x.keep(2, false);
    due("server(4) without 2", x.server(4), 4);
    due("server(0) of a new desk", new CubeDesk().server(0), 0);
    int[] withTheFirst = {0, 1, 0, 1};
    CubeDesk y = cornerDesk();
    y.keep(1, true);
    for (int c = 0; c < 4; c++) due("server(" + c + ") with the one behind cuboid 0", y.server(c), withTheFirst[c]);
    y.keep(3, true);
    due("server(3) with the last one", y.server(3), 3);
  }

  @Says(at = "Promise 17", text = "The SERVER of a cuboid.")
  static void promise17_changesWithAFactThatGoes() {
    CubeDesk x = smallDesk();
    x.keep(2, true);
    x.keep(4, true);
    due("server(5), the least number of two as small", x.server(5), 2);
    factAt(x, 1, 3, 0);
    due("server(5), 2 being larger now", x.server(5), 4);
    x.drop(5);
    due("server(5), as before", x.server(5), 2);
  }

  @Says(at = "Promise 17", text = "OUTSIDE.")
  static void promise17_outside() {
    CubeDesk x = smallDesk();
    dueAll("server(#)", beside(0, 5), x::server, OUTSIDE);
    dueAll("server(#) without dimensions", beside(0, 0), new CubeDesk()::server, OUTSIDE);
  }

  // ======== promise 18

  @Says(at = "Promise 18", text = "The GAIN of a cuboid; 0 of one that is kept.")
  static void promise18_0OfOneThatIsKept() {
    CubeDesk x = smallDesk();
    due("gain(0), always kept", x.gain(0), 0);
    due("gain(3)", x.gain(3), 4);
    x.keep(3, true);
    due("gain(3), kept", x.gain(3), 0);
    x.keep(3, false);
    due("gain(3), kept no more", x.gain(3), 4);
    due("gain(1), which gains nothing", x.gain(1), 0);
    CubeDesk y = cornerDesk();
    y.keep(1, true);
    due("gain(1), the one behind cuboid 0, kept", y.gain(1), 0);
    due("gain(2), as it serves 3 no better", y.gain(2), 1);
    due("gain(3), the cost being that from 1", y.gain(3), 1);
  }

  @Says(at = "Promise 18", text = "The GAIN of a cuboid; 0 of one that is kept.")
  static void promise18_fromNothingToTheLargest() {
    CubeDesk empty = emptyDesk();
    for (int c = 0; c < 6; c++) due("gain(" + c + ") without facts", empty.gain(c), 0);
    due("gain(0) of a new desk", new CubeDesk().gain(0), 0);
    CubeDesk large = largeDesk();
    int[] gains = {0, 700, 640, 390, 640, 390, 384, 199};
    for (int c = 0; c < 8; c++) due("gain(" + c + ") of the large desk", large.gain(c), gains[c]);
    CubeDesk many = tallDesk(3, 3, 3, 3);
    factAt(many, 1, 0, 0, 0, 0);
    factAt(many, 1, 1, 1, 1, 1);
    due("gain(85), levels 1 1 1 1, which serves 81", many.gain(85), 81);
    due("gain(255), which serves itself alone", many.gain(255), 1);
    due("gain(1), no smaller than cuboid 0", many.gain(1), 0);
  }

  @Says(at = "Promise 18", text = "OUTSIDE.")
  static void promise18_outside() {
    CubeDesk x = smallDesk();
    dueAll("gain(#)", beside(0, 5), x::gain, OUTSIDE);
    dueAll("gain(#) without dimensions", beside(0, 0), new CubeDesk()::gain, OUTSIDE);
  }

  // ======== promise 19

  @Says(at = "Promise 19", text = "All but cuboid 0 are kept no more;")
  static void promise19_allBut0AreKeptNoMoreAtFirst() {
    CubeDesk x = smallDesk();
    for (int c = 1; c < 6; c++) x.keep(c, true);
    due("choose(0)", x.choose(0), 0);
    for (int c = 0; c < 6; c++) due("kept(" + c + ") after choose(0)", x.kept(c), c == 0 ? 1 : 0);
    x.keep(5, true);
    due("choose(1), not from what was kept", x.choose(1), 4);
    for (int c = 0; c < 6; c++) due("kept(" + c + ") after choose(1)", x.kept(c), c == 0 || c == 2 ? 1 : 0);
  }

  @Says(at = "Promise 19", text = "then k times (0 .. 8) the one with the greatest GAIN, of several that with the least number, is kept,")
  static void promise19_8TimesAtMost() {
    CubeDesk x = binaryDesk();
    int[] order = {1, 2, 12, 3, 4, 8, 5, 6};
    int[] together = {0, 64, 96, 120, 132, 140, 148, 152, 156};
    for (int k = 0; k <= 8; k++) {
      due("choose(" + k + ")", x.choose(k), together[k]);
      due("count(3) after choose(" + k + ")", x.count(3), k + 1);
      for (int n = 0; n < k; n++) due("kept(" + order[n] + ") after choose(" + k + ")", x.kept(order[n]), 1);
    }
    due("gain(7), a ninth one would be worth something", x.gain(7), 4);
    due("kept(7)", x.kept(7), 0);
  }

  @Says(at = "Promise 19", text = "then k times (0 .. 8) the one with the greatest GAIN, of several that with the least number, is kept,")
  static void promise19_theLeastNumberOfSeveral() {
    CubeDesk x = smallDesk();
    due("gain(2)", x.gain(2), 4);
    due("gain(3), as great", x.gain(3), 4);
    x.choose(1);
    due("kept(2)", x.kept(2), 1);
    due("kept(3)", x.kept(3), 0);
    CubeDesk y = cornerDesk();
    due("gain(1), 2 times 1", y.gain(1), 2);
    due("gain(2), 2 times 1", y.gain(2), 2);
    due("gain(3), 1 times 2", y.gain(3), 2);
    y.choose(1);
    due("kept(1), the least of three", y.kept(1), 1);
    due("kept(2)", y.kept(2), 0);
    due("kept(3)", y.kept(3), 0);
  }

  @Says(at = "Promise 19", text = "as long as that is above 0: the gain of all these together.")
  static void promise19_asLongAsThatIsAbove0() {
    CubeDesk x = smallDesk();
    due("choose(3)", x.choose(3), 7);
    due("count(3)", x.count(3), 4);
    due("choose(8), with no more that gain", x.choose(8), 7);
    due("count(3)", x.count(3), 4);
    due("kept(1), which gains nothing", x.kept(1), 0);
    due("kept(4), which gains nothing any more", x.kept(4), 0);
    CubeDesk one = emptyDesk();
    one.fact(1);
    due("choose(8), all of size 1", one.choose(8), 0);
    due("count(3)", one.count(3), 1);
    one.drop(0);
    due("choose(8), all of size 0", one.choose(8), 0);
    due("count(3)", one.count(3), 1);
    due("choose(8) of a new desk", new CubeDesk().choose(8), 0);
  }

  @Says(at = "Promise 19", text = "as long as that is above 0: the gain of all these together.")
  static void promise19_in256Cuboids() {
    CubeDesk x = tallDesk(3, 3, 3, 3);
    factAt(x, 1, 0, 0, 0, 0);
    factAt(x, 1, 1, 1, 1, 1);
    due("choose(8)", x.choose(8), 81);
    due("count(3)", x.count(3), 2);
    due("kept(85), levels 1 1 1 1", x.kept(85), 1);
  }

  @Says(at = "Promise 19", text = "OUTSIDE.")
  static void promise19_outside() {
    CubeDesk x = smallDesk();
    x.keep(5, true);
    dueAll("choose(#)", beside(0, 8), x::choose, OUTSIDE);
    due("kept(5), as it was", x.kept(5), 1);
    due("count(3)", x.count(3), 2);
    dueAll("choose(#) without dimensions", beside(0, 8), new CubeDesk()::choose, OUTSIDE);
  }

  // ======== promise 20

  @Says(at = "Promise 20", text = "The greatest gain that any k cuboids (0 .. 3), or fewer, have together.")
  static void promise20_from0To3() {
    CubeDesk x = smallDesk();
    int[] small = {0, 4, 6, 7};
    for (int k = 0; k <= 3; k++) due("best(" + k + ")", x.best(k), small[k]);
    CubeDesk y = binaryDesk();
    int[] binary = {0, 64, 96, 120};
    for (int k = 0; k <= 3; k++) due("best(" + k + ") of the binary desk", y.best(k), binary[k]);
    CubeDesk better = desk(2, 3, 3);
    factAt(better, 1, 0, 1, 0);
    factAt(better, 1, 0, 2, 0);
    factAt(better, 1, 1, 2, 2);
    factAt(better, 1, 0, 1, 1);
    due("choose(2), one after the other", better.choose(2), 6);
    due("best(2), together more", better.best(2), 7);
    CubeDesk three = desk(2, 3, 4, 3);
    int[][] cells = {{0, 0, 2, 1}, {1, 1, 1, 0}, {0, 2, 0, 1}, {0, 2, 2, 0}, {0, 2, 1, 1}, {1, 2, 0, 1}};
    for (int[] cell : cells) factAt(three, 1, cell);
    due("choose(3), one after the other", three.choose(3), 18);
    due("best(3), together more", three.best(3), 19);
  }

  @Says(at = "Promise 20", text = "The greatest gain that any k cuboids (0 .. 3), or fewer, have together.")
  static void promise20_orFewer() {
    for (int k = 0; k <= 3; k++) due("best(" + k + ") of one cuboid", new CubeDesk().best(k), 0);
    CubeDesk x = desk(3);
    factAt(x, 1, 0);
    factAt(x, 1, 2);
    for (int k = 1; k <= 3; k++) due("best(" + k + ") of two cuboids", x.best(k), 1);
    x.drop(0);
    for (int k = 0; k <= 3; k++) due("best(" + k + ") with all sizes 1", x.best(k), 0);
    x.drop(1);
    for (int k = 0; k <= 3; k++) due("best(" + k + ") with all sizes 0", x.best(k), 0);
  }

  @Says(at = "Promise 20", text = "OUTSIDE;")
  static void promise20_outside() {
    CubeDesk x = smallDesk();
    dueAll("best(#)", beside(0, 3), x::best, OUTSIDE);
    dueAll("best(#) without dimensions", beside(0, 3), new CubeDesk()::best, OUTSIDE);
    dueAll("best(#) of 256 cuboids", beside(0, 3), tallDesk(3, 3, 3, 3)::best, OUTSIDE);
  }

  @Says(at = "Promise 20", text = "STATE: there are more than 64 cuboids.")
  static void promise20_stateThereAreMoreThan64() {
    CubeDesk x = tallDesk(3, 3, 3);
    factAt(x, 1, 0, 0, 0);
    factAt(x, 1, 1, 1, 1);
    due("cuboids()", x.cuboids(), 64);
    due("best(0) of 64", x.best(0), 0);
    for (int k = 1; k <= 3; k++) due("best(" + k + ") of 64", x.best(k), 27);
    CubeDesk same = tallDesk(3, 3, 1, 1);
    due("cuboids()", same.cuboids(), 64);
    due("best(3) of 64 in four dimensions", same.best(3), 0);
    CubeDesk more = tallDesk(3, 2, 2, 1);
    due("cuboids(), the next above 64", more.cuboids(), 72);
    for (int k = 0; k <= 3; k++) due("best(" + k + ") of 72", more.best(k), STATE);
    for (int k = 0; k <= 3; k++) due("best(" + k + ") of 256", tallDesk(3, 3, 3, 3).best(k), STATE);
  }

  @Says(at = "Promise 20", text = "Nothing changes.")
  static void promise20_nothingChanges() {
    dueUnchanged(Boundary::busyDesk, "best(0)", x -> x.best(0), 0);
    dueUnchanged(Boundary::busyDesk, "best(3)", x -> x.best(3), 3);
    dueUnchanged(Boundary::handledDesk, "best(3)", x -> x.best(3), 0);
    CubeDesk x = smallDesk();
    x.keep(5, true);
    int before = x.gain(2);
    due("best(2), whatever is kept", x.best(2), 6);
    due("gain(2), as before", x.gain(2), before);
    due("kept(5), as before", x.kept(5), 1);
    due("count(3), as before", x.count(3), 2);
    due("choose(2), as without best", x.choose(2), 6);
  }
}
