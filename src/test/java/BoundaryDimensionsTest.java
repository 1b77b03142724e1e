// The sentences of promises 1 to 9: a new object, dimensions and facts.
public final class BoundaryDimensionsTest extends Boundary {
  public static void main(String[] args) throws Exception {
    run(BoundaryDimensionsTest.class);
  }

  // ======== promise 1

  @Says(at = "Promise 1", text = "No dimensions, no facts.")
  static void promise01_noDimensionsNoFacts() {
    CubeDesk x = new CubeDesk();
    int[] counts = {0, 0, 0, 1, 0, 0};
    for (int what = 0; what < 6; what++) due("count(" + what + ")", x.count(what), counts[what]);
    due("members(0, 0)", x.members(0, 0), OUTSIDE);
    due("level(0, 1)", x.level(0, 1), OUTSIDE);
    due("parent(0, 0, 0, 0)", x.parent(0, 0, 0, 0), OUTSIDE);
    due("lies(0, 0, 0)", x.lies(0, 0, 0), OUTSIDE);
    due("filter(0, 0, 0)", x.filter(0, 0, 0), OUTSIDE);
    due("table(0, 0, 0)", x.table(0, 0, 0), OUTSIDE);
    due("levelOf(0, 0)", x.levelOf(0, 0), OUTSIDE);
    due("drop(0)", x.drop(0), OUTSIDE);
    due("group(0, 0)", x.group(0, 0), NONE);
    due("out(0)", x.out(0), NONE);
    due("read()", x.read(), 0);
  }

  @Says(at = "Promise 1", text = "No dimensions, no facts.")
  static void promise01_cuboid0Alone() {
    CubeDesk x = new CubeDesk();
    due("cuboids()", x.cuboids(), 1);
    due("size(0)", x.size(0), 0);
    due("serves(0, 0)", x.serves(0, 0), 1);
    due("kept(0)", x.kept(0), 1);
    due("cost(0)", x.cost(0), 0);
    due("server(0)", x.server(0), 0);
    due("gain(0)", x.gain(0), 0);
    due("choose(8)", x.choose(8), 0);
    due("best(3)", x.best(3), 0);
    due("ask(0, 0)", x.ask(0, 0), NONE);
    due("total(0)", x.total(0), 0);
    due("total(1)", x.total(1), 0);
    due("total(2)", x.total(2), NONE);
    due("total(3)", x.total(3), NONE);
  }

  @Says(at = "Promise 1", text = "No dimensions, no facts.")
  static void promise01_eachObjectForItself() {
    CubeDesk one = smallDesk(), other = new CubeDesk();
    due("count(0) of the other", other.count(0), 0);
    due("count(1) of the other", other.count(1), 0);
    due("dimension(2) of the other", other.dimension(2), 0);
    due("pick(0, 1) of the other", other.pick(0, 1), 0);
    due("count(0) of the one", one.count(0), 2);
    due("pick(1, 2) of the one", one.pick(1, 2), 0);
    due("size(0) of the one", one.size(0), 4);
  }

  // ======== promise 2

  @Says(at = "Promise 2", text = "One more dimension with so many members of level 0: its number.")
  static void promise02_theFirstIs0TheLastIs3() {
    CubeDesk x = new CubeDesk();
    int[] members = {1, 8, 2, 7};
    for (int d = 0; d < 4; d++) {
      due("dimension(" + members[d] + ")", x.dimension(members[d]), d);
      due("count(0)", x.count(0), d + 1);
      due("cuboids()", x.cuboids(), 2 << d);
    }
    for (int d = 0; d < 4; d++) due("members(" + d + ", 0)", x.members(d, 0), members[d]);
  }

  @Says(at = "Promise 2", text = "OUTSIDE: members are not 1 .. 8;")
  static void promise02_outsideMembersAreNot1To8() {
    CubeDesk x = new CubeDesk();
    dueAll("dimension(#)", beside(1, 8), x::dimension, OUTSIDE);
    due("count(0)", x.count(0), 0);
    due("dimension(8)", x.dimension(8), 0);
    due("dimension(1)", x.dimension(1), 1);
    due("dimension(0)", x.dimension(0), OUTSIDE);
    due("dimension(9)", x.dimension(9), OUTSIDE);
    due("count(0)", x.count(0), 2);
  }

  @Says(at = "Promise 2", text = "STATE: there are facts;")
  static void promise02_stateThereAreFacts() {
    CubeDesk x = new CubeDesk();
    x.fact(1);
    due("dimension(1) of the first, with a fact", x.dimension(1), STATE);
    CubeDesk y = desk(2, 2, 2);
    y.fact(1);
    due("dimension(1) of the fourth, with a fact", y.dimension(1), STATE);
    due("count(0)", y.count(0), 3);
    due("cuboids()", y.cuboids(), 8);
  }

  @Says(at = "Promise 2", text = "FULL: there are four.")
  static void promise02_fullThereAreFour() {
    CubeDesk x = desk(1, 1, 1);
    due("dimension(1) of the fourth", x.dimension(1), 3);
    due("dimension(1) of the fifth", x.dimension(1), FULL);
    due("dimension(8) of the fifth", x.dimension(8), FULL);
    due("count(0)", x.count(0), 4);
    due("cuboids()", x.cuboids(), 16);
  }

  @Says(at = "Promise 2", text = "All but cuboid 0 are kept no more.")
  static void promise02_allBut0AreKeptNoMore() {
    CubeDesk x = desk(3, 3, 3);
    for (int c = 0; c < 8; c++) x.keep(c, true);
    due("count(3)", x.count(3), 8);
    x.dimension(3);
    due("count(3) with one more dimension", x.count(3), 1);
    due("kept(0)", x.kept(0), 1);
    for (int c = 1; c < 16; c++) due("kept(" + c + ")", x.kept(c), 0);
    x.keep(15, true);
    x.dimension(3);
    due("kept(15) after a refused one", x.kept(15), 1);
  }

  @Says(at = "Promise 2", text = "One more dimension with so many members of level 0: its number.")
  static void promise02_allElseStays() {
    CubeDesk x = emptyDesk();
    x.parent(0, 0, 1, 1);
    x.pick(0, 3);
    x.pick(2, 6);
    x.filter(0, 1, 1);
    x.table(2, 11, 0);
    due("dimension(7)", x.dimension(7), 2);
    due("lies(0, 1, 1)", x.lies(0, 1, 1), 1);
    due("members(0, 1)", x.members(0, 1), 2);
    due("members(1, 0)", x.members(1, 0), 3);
    due("count(4)", x.count(4), 8);
    due("out(0)", x.out(0), 46);
    due("fact(5), its picks as they were", x.fact(5), 0);
    due("group(0, 0)", x.group(0, 0), 306);
    x.pick(0, 0);
    x.fact(7);
    due("total(1), the filter as it was", x.total(1), 5);
  }

  // ======== promise 3

  @Says(at = "Promise 3", text = "A dimension gets one more level below ALL: its number.")
  static void promise03_theFirstIs1TheLastIs2() {
    CubeDesk x = desk(8, 4);
    due("level(0, 8), as many as below", x.level(0, 8), 1);
    due("level(0, 1), the fewest", x.level(0, 1), 2);
    due("level(1, 1), the fewest", x.level(1, 1), 1);
    due("level(1, 1), as many as below", x.level(1, 1), 2);
    due("members(0, 1)", x.members(0, 1), 8);
    due("members(0, 2)", x.members(0, 2), 1);
    due("members(0, 3), ALL above it", x.members(0, 3), 1);
    due("members(1, 1)", x.members(1, 1), 1);
    due("members(0, 0), as it was", x.members(0, 0), 8);
    due("cuboids()", x.cuboids(), 16);
  }

  @Says(at = "Promise 3", text = "OUTSIDE: dimension, members (1 .. as many as the level below has);")
  static void promise03_outsideDimension() {
    CubeDesk x = desk(4, 4, 4);
    dueAll("level(#, 1)", beside(0, 2), d -> x.level(d, 1), OUTSIDE);
    due("cuboids()", x.cuboids(), 8);
    due("level(0, 1) without dimensions", new CubeDesk().level(0, 1), OUTSIDE);
    due("level(2, 1)", x.level(2, 1), 1);
    due("level(0, 1)", x.level(0, 1), 1);
  }

  @Says(at = "Promise 3", text = "OUTSIDE: dimension, members (1 .. as many as the level below has);")
  static void promise03_outsideMembers() {
    CubeDesk x = desk(5);
    dueAll("level(0, #) above 5", beside(1, 5), m -> x.level(0, m), OUTSIDE);
    due("level(0, 3)", x.level(0, 3), 1);
    dueAll("level(0, #) above 3", beside(1, 3), m -> x.level(0, m), OUTSIDE);
    due("cuboids()", x.cuboids(), 3);
    due("level(0, 3)", x.level(0, 3), 2);
    CubeDesk y = desk(1);
    due("level(0, 2) above 1", y.level(0, 2), OUTSIDE);
    due("level(0, 1) above 1", y.level(0, 1), 1);
  }

  @Says(at = "Promise 3", text = "STATE: there are facts;")
  static void promise03_stateThereAreFacts() {
    CubeDesk x = desk(4, 4);
    x.level(0, 4);
    x.fact(1);
    due("level(0, 4) with a fact", x.level(0, 4), STATE);
    due("level(1, 1) with a fact", x.level(1, 1), STATE);
    due("cuboids()", x.cuboids(), 6);
    due("members(1, 1)", x.members(1, 1), 1);
    due("members(1, 2)", x.members(1, 2), OUTSIDE);
  }

  @Says(at = "Promise 3", text = "FULL: it has levels 0, 1 and 2.")
  static void promise03_fullItHasLevels01And2() {
    CubeDesk x = desk(4, 4);
    due("level(0, 4)", x.level(0, 4), 1);
    due("level(0, 4)", x.level(0, 4), 2);
    due("level(0, 4), the fourth", x.level(0, 4), FULL);
    due("level(0, 1), the fourth", x.level(0, 1), FULL);
    due("members(0, 3), ALL still", x.members(0, 3), 1);
    due("members(0, 4)", x.members(0, 4), OUTSIDE);
    due("level(1, 4) of the other one", x.level(1, 4), 1);
  }

  @Says(at = "Promise 3", text = "All but cuboid 0 are kept no more.")
  static void promise03_allBut0AreKeptNoMore() {
    CubeDesk x = desk(3, 3);
    for (int c = 0; c < 4; c++) x.keep(c, true);
    x.level(1, 3);
    due("count(3) with one more level", x.count(3), 1);
    due("kept(0)", x.kept(0), 1);
    for (int c = 1; c < 6; c++) due("kept(" + c + ")", x.kept(c), 0);
    x.keep(5, true);
    x.level(1, 4);
    due("kept(5) after a refused one", x.kept(5), 1);
    x.level(1, 2);
    due("kept(5)", x.kept(5), 0);
  }

  @Says(at = "Promise 3", text = "A dimension gets one more level below ALL: its number.")
  static void promise03_allElseStays() {
    CubeDesk x = emptyDesk();
    x.pick(0, 3);
    x.pick(1, 2);
    x.filter(1, 0, 2);
    x.table(2, 11, 0);
    due("level(0, 2)", x.level(0, 2), 2);
    due("lies(0, 3, 1), its parent as it was", x.lies(0, 3, 1), 1);
    due("lies(0, 3, 2), 0 at first", x.lies(0, 3, 2), 0);
    due("members(1, 0)", x.members(1, 0), 3);
    due("count(4)", x.count(4), 8);
    due("fact(5), its picks as they were", x.fact(5), 0);
    due("group(0, 0)", x.group(0, 0), 32);
    x.pick(1, 0);
    x.fact(7);
    due("total(1), the other filter as it was", x.total(1), 5);
  }

  // ======== promise 4

  @Says(at = "Promise 4", text = "The parent of a member of a told level that has another told one above it becomes p: what it was.")
  static void promise04_fromTheLeastToTheGreatest() {
    CubeDesk x = tallDesk(3);
    for (int level = 0; level < 2; level++) {
      String head = "parent(0, " + level + ", ";
      due(head + "7, 7)", x.parent(0, level, 7, 7), 0);
      due(head + "7, 7) again", x.parent(0, level, 7, 7), 7);
      due(head + "7, 0)", x.parent(0, level, 7, 0), 7);
      due(head + "7, 5)", x.parent(0, level, 7, 5), 0);
      due(head + "0, 7)", x.parent(0, level, 0, 7), 0);
      due(head + "7, 5), of its own", x.parent(0, level, 7, 5), 5);
    }
  }

  @Says(at = "Promise 4", text = "The parent of a member of a told level that has another told one above it becomes p: what it was.")
  static void promise04_noneBelowAll() {
    for (int told = 1; told <= 3; told++) {
      CubeDesk x = tallDesk(told);
      for (int level = 0; level < told - 1; level++) due("parent(0, " + level + ", 0, 0)", x.parent(0, level, 0, 0), 0);
      due("parent(0, last told, 0, 0)", x.parent(0, told - 1, 0, 0), OUTSIDE);
      due("parent(0, ALL, 0, 0)", x.parent(0, told, 0, 0), OUTSIDE);
      due("parent(0, above ALL, 0, 0)", x.parent(0, told + 1, 0, 0), OUTSIDE);
    }
  }

  @Says(at = "Promise 4", text = "(Also with facts; what is kept is kept.)")
  static void promise04_alsoWithFactsWhatIsKeptIsKept() {
    CubeDesk x = smallDesk();
    x.keep(2, true);
    x.keep(3, true);
    due("parent(0, 0, 1, 1) with facts", x.parent(0, 0, 1, 1), 0);
    for (int c = 0; c < 6; c++) due("kept(" + c + ")", x.kept(c), c == 0 || c == 2 || c == 3 ? 1 : 0);
    due("size(2), with what hangs elsewhere now", x.size(2), 4);
    due("count(5)", x.count(5), 10);
    due("server(5)", x.server(5), 3);
    due("parent(0, 0, 2, 0)", x.parent(0, 0, 2, 0), 1);
    due("parent(0, 0, 3, 0)", x.parent(0, 0, 3, 0), 1);
    due("parent(0, 0, 1, 0)", x.parent(0, 0, 1, 0), 1);
    due("size(3), all in one", x.size(3), 1);
    due("count(3)", x.count(3), 3);
    for (int f = 0; f < 5; f++) x.drop(f);
    due("parent(0, 0, 1, 1) with facts that went", x.parent(0, 0, 1, 1), 0);
  }

  @Says(at = "Promise 4", text = "OUTSIDE: dimension, level, member, p.")
  static void promise04_outsideDimensionLevelMemberP() {
    CubeDesk x = desk(5, 5);
    x.level(0, 4);
    x.level(0, 3);
    dueAll("parent(#, 0, 0, 0)", beside(0, 1), d -> x.parent(d, 0, 0, 0), OUTSIDE);
    dueAll("parent(0, #, 0, 0)", beside(0, 1), l -> x.parent(0, l, 0, 0), OUTSIDE);
    dueAll("parent(0, 0, #, 0)", beside(0, 4), m -> x.parent(0, 0, m, 0), OUTSIDE);
    dueAll("parent(0, 1, #, 0)", beside(0, 3), m -> x.parent(0, 1, m, 0), OUTSIDE);
    dueAll("parent(0, 0, 0, #)", beside(0, 3), p -> x.parent(0, 0, 0, p), OUTSIDE);
    dueAll("parent(0, 1, 0, #)", beside(0, 2), p -> x.parent(0, 1, 0, p), OUTSIDE);
    due("parent(1, 0, 0, 0), of ALL alone", x.parent(1, 0, 0, 0), OUTSIDE);
    due("parent(0, 0, 4, 3)", x.parent(0, 0, 4, 3), 0);
    due("parent(0, 1, 3, 2)", x.parent(0, 1, 3, 2), 0);
    for (int m = 0; m < 4; m++) due("lies(0, " + m + ", 1), as it was", x.lies(0, m, 1), 0);
  }

  // ======== promise 5

  @Says(at = "Promise 5", text = "What a member of level 0 lies in at a level.")
  static void promise05_atTheLowestAndTheHighestLevel() {
    CubeDesk x = desk(8, 1);
    x.level(0, 8);
    x.level(0, 8);
    for (int m = 0; m < 8; m++) {
      x.parent(0, 0, m, (m + 1) % 8);
      x.parent(0, 1, m, 7 - m);
    }
    for (int m = 0; m < 8; m++) {
      due("lies(0, " + m + ", 0)", x.lies(0, m, 0), m);
      due("lies(0, " + m + ", 1)", x.lies(0, m, 1), (m + 1) % 8);
      due("lies(0, " + m + ", 2)", x.lies(0, m, 2), 7 - (m + 1) % 8);
      due("lies(0, " + m + ", 3)", x.lies(0, m, 3), 0);
    }
    due("lies(1, 0, 0)", x.lies(1, 0, 0), 0);
    due("lies(1, 0, 1)", x.lies(1, 0, 1), 0);
  }

  @Says(at = "Promise 5", text = "OUTSIDE: dimension, member, level.")
  static void promise05_outsideDimensionMemberLevel() {
    CubeDesk x = desk(6, 2);
    x.level(0, 3);
    dueAll("lies(#, 0, 0)", beside(0, 1), d -> x.lies(d, 0, 0), OUTSIDE);
    dueAll("lies(0, #, 0)", beside(0, 5), m -> x.lies(0, m, 0), OUTSIDE);
    dueAll("lies(0, #, 1), of level 0 it is", beside(0, 5), m -> x.lies(0, m, 1), OUTSIDE);
    dueAll("lies(0, 0, #)", beside(0, 2), l -> x.lies(0, 0, l), OUTSIDE);
    dueAll("lies(1, 0, #)", beside(0, 1), l -> x.lies(1, 0, l), OUTSIDE);
    due("lies(0, 5, 2)", x.lies(0, 5, 2), 0);
    due("lies(0, 5, 0)", x.lies(0, 5, 0), 5);
    due("lies(1, 2, 0)", x.lies(1, 2, 0), OUTSIDE);
  }

  // ======== promise 6

  @Says(at = "Promise 6", text = "How many members a level has, 1 of ALL.")
  static void promise06_from1To8And1OfAll() {
    for (int members = 1; members <= 8; members++) {
      CubeDesk x = desk(members);
      due("members(0, 0)", x.members(0, 0), members);
      due("members(0, 1), ALL", x.members(0, 1), 1);
      x.level(0, members);
      due("members(0, 1)", x.members(0, 1), members);
      due("members(0, 2), ALL", x.members(0, 2), 1);
      x.level(0, members);
      due("members(0, 2)", x.members(0, 2), members);
      due("members(0, 3), ALL", x.members(0, 3), 1);
    }
  }

  @Says(at = "Promise 6", text = "OUTSIDE.")
  static void promise06_outside() {
    CubeDesk x = desk(8, 8);
    x.level(1, 8);
    dueAll("members(#, 0)", beside(0, 1), d -> x.members(d, 0), OUTSIDE);
    dueAll("members(0, #)", beside(0, 1), l -> x.members(0, l), OUTSIDE);
    dueAll("members(1, #)", beside(0, 2), l -> x.members(1, l), OUTSIDE);
    due("members(0, 0) without dimensions", new CubeDesk().members(0, 0), OUTSIDE);
  }

  // ======== promise 7

  @Says(at = "Promise 7", text = "A fact comes, its members being PICKS, with a measure (-1000 .. 1000): its number.")
  static void promise07_theLeastAndTheGreatestMeasure() {
    CubeDesk x = desk(2);
    due("fact(-1000)", x.fact(-1000), 0);
    due("fact(1000)", x.fact(1000), 1);
    due("fact(0)", x.fact(0), 2);
    due("total(2)", x.total(2), -1000);
    due("total(3)", x.total(3), 1000);
    due("drop(0)", x.drop(0), -1000);
    due("drop(1)", x.drop(1), 1000);
    due("drop(2)", x.drop(2), 0);
    due("fact(7), numbered on", x.fact(7), 3);
  }

  @Says(at = "Promise 7", text = "A fact comes, its members being PICKS, with a measure (-1000 .. 1000): its number.")
  static void promise07_itsMembersArePicks() {
    CubeDesk x = desk(8, 1, 3);
    due("fact(1) at first", x.fact(1), 0);
    due("fact(1) at the last members", factAt(x, 1, 7, 0, 2), 1);
    due("group(0, 0)", x.group(0, 0), 0);
    due("group(0, 1)", x.group(0, 1), 702);
    due("size(0)", x.size(0), 2);
  }

  @Says(at = "Promise 7", text = "OUTSIDE: a pick of a dimension that there is is none of its members of level 0, or the measure;")
  static void promise07_outsideAPickIsNoMember() {
    CubeDesk x = desk(7, 1, 4);
    x.level(0, 2);
    int[] members = {7, 1, 4};
    for (int d = 0; d < 3; d++) {
      x.pick(d, members[d]);
      due("fact(1) with pick " + members[d] + " of dimension " + d, x.fact(1), OUTSIDE);
      x.pick(d, 7);
      due("fact(1) with pick 7 of dimension " + d, x.fact(1), OUTSIDE);
      x.pick(d, members[d] - 1);
    }
    x.pick(3, 7);
    due("count(1)", x.count(1), 0);
    due("fact(1), whatever the pick of no dimension", x.fact(1), 0);
    due("group(0, 0), members of level 0", x.group(0, 0), 603);
    CubeDesk none = new CubeDesk();
    for (int d = 0; d < 4; d++) none.pick(d, 7);
    due("fact(1) without dimensions", none.fact(1), 0);
  }

  @Says(at = "Promise 7", text = "OUTSIDE: a pick of a dimension that there is is none of its members of level 0, or the measure;")
  static void promise07_outsideTheMeasure() {
    CubeDesk x = desk(2);
    dueAll("fact(#)", beside(-1000, 1000), x::fact, OUTSIDE);
    due("count(1)", x.count(1), 0);
    x.pick(0, 2);
    due("fact(1001) with a wrong pick", x.fact(1001), OUTSIDE);
  }

  @Says(at = "Promise 7", text = "FULL.")
  static void promise07_full() {
    CubeDesk x = desk(3);
    for (int n = 0; n < 299; n++) x.fact(1);
    due("fact(1), the 300th", x.fact(1), 299);
    due("fact(1), the 301st", x.fact(1), FULL);
    x.drop(299);
    due("fact(1), the 301st after one went", x.fact(1), FULL);
    due("count(1)", x.count(1), 300);
    due("count(2)", x.count(2), 299);
    due("total(1)", x.total(1), 299);
  }

  // ======== promise 8

  @Says(at = "Promise 8", text = "A fact goes: its measure.")
  static void promise08_theFirstAndTheLast() {
    CubeDesk x = desk(8);
    for (int m = 0; m < 8; m++) factAt(x, m * 10 - 40, m);
    due("drop(7), the last", x.drop(7), 30);
    due("drop(0), the first", x.drop(0), -40);
    due("drop(4), with measure 0", x.drop(4), 0);
    due("count(2)", x.count(2), 5);
    due("count(1), as it was", x.count(1), 8);
    due("size(0)", x.size(0), 5);
    due("total(1)", x.total(1), -30);
    due("total(2)", x.total(2), -30);
    due("total(3)", x.total(3), 20);
    for (int f : new int[] {1, 2, 3, 5, 6}) x.drop(f);
    due("count(2) with all gone", x.count(2), 0);
    due("size(0) with all gone", x.size(0), 0);
    due("size(1) with all gone", x.size(1), 0);
  }

  @Says(at = "Promise 8", text = "OUTSIDE: no such fact;")
  static void promise08_outsideNoSuchFact() {
    due("drop(0) without facts", desk(2).drop(0), OUTSIDE);
    CubeDesk x = desk(2);
    for (int n = 0; n < 3; n++) x.fact(5);
    dueAll("drop(#)", beside(0, 2), x::drop, OUTSIDE);
    due("count(2)", x.count(2), 3);
    due("drop(2)", x.drop(2), 5);
    CubeDesk full = crowdedDesk();
    dueAll("drop(#) of 300", beside(0, 299), full::drop, OUTSIDE);
    due("drop(299) of 300", full.drop(299), 299);
  }

  @Says(at = "Promise 8", text = "STATE: it went.")
  static void promise08_stateItWent() {
    CubeDesk x = desk(2);
    x.fact(5);
    x.fact(6);
    due("drop(0)", x.drop(0), 5);
    due("drop(0) again", x.drop(0), STATE);
    x.fact(7);
    due("drop(0) after another one came", x.drop(0), STATE);
    due("count(2)", x.count(2), 2);
    due("drop(1)", x.drop(1), 6);
    due("drop(2)", x.drop(2), 7);
    due("drop(2) again", x.drop(2), STATE);
    due("drop(3)", x.drop(3), OUTSIDE);
  }

  // ======== promise 9

  @Says(at = "Promise 9", text = "The pick of a dimension 0 .. 3 (be there one or not) becomes 0 .. 7: what it was.")
  static void promise09_ofADimensionThatIsNotThere() {
    CubeDesk x = new CubeDesk();
    for (int d = 0; d < 4; d++) {
      due("pick(" + d + ", 7)", x.pick(d, 7), 0);
      due("pick(" + d + ", 0)", x.pick(d, 0), 7);
      due("pick(" + d + ", " + (d + 1) + ")", x.pick(d, d + 1), 0);
    }
    x.dimension(8);
    x.dimension(2);
    for (int d = 0; d < 4; d++) due("pick(" + d + ", 1), as it was", x.pick(d, 1), d + 1);
  }

  @Says(at = "Promise 9", text = "The pick of a dimension 0 .. 3 (be there one or not) becomes 0 .. 7: what it was.")
  static void promise09_beyondTheDimensionsMembers() {
    CubeDesk x = desk(1, 1, 1, 1);
    for (int d = 0; d < 4; d++) {
      for (int m = 1; m < 8; m++) due("pick(" + d + ", " + m + ") of one member", x.pick(d, m), m - 1);
    }
    due("fact(1)", x.fact(1), OUTSIDE);
  }

  @Says(at = "Promise 9", text = "OUTSIDE.")
  static void promise09_outside() {
    CubeDesk x = desk(8);
    x.pick(0, 6);
    x.pick(3, 5);
    dueAll("pick(#, 1)", beside(0, 3), d -> x.pick(d, 1), OUTSIDE);
    dueAll("pick(0, #)", beside(0, 7), m -> x.pick(0, m), OUTSIDE);
    dueAll("pick(3, #)", beside(0, 7), m -> x.pick(3, m), OUTSIDE);
    due("pick(0, 0), as it was", x.pick(0, 0), 6);
    due("pick(1, 0), as it was", x.pick(1, 0), 0);
    due("pick(2, 0), as it was", x.pick(2, 0), 0);
    due("pick(3, 0), as it was", x.pick(3, 0), 5);
  }
}
