// The sentence of "Terms" on refusals: that they change nothing, when each is due, and which comes first of several.
public final class BoundaryRefusalsTest extends Boundary {
  private static final String NOTHING = "REFUSALS change nothing:";
  private static final String FIRST = "Of several the first in the order in which the call tells them.";

  public static void main(String[] args) throws Exception {
    run(BoundaryRefusalsTest.class);
  }

  // ======== what each is for

  @Says(at = "Terms", text = "OUTSIDE: a number is not as told (no such dimension, level, member, cuboid, fact, ..);")
  static void refusals_outsideOfANumberThatIsNotAsTold() {
    CubeDesk x = smallDesk();
    due("members(2, 0), no such dimension", x.members(2, 0), OUTSIDE);
    due("members(1, 2), no such level", x.members(1, 2), OUTSIDE);
    due("lies(1, 3, 0), no such member", x.lies(1, 3, 0), OUTSIDE);
    due("size(6), no such cuboid", x.size(6), OUTSIDE);
    due("drop(5), no such fact", x.drop(5), OUTSIDE);
    due("total(4), no such value", x.total(4), OUTSIDE);
    due("pick(4, 0), no such pick", x.pick(4, 0), OUTSIDE);
    due("choose(9), not so often", x.choose(9), OUTSIDE);
    due("best(4), not so many", x.best(4), OUTSIDE);
    due("count(6), no such thing", x.count(6), OUTSIDE);
    due("fact(1001), no such measure", x.fact(1001), OUTSIDE);
    due("OUTSIDE", OUTSIDE, -2000000002);
  }

  @Says(at = "Terms", text = "STATE: not now (as told);")
  static void refusals_stateOfWhatCanNotBeNow() {
    CubeDesk x = smallDesk();
    due("dimension(1) with facts", x.dimension(1), STATE);
    due("level(1, 1) with facts", x.level(1, 1), STATE);
    x.drop(0);
    due("drop(0), it went", x.drop(0), STATE);
    due("keep(0, false)", x.keep(0, false), STATE);
    due("best(1) of 72 cuboids", tallDesk(3, 2, 2, 1).best(1), STATE);
    due("STATE", STATE, -2000000003);
  }

  @Says(at = "Terms", text = "FULL: no room;")
  static void refusals_fullWhereThereIsNoRoom() {
    due("dimension(1) of five", wideDesk().dimension(1), FULL);
    due("level(0, 1) of four", wideDesk().level(0, 1), FULL);
    due("fact(0) of 301", crowdedDesk().fact(0), FULL);
    due("FULL", FULL, -2000000004);
  }

  @Says(at = "Terms", text = "NONE: there is none.")
  static void refusals_noneWhereThereIsNone() {
    CubeDesk x = emptyDesk();
    due("ask(0, 0) without facts", x.ask(0, 0), NONE);
    due("group(0, 0) without facts", x.group(0, 0), NONE);
    due("total(2) without facts", x.total(2), NONE);
    due("total(3) without facts", x.total(3), NONE);
    due("out(0) without a table", x.out(0), NONE);
    due("NONE", NONE, -2000000001);
  }

  // ======== they change nothing

  @Says(at = "Terms", text = NOTHING)
  static void refusals_ofDimensionChangeNothing() {
    dueUnchanged(Boundary::handledDesk, "dimension(0)", x -> x.dimension(0), OUTSIDE);
    dueUnchanged(Boundary::handledDesk, "dimension(9)", x -> x.dimension(9), OUTSIDE);
    dueUnchanged(Boundary::busyDesk, "dimension(2)", x -> x.dimension(2), STATE);
    dueUnchanged(Boundary::wideDesk, "dimension(2)", x -> x.dimension(2), FULL);
  }

  @Says(at = "Terms", text = NOTHING)
  static void refusals_ofLevelChangeNothing() {
    dueUnchanged(Boundary::handledDesk, "level(2, 1)", x -> x.level(2, 1), OUTSIDE);
    dueUnchanged(Boundary::handledDesk, "level(0, 0)", x -> x.level(0, 0), OUTSIDE);
    dueUnchanged(Boundary::handledDesk, "level(0, 3)", x -> x.level(0, 3), OUTSIDE);
    dueUnchanged(Boundary::busyDesk, "level(0, 1)", x -> x.level(0, 1), STATE);
    dueUnchanged(Boundary::wideDesk, "level(0, 2)", x -> x.level(0, 2), FULL);
  }

  @Says(at = "Terms", text = NOTHING)
  static void refusals_ofParentChangeNothing() {
    dueUnchanged(Boundary::busyDesk, "parent(2, 0, 0, 1)", x -> x.parent(2, 0, 0, 1), OUTSIDE);
    dueUnchanged(Boundary::busyDesk, "parent(0, 1, 0, 0)", x -> x.parent(0, 1, 0, 0), OUTSIDE);
    dueUnchanged(Boundary::busyDesk, "parent(0, 0, 4, 1)", x -> x.parent(0, 0, 4, 1), OUTSIDE);
    dueUnchanged(Boundary::busyDesk, "parent(0, 0, 0, 2)", x -> x.parent(0, 0, 0, 2), OUTSIDE);
    dueUnchanged(Boundary::busyDesk, "parent(0, 0, 3, -1)", x -> x.parent(0, 0, 3, -1), OUTSIDE);
  }

  @Says(at = "Terms", text = NOTHING)
  static void refusals_ofFactChangeNothing() {
    dueUnchanged(Boundary::busyDesk, "fact(1001)", x -> x.fact(1001), OUTSIDE);
    dueUnchanged(Boundary::handledDesk, "fact(-1001)", x -> x.fact(-1001), OUTSIDE);
    dueUnchanged(BoundaryRefusalsTest::wrongPick, "fact(1)", x -> x.fact(1), OUTSIDE);
    dueUnchanged(Boundary::crowdedDesk, "fact(1)", x -> x.fact(1), FULL);
  }

  private static CubeDesk wrongPick() {
    CubeDesk x = busyDesk();
    x.pick(1, 3);
    return x;
  }

  @Says(at = "Terms", text = NOTHING)
  static void refusals_ofDropChangeNothing() {
    dueUnchanged(Boundary::busyDesk, "drop(-1)", x -> x.drop(-1), OUTSIDE);
    dueUnchanged(Boundary::busyDesk, "drop(5)", x -> x.drop(5), OUTSIDE);
    dueUnchanged(Boundary::busyDesk, "drop(1)", x -> x.drop(1), STATE);
    dueUnchanged(Boundary::crowdedDesk, "drop(300)", x -> x.drop(300), OUTSIDE);
  }

  @Says(at = "Terms", text = NOTHING)
  static void refusals_ofPickChangeNothing() {
    dueUnchanged(Boundary::busyDesk, "pick(-1, 1)", x -> x.pick(-1, 1), OUTSIDE);
    dueUnchanged(Boundary::busyDesk, "pick(4, 1)", x -> x.pick(4, 1), OUTSIDE);
    dueUnchanged(Boundary::busyDesk, "pick(0, -1)", x -> x.pick(0, -1), OUTSIDE);
    dueUnchanged(Boundary::busyDesk, "pick(3, 8)", x -> x.pick(3, 8), OUTSIDE);
  }

  @Says(at = "Terms", text = NOTHING)
  static void refusals_ofKeepChangeNothing() {
    dueUnchanged(Boundary::busyDesk, "keep(-1, true)", x -> x.keep(-1, true), OUTSIDE);
    dueUnchanged(Boundary::busyDesk, "keep(6, true)", x -> x.keep(6, true), OUTSIDE);
    dueUnchanged(Boundary::busyDesk, "keep(6, false)", x -> x.keep(6, false), OUTSIDE);
    dueUnchanged(Boundary::busyDesk, "keep(0, false)", x -> x.keep(0, false), STATE);
  }

  @Says(at = "Terms", text = NOTHING)
  static void refusals_ofKeepLeaveNothingForCuboidsToCome() {
    CubeDesk x = desk(2);
    due("keep(2, true)", x.keep(2, true), OUTSIDE);
    due("keep(255, true)", x.keep(255, true), OUTSIDE);
    x.dimension(2);
    due("kept(2), which came later", x.kept(2), 0);
    due("count(3)", x.count(3), 1);
  }

  @Says(at = "Terms", text = NOTHING)
  static void refusals_ofChooseAndBestChangeNothing() {
    dueUnchanged(Boundary::busyDesk, "choose(-1)", x -> x.choose(-1), OUTSIDE);
    dueUnchanged(Boundary::busyDesk, "choose(9)", x -> x.choose(9), OUTSIDE);
    dueUnchanged(Boundary::busyDesk, "best(-1)", x -> x.best(-1), OUTSIDE);
    dueUnchanged(Boundary::busyDesk, "best(4)", x -> x.best(4), OUTSIDE);
    dueUnchanged(BoundaryRefusalsTest::manyCuboids, "best(3)", x -> x.best(3), STATE);
  }

  private static CubeDesk manyCuboids() {
    CubeDesk x = tallDesk(3, 2, 2, 1);
    factAt(x, 1, 1, 2, 3, 4);
    factAt(x, 1, 5, 6, 7, 0);
    x.keep(3, true);
    x.keep(71, true);
    return x;
  }

  @Says(at = "Terms", text = NOTHING)
  static void refusals_ofAskChangeNothing() {
    dueUnchanged(Boundary::busyDesk, "ask(6, 0)", x -> x.ask(6, 0), OUTSIDE);
    dueUnchanged(Boundary::busyDesk, "ask(-1, 0)", x -> x.ask(-1, 0), OUTSIDE);
    dueUnchanged(Boundary::busyDesk, "ask(0, 4)", x -> x.ask(0, 4), OUTSIDE);
    dueUnchanged(Boundary::busyDesk, "ask(0, -1)", x -> x.ask(0, -1), OUTSIDE);
    dueUnchanged(Boundary::busyDesk, "ask(2, 0) with pick 3 of 2", x -> x.ask(2, 0), OUTSIDE);
    dueUnchanged(Boundary::busyDesk, "ask(1, 0) with pick 2 of ALL", x -> x.ask(1, 0), OUTSIDE);
  }

  @Says(at = "Terms", text = NOTHING)
  static void refusals_ofFilterAndTotalChangeNothing() {
    dueUnchanged(Boundary::busyDesk, "filter(2, 0, 0)", x -> x.filter(2, 0, 0), OUTSIDE);
    dueUnchanged(Boundary::busyDesk, "filter(0, 3, 0)", x -> x.filter(0, 3, 0), OUTSIDE);
    dueUnchanged(Boundary::busyDesk, "filter(0, -1, 0)", x -> x.filter(0, -1, 0), OUTSIDE);
    dueUnchanged(Boundary::busyDesk, "filter(0, 2, 1)", x -> x.filter(0, 2, 1), OUTSIDE);
    dueUnchanged(Boundary::busyDesk, "filter(1, 0, -1)", x -> x.filter(1, 0, -1), OUTSIDE);
    dueUnchanged(Boundary::busyDesk, "total(4)", x -> x.total(4), OUTSIDE);
    dueUnchanged(Boundary::handledDesk, "total(2)", x -> x.total(2), NONE);
  }

  @Says(at = "Terms", text = NOTHING)
  static void refusals_ofTableAndOutChangeNothing() {
    dueUnchanged(Boundary::busyDesk, "table(3, 0, 0)", x -> x.table(3, 0, 0), OUTSIDE);
    dueUnchanged(Boundary::busyDesk, "table(20, 0, 0)", x -> x.table(20, 0, 0), OUTSIDE);
    dueUnchanged(Boundary::busyDesk, "table(0, 12, 0)", x -> x.table(0, 12, 0), OUTSIDE);
    dueUnchanged(Boundary::busyDesk, "table(0, 20, 0)", x -> x.table(0, 20, 0), OUTSIDE);
    dueUnchanged(Boundary::busyDesk, "table(0, 10, 4)", x -> x.table(0, 10, 4), OUTSIDE);
    dueUnchanged(Boundary::busyDesk, "table(0, 10, -1)", x -> x.table(0, 10, -1), OUTSIDE);
    dueUnchanged(Boundary::busyDesk, "out(-1)", x -> x.out(-1), NONE);
    dueUnchanged(Boundary::busyDesk, "out(1000)", x -> x.out(1000), NONE);
  }

  @Says(at = "Terms", text = NOTHING)
  static void refusals_ofCallsThatOnlyTellChangeNothing() {
    dueUnchanged(Boundary::busyDesk, "lies(0, 4, 0)", x -> x.lies(0, 4, 0), OUTSIDE);
    dueUnchanged(Boundary::busyDesk, "members(0, 3)", x -> x.members(0, 3), OUTSIDE);
    dueUnchanged(Boundary::busyDesk, "levelOf(6, 0)", x -> x.levelOf(6, 0), OUTSIDE);
    dueUnchanged(Boundary::busyDesk, "size(6)", x -> x.size(6), OUTSIDE);
    dueUnchanged(Boundary::busyDesk, "serves(0, 6)", x -> x.serves(0, 6), OUTSIDE);
    dueUnchanged(Boundary::busyDesk, "kept(6)", x -> x.kept(6), OUTSIDE);
    dueUnchanged(Boundary::busyDesk, "cost(6)", x -> x.cost(6), OUTSIDE);
    dueUnchanged(Boundary::busyDesk, "server(6)", x -> x.server(6), OUTSIDE);
    dueUnchanged(Boundary::busyDesk, "gain(6)", x -> x.gain(6), OUTSIDE);
    dueUnchanged(Boundary::busyDesk, "group(0, -1)", x -> x.group(0, -1), OUTSIDE);
    dueUnchanged(Boundary::busyDesk, "group(0, 4)", x -> x.group(0, 4), NONE);
    dueUnchanged(Boundary::busyDesk, "count(6)", x -> x.count(6), OUTSIDE);
  }

  // ======== the first of several

  @Says(at = "Terms", text = FIRST)
  static void refusals_theFirstOfSeveralOfDimension() {
    CubeDesk x = desk(2, 2, 2, 2);
    due("dimension(9), OUTSIDE and FULL", x.dimension(9), OUTSIDE);
    x.fact(1);
    due("dimension(9), OUTSIDE, STATE and FULL", x.dimension(9), OUTSIDE);
    due("dimension(8), STATE and FULL", x.dimension(8), STATE);
    CubeDesk y = desk(2);
    y.fact(1);
    due("dimension(0), OUTSIDE and STATE", y.dimension(0), OUTSIDE);
  }

  @Says(at = "Terms", text = FIRST)
  static void refusals_theFirstOfSeveralOfLevel() {
    CubeDesk x = tallDesk(3, 1);
    due("level(0, 9), OUTSIDE and FULL", x.level(0, 9), OUTSIDE);
    due("level(0, 0), OUTSIDE and FULL", x.level(0, 0), OUTSIDE);
    x.fact(1);
    due("level(0, 9), OUTSIDE, STATE and FULL", x.level(0, 9), OUTSIDE);
    due("level(2, 1), OUTSIDE and STATE", x.level(2, 1), OUTSIDE);
    due("level(1, 9), OUTSIDE and STATE", x.level(1, 9), OUTSIDE);
    due("level(0, 8), STATE and FULL", x.level(0, 8), STATE);
    due("level(1, 8), STATE", x.level(1, 8), STATE);
  }

  @Says(at = "Terms", text = FIRST)
  static void refusals_theFirstOfSeveralOfLevelAboveANarrowOne() {
    CubeDesk x = desk(8, 5);
    x.level(0, 4);
    x.level(0, 2);
    x.level(1, 3);
    due("level(0, 3), OUTSIDE as level 2 has 2, and FULL", x.level(0, 3), OUTSIDE);
    due("level(0, 2), FULL", x.level(0, 2), FULL);
    x.fact(1);
    due("level(0, 3), OUTSIDE, STATE and FULL", x.level(0, 3), OUTSIDE);
    due("level(0, 2), STATE and FULL", x.level(0, 2), STATE);
    due("level(1, 4), OUTSIDE as level 1 has 3, and STATE", x.level(1, 4), OUTSIDE);
    due("level(1, 3), STATE", x.level(1, 3), STATE);
    due("cuboids()", x.cuboids(), 12);
  }

  @Says(at = "Terms", text = FIRST)
  static void refusals_theFirstOfSeveralWithFactsThatWent() {
    CubeDesk x = desk(8, 8, 8, 8);
    x.level(0, 4);
    x.level(0, 2);
    x.fact(1);
    x.fact(2);
    x.drop(0);
    x.drop(1);
    due("count(2), none is there", x.count(2), 0);
    due("dimension(9), OUTSIDE, STATE and FULL", x.dimension(9), OUTSIDE);
    due("dimension(8), STATE and FULL", x.dimension(8), STATE);
    due("level(4, 1), OUTSIDE and STATE", x.level(4, 1), OUTSIDE);
    due("level(0, 3), OUTSIDE, STATE and FULL", x.level(0, 3), OUTSIDE);
    due("level(0, 2), STATE and FULL", x.level(0, 2), STATE);
    due("level(1, 9), OUTSIDE and STATE", x.level(1, 9), OUTSIDE);
    due("level(1, 8), STATE", x.level(1, 8), STATE);
    due("fact(3), numbered on", x.fact(3), 2);
  }

  @Says(at = "Terms", text = FIRST)
  static void refusals_theFirstOfSeveralOfFact() {
    CubeDesk x = crowdedDesk();
    due("fact(1001), OUTSIDE and FULL", x.fact(1001), OUTSIDE);
    due("fact(1000), FULL", x.fact(1000), FULL);
    x.pick(1, 3);
    due("fact(0) with a wrong pick, OUTSIDE and FULL", x.fact(0), OUTSIDE);
  }

  @Says(at = "Terms", text = FIRST)
  static void refusals_theFirstOfSeveralOfBest() {
    CubeDesk x = tallDesk(3, 2, 2, 1);
    due("best(4), OUTSIDE and STATE", x.best(4), OUTSIDE);
    due("best(-1), OUTSIDE and STATE", x.best(-1), OUTSIDE);
    due("best(0), STATE", x.best(0), STATE);
  }

  @Says(at = "Terms", text = FIRST)
  static void refusals_theFirstOfSeveralOfAskGroupAndTotal() {
    CubeDesk x = emptyDesk();
    due("ask(6, 0), OUTSIDE and NONE", x.ask(6, 0), OUTSIDE);
    due("ask(0, 4), OUTSIDE and NONE", x.ask(0, 4), OUTSIDE);
    x.pick(1, 3);
    due("ask(0, 0) with a wrong pick, OUTSIDE and NONE", x.ask(0, 0), OUTSIDE);
    due("group(6, 0), OUTSIDE and NONE", x.group(6, 0), OUTSIDE);
    due("group(0, -1), OUTSIDE and NONE", x.group(0, -1), OUTSIDE);
    due("total(4), OUTSIDE and NONE", x.total(4), OUTSIDE);
    due("total(-1), OUTSIDE and NONE", x.total(-1), OUTSIDE);
  }
}
