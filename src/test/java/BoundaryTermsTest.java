// The sentences of "Terms": what there is at least and at most, at first, and where one thing ends and the next begins.
// Those on refusals are in BoundaryRefusalsTest.
public final class BoundaryTermsTest extends Boundary {
  public static void main(String[] args) throws Exception {
    run(BoundaryTermsTest.class);
  }

  // ======== what it is

  @Says(at = "What it is", text = "An object is used for at most 512 calls after it has been made; what later calls answer is free.")
  static void whatItIs_the512thCallAnswersAsTheFirst() {
    CubeDesk x = desk(2);
    for (int n = 0; n < 255; n++) {
      due("pick(0, 1), call " + (2 * n + 2), x.pick(0, 1), 0);
      due("pick(0, 0), call " + (2 * n + 3), x.pick(0, 0), 1);
    }
    due("fact(9), call 512", x.fact(9), 0);
    CubeDesk y = desk(2);
    for (int n = 0; n < 300; n++) y.fact(n % 2);
    for (int n = 0; n < 210; n++) due("drop(" + n + "), call " + (n + 302), y.drop(n), n % 2);
    due("count(2), call 512", y.count(2), 90);
  }

  // ======== 1 dimensions

  @Says(at = "Terms", text = "3 at most, in the order in which they come.")
  static void terms1_dimensionsAreFourAtMostNumberedAsTheyCome() {
    CubeDesk x = new CubeDesk();
    for (int d = 0; d < 4; d++) {
      due("members(" + d + ", 0) ahead of it", x.members(d, 0), OUTSIDE);
      due("dimension(" + (d + 2) + ")", x.dimension(d + 2), d);
    }
    for (int d = 0; d < 4; d++) due("members(" + d + ", 0)", x.members(d, 0), d + 2);
    due("dimension(6), the fifth", x.dimension(6), FULL);
    due("members(4, 0)", x.members(4, 0), OUTSIDE);
    due("count(0)", x.count(0), 4);
  }

  @Says(at = "Terms", text = "Each has LEVELS: level 0 with 1 to 8 MEMBERS (0, 1, ..),")
  static void terms1_level0Has1To8Members() {
    for (int members = 1; members <= 8; members++) {
      CubeDesk x = new CubeDesk();
      due("dimension(" + members + ")", x.dimension(members), 0);
      due("members(0, 0)", x.members(0, 0), members);
      for (int m = 0; m < members; m++) {
        due("lies(0, " + m + ", 0) of " + members, x.lies(0, m, 0), m);
        due("fact(1) at " + m + " of " + members, factAt(x, 1, m), m);
      }
      due("lies(0, " + members + ", 0)", x.lies(0, members, 0), OUTSIDE);
      due("lies(0, -1, 0)", x.lies(0, -1, 0), OUTSIDE);
      due("size(0)", x.size(0), members);
      due("group(0, last)", x.group(0, members - 1), members - 1);
    }
  }

  @Says(at = "Terms", text = "then perhaps level 1, then perhaps level 2,")
  static void terms1_toldLevelsAreOneTwoOrThree() {
    CubeDesk x = desk(3, 3, 3);
    due("level(1, 2)", x.level(1, 2), 1);
    due("level(2, 3)", x.level(2, 3), 1);
    due("level(2, 1)", x.level(2, 1), 2);
    due("level(2, 1), the fourth", x.level(2, 1), FULL);
    due("members(0, 1), ALL", x.members(0, 1), 1);
    due("members(1, 1)", x.members(1, 1), 2);
    due("members(2, 1)", x.members(2, 1), 3);
    due("members(2, 2)", x.members(2, 2), 1);
    due("cuboids(), 2 times 3 times 4", x.cuboids(), 24);
  }

  @Says(at = "Terms", text = "each with at most as many members as the level below it;")
  static void terms1_aLevelHasAtMostAsManyMembersAsTheOneBelow() {
    CubeDesk x = desk(8, 8, 1);
    due("level(0, 8)", x.level(0, 8), 1);
    due("level(0, 8)", x.level(0, 8), 2);
    due("level(1, 3)", x.level(1, 3), 1);
    due("level(1, 4), one more than level 1 though fewer than level 0", x.level(1, 4), OUTSIDE);
    due("level(1, 3), as many as level 1", x.level(1, 3), 2);
    due("level(2, 2)", x.level(2, 2), OUTSIDE);
    due("level(2, 1)", x.level(2, 1), 1);
    due("level(2, 1)", x.level(2, 1), 2);
  }

  @Says(at = "Terms", text = "and last of all, above these, the level ALL with the one member 0.")
  static void terms1_allHasTheOneMember0() {
    CubeDesk x = tallDesk(1, 2, 3);
    for (int d = 0; d < 3; d++) {
      int all = d + 1;
      due("members(" + d + ", ALL)", x.members(d, all), 1);
      due("members(" + d + ", above ALL)", x.members(d, all + 1), OUTSIDE);
      due("filter(" + d + ", ALL, 0)", x.filter(d, all, 0), 0);
      due("filter(" + d + ", ALL, 1)", x.filter(d, all, 1), OUTSIDE);
      due("filter(" + d + ", above ALL, 0)", x.filter(d, all + 1, 0), OUTSIDE);
      due("lies(" + d + ", 7, ALL)", x.lies(d, 7, all), 0);
      due("lies(" + d + ", 7, above ALL)", x.lies(d, 7, all + 1), OUTSIDE);
    }
  }

  @Says(at = "Terms", text = "Each member of a level below the last told one has a PARENT in the next one (0 at first);")
  static void terms1_parentsAre0AtFirst() {
    CubeDesk x = tallDesk(3);
    for (int m = 0; m < 8; m++) {
      due("lies(0, " + m + ", 1)", x.lies(0, m, 1), 0);
      due("lies(0, " + m + ", 2)", x.lies(0, m, 2), 0);
    }
    for (int m = 0; m < 8; m++) {
      due("parent(0, 0, " + m + ", 7)", x.parent(0, 0, m, 7), 0);
      due("parent(0, 1, " + m + ", 7)", x.parent(0, 1, m, 7), 0);
    }
    CubeDesk y = desk(3);
    y.level(0, 3);
    for (int m = 0; m < 3; m++) y.parent(0, 0, m, m);
    y.level(0, 2);
    for (int m = 0; m < 3; m++) {
      due("lies(0, " + m + ", 1), as it was before level 2 came", y.lies(0, m, 1), m);
      due("lies(0, " + m + ", 2)", y.lies(0, m, 2), 0);
    }
  }

  @Says(at = "Terms", text = "each member of the last told level has 0 of ALL.")
  static void terms1_theLastToldLevelHangsInAll() {
    for (int told = 1; told <= 3; told++) {
      CubeDesk x = tallDesk(told);
      for (int m = 0; m < 8; m++) {
        if (told > 1) x.parent(0, 0, m, 7 - m);
        if (told > 2) x.parent(0, 1, m, 7 - m);
      }
      for (int m = 0; m < 8; m++) {
        due("lies(0, " + m + ", ALL)", x.lies(0, m, told), 0);
        due("parent(0, last told, " + m + ", 0)", x.parent(0, told - 1, m, 0), OUTSIDE);
      }
    }
  }

  @Says(at = "Terms", text = "LEVELS are told by their numbers, ALL being one more than the last told one.")
  static void terms1_allIsOneMoreThanTheLastTold() {
    CubeDesk x = desk(8);
    for (int told = 1; told <= 3; told++) {
      due("members(0, " + told + "), ALL", x.members(0, told), 1);
      due("levelOf(last, 0)", x.levelOf(told, 0), told);
      due("members(0, " + (told + 1) + ")", x.members(0, told + 1), OUTSIDE);
      if (told < 3) {
        due("level(0, 5)", x.level(0, 5), told);
        due("members(0, " + told + "), no more ALL", x.members(0, told), 5);
      }
    }
  }

  @Says(at = "Terms", text = "What a member LIES IN at a higher level: its parent, the parent's parent, and so on (at its own level: itself).")
  static void terms1_aMemberLiesInItsParentsParent() {
    CubeDesk x = tallDesk(3);
    x.parent(0, 0, 7, 6);
    x.parent(0, 1, 6, 5);
    x.parent(0, 1, 7, 4);
    due("lies(0, 7, 0), itself", x.lies(0, 7, 0), 7);
    due("lies(0, 7, 1), its parent", x.lies(0, 7, 1), 6);
    due("lies(0, 7, 2), the parent's parent", x.lies(0, 7, 2), 5);
    due("lies(0, 7, 3), ALL", x.lies(0, 7, 3), 0);
    due("lies(0, 6, 1), not the member of its number", x.lies(0, 6, 1), 0);
    due("lies(0, 6, 2)", x.lies(0, 6, 2), 0);
  }

  @Says(at = "Terms", text = "FACTS, at most 300 in all (also those that went), numbered from 0 as they come:")
  static void terms1_factsAre300AtMostAlsoThoseThatWent() {
    CubeDesk x = desk(1);
    for (int n = 0; n < 300; n++) due("fact(" + n + ")", x.fact(n), n);
    due("fact(1), the 301st", x.fact(1), FULL);
    for (int n = 0; n < 200; n++) x.drop(n);
    due("fact(1), the 301st after 200 went", x.fact(1), FULL);
    due("count(1)", x.count(1), 300);
    due("count(2)", x.count(2), 100);
    due("drop(299), the last", x.drop(299), 299);
    due("drop(300)", x.drop(300), OUTSIDE);
    CubeDesk y = desk(1);
    for (int n = 0; n < 200; n++) {
      due("fact(1) after all went", y.fact(1), n);
      due("drop(" + n + ")", y.drop(n), 1);
    }
  }

  @Says(at = "Terms", text = "a member of level 0 for each dimension, and a MEASURE.")
  static void terms1_aFactHasAMemberForEachDimension() {
    CubeDesk none = new CubeDesk();
    due("fact(3) without dimensions", none.fact(3), 0);
    due("group(0, 0) without dimensions", none.group(0, 0), 0);
    CubeDesk four = desk(8, 8, 8, 8);
    due("fact(3)", factAt(four, 3, 7, 0, 7, 1), 0);
    due("group(0, 0)", four.group(0, 0), 7071);
    for (int d = 0; d < 4; d++) four.pick(d, 3);
    due("group(0, 0), whatever the picks are now", four.group(0, 0), 7071);
    due("drop(0)", four.drop(0), 3);
  }

  @Says(at = "Terms", text = "A dimension can come, or get a level, only while there are no facts at all.")
  static void terms1_noDimensionAndNoLevelComesBehindAFact() {
    CubeDesk x = desk(2);
    due("fact(2000), refused", x.fact(2000), OUTSIDE);
    due("dimension(2), a refused fact is none", x.dimension(2), 1);
    due("level(0, 2), a refused fact is none", x.level(0, 2), 1);
    x.fact(0);
    due("dimension(2) with a fact", x.dimension(2), STATE);
    due("level(0, 2) with a fact", x.level(0, 2), STATE);
    due("level(1, 2) with a fact", x.level(1, 2), STATE);
    x.drop(0);
    due("dimension(2) with a fact that went", x.dimension(2), STATE);
    due("level(1, 2) with a fact that went", x.level(1, 2), STATE);
    due("count(0)", x.count(0), 2);
    due("cuboids()", x.cuboids(), 6);
  }

  // ======== 2 cuboids

  @Says(at = "Terms", text = "A CUBOID is a level for each dimension.")
  static void terms2_thereAreFrom1To256Cuboids() {
    due("cuboids() without dimensions", new CubeDesk().cuboids(), 1);
    CubeDesk x = tallDesk(3, 3, 3, 3);
    due("cuboids() of four times four levels", x.cuboids(), 256);
    due("size(255)", x.size(255), 0);
    due("size(256)", x.size(256), OUTSIDE);
    for (int d = 0; d < 4; d++) due("levelOf(255, " + d + ")", x.levelOf(255, d), 3);
  }

  @Says(at = "Terms", text = "Its NUMBER: that of the first dimension's level, times how many levels (with ALL) the second one has, and its level, and so on.")
  static void terms2_theNumberOfACuboid() {
    CubeDesk x = tallDesk(1, 3, 2, 1);
    int number = 0;
    for (int a = 0; a < 2; a++) {
      for (int b = 0; b < 4; b++) {
        for (int c = 0; c < 3; c++) {
          for (int d = 0; d < 2; d++, number++) {
            int levels = x.levelOf(number, 0) * 1000 + x.levelOf(number, 1) * 100 + x.levelOf(number, 2) * 10 + x.levelOf(number, 3);
            due("the levels of " + number, levels, a * 1000 + b * 100 + c * 10 + d);
          }
        }
      }
    }
    due("cuboids()", x.cuboids(), number);
  }

  @Says(at = "Terms", text = "(So number 0 has level 0 everywhere; without dimensions there is number 0 alone.)")
  static void terms2_number0HasLevel0Everywhere() {
    CubeDesk x = tallDesk(3, 1, 2, 3);
    for (int d = 0; d < 4; d++) due("levelOf(0, " + d + ")", x.levelOf(0, d), 0);
    CubeDesk none = new CubeDesk();
    due("cuboids() without dimensions", none.cuboids(), 1);
    due("size(0) without dimensions", none.size(0), 0);
    due("size(1) without dimensions", none.size(1), OUTSIDE);
    due("size(-1) without dimensions", none.size(-1), OUTSIDE);
    due("kept(0) without dimensions", none.kept(0), 1);
    due("levelOf(0, 0) without dimensions", none.levelOf(0, 0), OUTSIDE);
  }

  @Says(at = "Terms", text = "A GROUP of a cuboid is a member of its level for each dimension; it is THERE if a fact that is there (came, and did not go) lies in it: each of its members lies in the group's at that level.")
  static void terms2_aGroupIsThereFromItsFirstFactToItsLast() {
    CubeDesk x = emptyDesk();
    due("group(2, 0) without facts", x.group(2, 0), NONE);
    factAt(x, 1, 2, 0);
    due("group(2, 0) with the first fact", x.group(2, 0), 10);
    factAt(x, 1, 3, 0);
    due("group(2, 1) with a second one in the same", x.group(2, 1), NONE);
    x.drop(0);
    due("group(2, 0) with the last one", x.group(2, 0), 10);
    x.drop(1);
    due("group(2, 0) with none", x.group(2, 0), NONE);
    factAt(x, 1, 2, 1);
    due("group(2, 0), each of its members", x.group(2, 0), 11);
    x.pick(0, 1);
    x.pick(1, 0);
    due("ask(2, 0), the first member alone lies in it", x.ask(2, 0), NONE);
    x.pick(0, 0);
    x.pick(1, 1);
    due("ask(2, 0), the second member alone lies in it", x.ask(2, 0), NONE);
    x.parent(0, 0, 2, 0);
    due("ask(2, 0), where it hangs now", x.ask(2, 0), 1);
  }

  @Says(at = "Terms", text = "The SIZE of a cuboid: how many of its groups are there.")
  static void terms2_sizesFrom0ToTheLargest() {
    CubeDesk empty = emptyDesk();
    for (int c = 0; c < 6; c++) due("size(" + c + ") without facts", empty.size(c), 0);
    empty.fact(1);
    empty.fact(1);
    for (int c = 0; c < 6; c++) due("size(" + c + ") with two facts in one cell", empty.size(c), 1);
    CubeDesk large = largeDesk();
    int[] sizes = {200, 25, 40, 5, 40, 5, 8, 1};
    for (int c = 0; c < 8; c++) due("size(" + c + ") of the large desk", large.size(c), sizes[c]);
    CubeDesk corners = desk(8, 8, 8, 8);
    factAt(corners, 1, 0, 0, 0, 0);
    factAt(corners, 1, 7, 7, 7, 7);
    factAt(corners, 1, 0, 7, 0, 7);
    due("size(0) of corners", corners.size(0), 3);
    due("size(14), the last dimension alone", corners.size(14), 2);
    due("size(15) of corners", corners.size(15), 1);
  }

  @Says(at = "Terms", text = "One SERVES another one (or itself) if its level is nowhere above the other's.")
  static void terms2_oneAboveInAnyDimensionServesNot() {
    CubeDesk x = tallDesk(3, 3, 3);
    for (int c = 0; c < 64; c++) due("serves(" + c + ", itself)", x.serves(c, c), 1);
    due("serves(0, 63)", x.serves(0, 63), 1);
    due("serves(63, 0)", x.serves(63, 0), 0);
    due("serves(16, 15), levels 1 0 0 and 0 3 3", x.serves(16, 15), 0);
    due("serves(4, 51), levels 0 1 0 and 3 0 3", x.serves(4, 51), 0);
    due("serves(1, 60), levels 0 0 1 and 3 3 0", x.serves(1, 60), 0);
    due("serves(21, 42), levels 1 1 1 and 2 2 2", x.serves(21, 42), 1);
    due("serves(21, 38), levels 1 1 1 and 2 1 2", x.serves(21, 38), 1);
    due("serves(42, 41), levels 2 2 2 and 2 2 1", x.serves(42, 41), 0);
  }

  // ======== 3 kept

  @Says(at = "Terms", text = "KEPT is cuboid 0 always, and what choose() and keep() say.")
  static void terms3_cuboid0IsAlwaysKept() {
    CubeDesk x = new CubeDesk();
    due("kept(0) of a new desk", x.kept(0), 1);
    x.dimension(4);
    due("kept(0) with a dimension", x.kept(0), 1);
    x.level(0, 2);
    due("kept(0) with a level", x.kept(0), 1);
    due("kept(1), not said", x.kept(1), 0);
    x.keep(0, false);
    due("kept(0) after keep(0, false)", x.kept(0), 1);
    x.fact(1);
    factAt(x, 1, 1);
    x.choose(0);
    due("kept(0) after choose(0)", x.kept(0), 1);
    x.choose(1);
    due("kept(0) after choose(1)", x.kept(0), 1);
    due("kept(1) after choose(1)", x.kept(1), 1);
    x.keep(2, true);
    due("kept(2) after keep", x.kept(2), 1);
    due("count(3)", x.count(3), 3);
  }

  @Says(at = "Terms", text = "The COST of a cuboid: the least SIZE of those kept that serve it;")
  static void terms3_costFromThoseKeptThatServe() {
    CubeDesk x = smallDesk();
    due("cost(5), from cuboid 0 alone", x.cost(5), 4);
    x.keep(5, true);
    due("cost(5), its own size", x.cost(5), 1);
    due("cost(4), which 5 does not serve", x.cost(4), 4);
    x.keep(3, true);
    due("cost(4), which 3 does not serve", x.cost(4), 4);
    due("cost(3)", x.cost(3), 2);
    due("cost(0), which cuboid 0 alone serves", x.cost(0), 4);
    for (int f = 0; f < 5; f++) x.drop(f);
    for (int c = 0; c < 6; c++) due("cost(" + c + ") with all facts gone", x.cost(c), 0);
  }

  @Says(at = "Terms", text = "its SERVER is that one, of several the one with the least number.")
  static void terms3_serverIsTheLeastNumberOfSeveral() {
    CubeDesk x = smallDesk();
    x.keep(4, true);
    due("server(5), the only smaller one", x.server(5), 4);
    x.keep(2, true);
    due("server(5), the least of two of size 3", x.server(5), 2);
    due("server(4), the least of two of size 3", x.server(4), 2);
    x.keep(1, true);
    due("server(1), the least of two of size 4", x.server(1), 0);
    x.keep(3, true);
    due("server(5), a smaller one with a greater number", x.server(5), 3);
    for (int f = 0; f < 5; f++) x.drop(f);
    for (int c = 0; c < 6; c++) due("server(" + c + ") where all sizes are 0", x.server(c), 0);
  }

  @Says(at = "Terms", text = "The GAIN of a cuboid that is not kept: over all that it serves the sum of how much their COST is above its SIZE (where it is).")
  static void terms3_gainOnlyWhereTheCostIsAbove() {
    CubeDesk x = smallDesk();
    due("gain(1), as large as cuboid 0", x.gain(1), 0);
    due("gain(5), which serves itself alone", x.gain(5), 3);
    due("gain(2), which serves four", x.gain(2), 4);
    x.keep(5, true);
    due("gain(2), the cost of 5 being below its size", x.gain(2), 3);
    due("gain(3), the cost of 5 being below its size", x.gain(3), 2);
    x.keep(4, true);
    due("gain(2), the cost of 4 being as large", x.gain(2), 2);
    due("gain(3), which does not serve 4", x.gain(3), 2);
  }

  @Says(at = "Terms", text = "Of some cuboids together: the sum over all cuboids of how much their COST, with cuboid 0 alone kept, is above that with these kept too.")
  static void terms3_gainTogetherIsFromCuboid0Alone() {
    CubeDesk x = smallDesk();
    due("choose(2), 2 and 3 together", x.choose(2), 6);
    due("choose(2) again, from cuboid 0 alone", x.choose(2), 6);
    x.keep(5, true);
    due("best(2), from cuboid 0 alone", x.best(2), 6);
    due("choose(3), 2, 3 and 5 together", x.choose(3), 7);
    due("best(3)", x.best(3), 7);
    due("choose(0), of none", x.choose(0), 0);
    due("best(0), of none", x.best(0), 0);
  }

  // ======== 4 in hand

  @Says(at = "Terms", text = "IN HAND are PICKS, a member for each dimension 0 .. 3 (0 at first),")
  static void terms4_picksAre0AtFirst() {
    CubeDesk x = new CubeDesk();
    for (int d = 0; d < 4; d++) due("pick(" + d + ", 5) at first", x.pick(d, 5), 0);
    for (int d = 0; d < 4; d++) due("pick(" + d + ", 0) of its own", x.pick(d, 0), 5);
    due("pick(4, 0)", x.pick(4, 0), OUTSIDE);
    CubeDesk y = desk(8, 8, 8, 8);
    y.fact(1);
    due("group(0, 0) of a fact at first", y.group(0, 0), 0);
  }

  @Says(at = "Terms", text = "and FILTERS, for each dimension a level and a member of it (ALL and 0 at first, that is all facts; again so of a dimension that gets a level).")
  static void terms4_filtersAreAllAtFirstAndAgainWithALevel() {
    CubeDesk x = desk(3, 3);
    factAt(x, 1, 0, 0);
    factAt(x, 2, 2, 2);
    due("total(1) at first", x.total(1), 3);
    CubeDesk y = desk(3, 3);
    y.filter(0, 0, 1);
    y.filter(1, 0, 1);
    y.level(0, 2);
    factAt(y, 1, 0, 1);
    factAt(y, 2, 2, 1);
    factAt(y, 4, 1, 0);
    due("total(1), the first filter at ALL again, the second as it was", y.total(1), 3);
    CubeDesk z = desk(3, 3);
    z.filter(0, 0, 1);
    z.filter(1, 0, 1);
    z.level(1, 2);
    z.level(1, 1);
    factAt(z, 1, 1, 0);
    factAt(z, 2, 1, 2);
    factAt(z, 4, 0, 1);
    due("total(1), the second filter at ALL again, the first as it was", z.total(1), 3);
    CubeDesk w = desk(3);
    w.filter(0, 0, 1);
    w.dimension(2);
    factAt(w, 1, 1, 1);
    factAt(w, 2, 0, 0);
    due("total(1), the filter as it was when a dimension came", w.total(1), 1);
  }

  @Says(at = "Terms", text = "A fact PASSES if it lies, in each dimension, in the member of its filter.")
  static void terms4_aFactPassesInEachDimension() {
    CubeDesk x = smallDesk();
    x.filter(0, 1, 0);
    due("total(0), level 1 of the first", x.total(0), 3);
    x.filter(1, 0, 1);
    due("total(0), which pass in one dimension alone", x.total(0), 0);
    x.filter(0, 1, 1);
    due("total(0), which pass in both", x.total(0), 1);
    x.filter(0, 0, 3);
    due("total(0), level 0 of both", x.total(0), 0);
    x.filter(1, 1, 0);
    due("total(1), ALL of the second", x.total(1), 10);
    CubeDesk none = new CubeDesk();
    none.fact(4);
    due("total(1) without dimensions", none.total(1), 4);
  }

  @Says(at = "Terms", text = "VALUES of a row of facts: 0 how many, 1 the sum of their measures, 2 the least, 3 the greatest one.")
  static void terms4_valuesOfOneOfManyAndOfTheGreatest() {
    CubeDesk one = new CubeDesk();
    one.fact(-4);
    int[] ofOne = {1, -4, -4, -4};
    for (int v = 0; v < 4; v++) due("total(" + v + ") of one", one.total(v), ofOne[v]);
    one.fact(0);
    int[] ofTwo = {2, -4, -4, 0};
    for (int v = 0; v < 4; v++) due("total(" + v + ") of two", one.total(v), ofTwo[v]);
    one.drop(0);
    int[] ofZero = {1, 0, 0, 0};
    for (int v = 0; v < 4; v++) due("total(" + v + ") of one with 0", one.total(v), ofZero[v]);
    CubeDesk most = new CubeDesk();
    for (int n = 0; n < 300; n++) most.fact(1000);
    int[] ofMost = {300, 300000, 1000, 1000};
    for (int v = 0; v < 4; v++) due("total(" + v + ") of 300", most.total(v), ofMost[v]);
    for (int v = 0; v < 4; v++) due("ask(0, " + v + ") of 300", most.ask(0, v), ofMost[v]);
    CubeDesk least = new CubeDesk();
    for (int n = 0; n < 300; n++) least.fact(-1000);
    int[] ofLeast = {300, -300000, -1000, -1000};
    for (int v = 0; v < 4; v++) due("total(" + v + ") of 300", least.total(v), ofLeast[v]);
  }
}
