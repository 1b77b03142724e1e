// The sentences of promises 21 to 28: what is asked, filters, tables and counts.
public final class BoundaryAskedTest extends Boundary {
  public static void main(String[] args) throws Exception {
    run(BoundaryAskedTest.class);
  }

  private static void pick(CubeDesk x, int... members) {
    for (int d = 0; d < members.length; d++) x.pick(d, members[d]);
  }

  // ======== promise 21

  @Says(at = "Promise 21", text = "A value (0 .. 3) of the facts that are there in a group of a cuboid, its members being PICKS.")
  static void promise21_fromTheFinestToTheWholeGroup() {
    CubeDesk x = smallDesk();
    pick(x, 0, 0);
    int[] finest = {2, 7, 2, 5}, middle = {3, 14, 2, 7}, whole = {5, 21, -3, 10};
    for (int v = 0; v < 4; v++) {
      due("ask(0, " + v + ")", x.ask(0, v), finest[v]);
      due("ask(2, " + v + ")", x.ask(2, v), middle[v]);
      due("ask(5, " + v + ")", x.ask(5, v), whole[v]);
    }
    x.drop(2);
    x.drop(3);
    int[] rest = {3, 14, 2, 7};
    for (int v = 0; v < 4; v++) due("ask(5, " + v + ") of those that are there", x.ask(5, v), rest[v]);
    x.filter(0, 0, 3);
    due("ask(5, 1) whatever the filters", x.ask(5, 1), 14);
  }

  @Says(at = "Promise 21", text = "A value (0 .. 3) of the facts that are there in a group of a cuboid, its members being PICKS.")
  static void promise21_theLastMembers() {
    CubeDesk x = desk(8, 8, 8, 8);
    factAt(x, 9, 7, 7, 7, 7);
    due("ask(0, 1) at the last members", x.ask(0, 1), 9);
    CubeDesk none = new CubeDesk();
    none.fact(-8);
    none.fact(8);
    int[] values = {2, 0, -8, 8};
    for (int v = 0; v < 4; v++) due("ask(0, " + v + ") without dimensions", none.ask(0, v), values[v]);
  }

  @Says(at = "Promise 21", text = "OUTSIDE: cuboid, value, or a pick of a dimension that there is is no member of its level;")
  static void promise21_outsideCuboidValue() {
    CubeDesk x = smallDesk();
    pick(x, 0, 0);
    dueAll("ask(#, 0)", beside(0, 5), c -> x.ask(c, 0), OUTSIDE);
    dueAll("ask(0, #)", beside(0, 3), v -> x.ask(0, v), OUTSIDE);
    due("ask(1, 0) without dimensions", new CubeDesk().ask(1, 0), OUTSIDE);
    due("read(), as it was", x.read(), 0);
  }

  @Says(at = "Promise 21", text = "OUTSIDE: cuboid, value, or a pick of a dimension that there is is no member of its level;")
  static void promise21_outsideAPickIsNoMemberOfItsLevel() {
    CubeDesk x = smallDesk();
    pick(x, 1, 0, 7, 7);
    due("ask(2, 1), pick 1 of 2", x.ask(2, 1), NONE);
    due("ask(4, 1), pick 1 of ALL", x.ask(4, 1), OUTSIDE);
    due("ask(0, 1), pick 1 of 4", x.ask(0, 1), 7);
    pick(x, 2, 0);
    due("ask(2, 1), pick 2 of 2", x.ask(2, 1), OUTSIDE);
    due("ask(0, 1), pick 2 of 4", x.ask(0, 1), NONE);
    pick(x, 4, 0);
    due("ask(0, 1), pick 4 of 4", x.ask(0, 1), OUTSIDE);
    pick(x, 0, 2);
    due("ask(0, 1), pick 2 of 3", x.ask(0, 1), NONE);
    due("ask(1, 1), pick 2 of ALL", x.ask(1, 1), OUTSIDE);
    pick(x, 0, 3);
    due("ask(0, 1), pick 3 of 3", x.ask(0, 1), OUTSIDE);
    pick(x, 0, 1);
    due("ask(5, 1), pick 1 of ALL", x.ask(5, 1), OUTSIDE);
    pick(x, 0, 0);
    due("ask(5, 1), whatever the picks of no dimension", x.ask(5, 1), 21);
  }

  @Says(at = "Promise 21", text = "NONE: the group is not there.")
  static void promise21_noneTheGroupIsNotThere() {
    CubeDesk x = smallDesk();
    pick(x, 1, 1);
    for (int v = 0; v < 4; v++) due("ask(0, " + v + ") of no facts", x.ask(0, v), NONE);
    pick(x, 2, 1);
    due("ask(0, 0) of one", x.ask(0, 0), 1);
    x.drop(2);
    for (int v = 0; v < 4; v++) due("ask(0, " + v + ") of one that went", x.ask(0, v), NONE);
    CubeDesk empty = emptyDesk();
    for (int c = 0; c < 6; c++) due("ask(" + c + ", 0) without facts", empty.ask(c, 0), NONE);
    due("ask(0, 1) of a new desk", new CubeDesk().ask(0, 1), NONE);
  }

  @Says(at = "Promise 21", text = "If it answers a value (or NONE), the SIZE of the cuboid's SERVER is added to what was READ.")
  static void promise21_theServersSizeIsAddedToRead() {
    CubeDesk x = smallDesk();
    pick(x, 0, 0);
    x.ask(5, 0);
    due("read() from cuboid 0", x.read(), 4);
    x.keep(3, true);
    x.ask(5, 1);
    due("read() from 3", x.read(), 6);
    x.keep(5, true);
    x.ask(5, 2);
    due("read() from 5 itself", x.read(), 7);
    x.ask(4, 3);
    due("read() from cuboid 0, 5 does not serve it", x.read(), 11);
    pick(x, 1, 2);
    due("ask(2, 0)", x.ask(2, 0), 1);
    due("read() with a value", x.read(), 15);
    pick(x, 0, 2);
    due("ask(2, 0)", x.ask(2, 0), NONE);
    due("read() with NONE", x.read(), 19);
    due("ask(5, 0)", x.ask(5, 0), OUTSIDE);
    due("read() with OUTSIDE", x.read(), 19);
    for (int f = 0; f < 5; f++) x.drop(f);
    due("ask(0, 0)", x.ask(0, 0), NONE);
    due("read() where the size is 0", x.read(), 19);
  }

  // ======== promise 22

  @Says(at = "Promise 22", text = "Group k of a cuboid, of those that are there, by the members of the first dimension, then the second, ..:")
  static void promise22_inTheOrderOfTheirMembers() {
    CubeDesk x = desk(8, 8);
    int[][] cells = {{7, 7}, {0, 7}, {7, 0}, {0, 0}, {3, 5}, {5, 3}};
    for (int[] cell : cells) factAt(x, 1, cell);
    int[] byFirst = {0, 7, 35, 53, 70, 77};
    for (int k = 0; k < 6; k++) due("group(0, " + k + ")", x.group(0, k), byFirst[k]);
    int[] second = {0, 3, 5, 7, NONE};
    for (int k = 0; k < 5; k++) due("group(2, " + k + "), the second dimension alone", x.group(2, k), second[k]);
    x.drop(3);
    due("group(0, 0), the first one gone", x.group(0, 0), 7);
    due("group(0, 4), the last one", x.group(0, 4), 77);
    due("group(0, 5)", x.group(0, 5), NONE);
  }

  @Says(at = "Promise 22", text = "told as a number whose decimal digits are its members, the first dimension's highest (0 without dimensions).")
  static void promise22_decimalDigits() {
    CubeDesk x = desk(8, 8, 8, 8);
    factAt(x, 1, 7, 7, 7, 7);
    factAt(x, 1, 0, 0, 0, 1);
    factAt(x, 1, 1, 0, 0, 0);
    due("group(0, 0), the last dimension's lowest", x.group(0, 0), 1);
    due("group(0, 1), the first dimension's highest", x.group(0, 1), 1000);
    due("group(0, 2), the greatest", x.group(0, 2), 7777);
    due("group(1, 2), 0 for ALL of the last", x.group(1, 2), 7770);
    due("group(8, 2), 0 for ALL of the first", x.group(8, 2), 777);
    due("group(15, 0), ALL everywhere", x.group(15, 0), 0);
    CubeDesk none = new CubeDesk();
    none.fact(1);
    due("group(0, 0) without dimensions", none.group(0, 0), 0);
    due("group(0, 1) without dimensions", none.group(0, 1), NONE);
  }

  @Says(at = "Promise 22", text = "OUTSIDE: cuboid, k is below 0;")
  static void promise22_outsideCuboidKIsBelow0() {
    CubeDesk x = smallDesk();
    dueAll("group(#, 0)", beside(0, 5), c -> x.group(c, 0), OUTSIDE);
    for (int k : new int[] {-1, -2, -64, -4096, -65536, Integer.MIN_VALUE + 1, Integer.MIN_VALUE}) {
      due("group(0, " + k + ")", x.group(0, k), OUTSIDE);
    }
    due("group(0, -1) without facts", emptyDesk().group(0, -1), OUTSIDE);
  }

  @Says(at = "Promise 22", text = "NONE: there are not so many.")
  static void promise22_noneThereAreNotSoMany() {
    CubeDesk x = smallDesk();
    int[] sizes = {4, 4, 3, 2, 3, 1};
    int[] last = {32, 30, 12, 10, 2, 0};
    for (int c = 0; c < 6; c++) {
      due("group(" + c + ", the last)", x.group(c, sizes[c] - 1), last[c]);
      due("group(" + c + ", one more)", x.group(c, sizes[c]), NONE);
      due("group(" + c + ", MAX)", x.group(c, Integer.MAX_VALUE), NONE);
    }
    due("group(0, 4096)", x.group(0, 4096), NONE);
    due("group(0, 65536)", x.group(0, 65536), NONE);
    due("group(0, 0) without facts", emptyDesk().group(0, 0), NONE);
    due("group(0, 0) of a new desk", new CubeDesk().group(0, 0), NONE);
    CubeDesk large = largeDesk();
    due("group(0, 199) of 200", large.group(0, 199), 447);
    due("group(0, 200) of 200", large.group(0, 200), NONE);
  }

  // ======== promise 23

  @Says(at = "Promise 23", text = "What was READ in all.")
  static void promise23_from0On() {
    CubeDesk x = smallDesk();
    pick(x, 0, 0);
    due("read() at first", x.read(), 0);
    due("read() again", x.read(), 0);
    x.ask(0, 0);
    x.ask(5, 0);
    due("read() of two", x.read(), 8);
    x.size(5);
    x.group(5, 0);
    x.total(0);
    x.table(0, 10, 0);
    x.choose(3);
    x.best(3);
    x.drop(0);
    x.parent(0, 0, 1, 1);
    due("read() whatever else is called", x.read(), 8);
    CubeDesk y = emptyDesk();
    y.ask(0, 0);
    y.dimension(2);
    y.level(1, 1);
    due("read() without facts", y.read(), 0);
  }

  @Says(at = "Promise 23", text = "What was READ in all.")
  static void promise23_aLargeSum() {
    CubeDesk x = largeDesk();
    pick(x, 0, 0, 0);
    for (int n = 1; n <= 60; n++) due("ask(7, 0)", x.ask(7, 0), 200);
    due("read() of 60 times 200", x.read(), 12000);
  }

  // ======== promise 24

  @Says(at = "Promise 24", text = "The filter of a dimension is a member of a level: 0.")
  static void promise24_fromLevel0ToAll() {
    CubeDesk x = smallDesk();
    due("filter(0, 0, 0), the first of level 0", x.filter(0, 0, 0), 0);
    due("total(1)", x.total(1), 7);
    due("filter(0, 0, 3), the last of level 0", x.filter(0, 0, 3), 0);
    due("total(1)", x.total(1), 10);
    due("filter(0, 1, 0), the first of level 1", x.filter(0, 1, 0), 0);
    due("total(1)", x.total(1), 14);
    due("filter(0, 1, 1), the last of level 1", x.filter(0, 1, 1), 0);
    due("total(1)", x.total(1), 7);
    due("filter(0, 2, 0), ALL", x.filter(0, 2, 0), 0);
    due("total(1)", x.total(1), 21);
    due("filter(1, 0, 2), of the other one", x.filter(1, 0, 2), 0);
    due("total(1)", x.total(1), 10);
    due("filter(1, 0, 2) again", x.filter(1, 0, 2), 0);
    x.filter(1, 1, 0);
    x.filter(0, 1, 0);
    x.parent(0, 0, 3, 0);
    due("total(1), with what hangs in it now", x.total(1), 24);
  }

  @Says(at = "Promise 24", text = "OUTSIDE.")
  static void promise24_outside() {
    CubeDesk x = smallDesk();
    x.filter(0, 0, 2);
    dueAll("filter(#, 0, 0)", beside(0, 1), d -> x.filter(d, 0, 0), OUTSIDE);
    dueAll("filter(0, #, 0)", beside(0, 2), l -> x.filter(0, l, 0), OUTSIDE);
    dueAll("filter(1, #, 0)", beside(0, 1), l -> x.filter(1, l, 0), OUTSIDE);
    dueAll("filter(0, 0, #)", beside(0, 3), m -> x.filter(0, 0, m), OUTSIDE);
    dueAll("filter(0, 1, #)", beside(0, 1), m -> x.filter(0, 1, m), OUTSIDE);
    dueAll("filter(0, 2, #), ALL", beside(0, 0), m -> x.filter(0, 2, m), OUTSIDE);
    dueAll("filter(1, 0, #)", beside(0, 2), m -> x.filter(1, 0, m), OUTSIDE);
    due("total(1), the filter as it was", x.total(1), -3);
    due("filter(0, 0, 0) without dimensions", new CubeDesk().filter(0, 0, 0), OUTSIDE);
  }

  // ======== promise 25

  @Says(at = "Promise 25", text = "A value of all facts that are there and pass.")
  static void promise25_ofAllOfOneAndOfThoseThatPass() {
    CubeDesk x = smallDesk();
    int[] all = {5, 21, -3, 10}, some = {2, 7, 2, 5}, one = {1, 2, 2, 2};
    for (int v = 0; v < 4; v++) due("total(" + v + ") of all", x.total(v), all[v]);
    x.filter(0, 0, 0);
    for (int v = 0; v < 4; v++) due("total(" + v + ") of those that pass", x.total(v), some[v]);
    x.drop(0);
    for (int v = 0; v < 4; v++) due("total(" + v + ") of one that is there", x.total(v), one[v]);
    pick(x, 7, 7);
    due("total(1) whatever the picks", x.total(1), 2);
  }

  @Says(at = "Promise 25", text = "OUTSIDE;")
  static void promise25_outside() {
    CubeDesk x = smallDesk();
    dueAll("total(#)", beside(0, 3), x::total, OUTSIDE);
    dueAll("total(#) without facts", beside(0, 3), new CubeDesk()::total, OUTSIDE);
  }

  @Says(at = "Promise 25", text = "NONE: none does (of value 0 and 1 that is 0 instead).")
  static void promise25_noneNoneDoes() {
    int[] none = {0, 0, NONE, NONE};
    CubeDesk fresh = new CubeDesk();
    for (int v = 0; v < 4; v++) due("total(" + v + ") of a new desk", fresh.total(v), none[v]);
    CubeDesk x = smallDesk();
    x.filter(0, 0, 1);
    x.filter(1, 0, 1);
    for (int v = 0; v < 4; v++) due("total(" + v + ") of none that passes", x.total(v), none[v]);
    x.filter(0, 2, 0);
    due("total(3) of one that passes", x.total(3), -3);
    x.drop(2);
    for (int v = 0; v < 4; v++) due("total(" + v + ") of none that is there", x.total(v), none[v]);
    CubeDesk zero = desk(1);
    zero.fact(0);
    int[] zeros = {1, 0, 0, 0};
    for (int v = 0; v < 4; v++) due("total(" + v + ") of one with measure 0", zero.total(v), zeros[v]);
  }

  // ======== promise 26

  @Says(at = "Promise 26", text = "OUT becomes a table of a value of the facts that are there and pass:")
  static void promise26_ofThoseThatAreThereAndPass() {
    CubeDesk x = smallDesk();
    dueOut("table(1, 10, 0)", x, x.table(1, 10, 0), "3 . . 3\n. 1 1 2\n3 1 1 5\n");
    dueOut("table(1, 10, 1)", x, x.table(1, 10, 1), "14 . . 14\n. -3 10 7\n14 -3 10 21\n");
    dueOut("table(1, 10, 2)", x, x.table(1, 10, 2), "2 . . 2\n. -3 10 -3\n2 -3 10 -3\n");
    dueOut("table(1, 10, 3)", x, x.table(1, 10, 3), "7 . . 7\n. -3 10 10\n7 -3 10 10\n");
    x.drop(1);
    dueOut("table(1, 10, 1), one gone", x, x.table(1, 10, 1), "7 . . 7\n. -3 10 7\n7 -3 10 14\n");
    x.filter(1, 0, 2);
    dueOut("table(1, 10, 1), filtered", x, x.table(1, 10, 1), ". . . .\n. . 10 10\n. . 10 10\n");
    x.filter(0, 1, 0);
    dueOut("table(1, 10, 1), none passes", x, x.table(1, 10, 1), ". . . .\n. . . .\n. . . .\n");
  }

  @Says(at = "Promise 26", text = "a line for each member of a level of one dimension, in it a cell for each member of a level of another one (or the same one),")
  static void promise26_linesAndCellsForEachMember() {
    CubeDesk x = smallDesk();
    dueOut("table(0, 10, 1)", x, x.table(0, 10, 1), "7 . . 7\n7 . . 7\n. -3 . -3\n. . 10 10\n14 -3 10 21\n");
    dueOut("table(10, 0, 1)", x, x.table(10, 0, 1), "7 7 . . 14\n. . -3 . -3\n. . . 10 10\n7 7 -3 10 21\n");
    dueOut("table(0, 1, 1), the same dimension", x, x.table(0, 1, 1), "7 . 7\n7 . 7\n. -3 -3\n. 10 10\n14 7 21\n");
    dueOut("table(1, 0, 1), the same dimension", x, x.table(1, 0, 1), "7 7 . . 14\n. . -3 10 7\n7 7 -3 10 21\n");
    dueOut("table(1, 1, 1), the same level", x, x.table(1, 1, 1), "14 . 14\n. 7 7\n14 7 21\n");
  }

  @Says(at = "Promise 26", text = "and one for the whole line behind these; at last a line for whole columns, with one for all.")
  static void promise26_totalsFromTheSmallestToTheLargest() {
    CubeDesk x = smallDesk();
    dueOut("table(2, 11, 1), ALL and ALL", x, x.table(2, 11, 1), "21 21\n21 21\n");
    dueOut("table(2, 2, 0), ALL and ALL", x, x.table(2, 2, 0), "5 5\n5 5\n");
    CubeDesk one = desk(1);
    dueOut("table(0, 0, 0) of one member without facts", one, one.table(0, 0, 0), ". .\n. .\n");
    CubeDesk diagonal = desk(8, 8);
    StringBuilder lines = new StringBuilder();
    for (int m = 0; m < 8; m++) {
      factAt(diagonal, -m, m, m);
      lines.append(". ".repeat(m)).append(-m).append(" .".repeat(7 - m)).append(" ").append(-m).append("\n");
    }
    lines.append("0 -1 -2 -3 -4 -5 -6 -7 -28\n");
    dueOut("table(0, 10, 1) of 8 and 8", diagonal, diagonal.table(0, 10, 1), lines.toString());
  }

  @Says(at = "Promise 26", text = "and one for the whole line behind these; at last a line for whole columns, with one for all.")
  static void promise26_theWidestTable() {
    CubeDesk x = desk(8, 8);
    for (int m = 0; m < 64; m++) factAt(x, -1000, m / 8, m % 8);
    String line = line("-1000", 8, "-8000"), last = line("-8000", 8, "-64000");
    int start = 8 * line.length();
    due("table(0, 10, 1) with a fact in each cell", x.table(0, 10, 1), start + last.length());
    for (int i = 0; i < line.length(); i++) due("out(" + i + "), the first line", x.out(i), line.charAt(i));
    for (int i = 0; i < last.length(); i++) due("out(" + (start + i) + "), the last line", x.out(start + i), last.charAt(i));
    due("out behind its end", x.out(start + last.length()), NONE);
  }

  @Says(at = "Promise 26", text = "A cell: its value as decimal digits, - ahead if it is below 0;")
  static void promise26_decimalDigitsOfEachLength() {
    CubeDesk x = desk(1);
    int[] measures = {0, 1, 8, 1, 89, 1, 899, 1, -1000, -1, 2, -10, -89, -1, -900, -1};
    int sum = 0;
    for (int m : measures) {
      x.fact(m);
      sum += m;
      dueOut("table(0, 0, 1) of " + sum, x, x.table(0, 0, 1), (sum + " " + sum + "\n").repeat(2));
    }
    CubeDesk least = desk(1);
    for (int n = 0; n < 300; n++) least.fact(-1000);
    dueOut("table(0, 0, 1) of the least sum", least, least.table(0, 0, 1), "-300000 -300000\n".repeat(2));
    dueOut("table(0, 0, 0) of the most facts", least, least.table(0, 0, 0), "300 300\n".repeat(2));
    dueOut("table(0, 0, 2) of the least measure", least, least.table(0, 0, 2), "-1000 -1000\n".repeat(2));
    CubeDesk most = desk(1);
    for (int n = 0; n < 300; n++) most.fact(1000);
    dueOut("table(0, 0, 1) of the greatest sum", most, most.table(0, 0, 1), "300000 300000\n".repeat(2));
    dueOut("table(0, 0, 3) of the greatest measure", most, most.table(0, 0, 3), "1000 1000\n".repeat(2));
  }

  @Says(at = "Promise 26", text = "a byte 46 where no fact lies.")
  static void promise26_byte46WhereNoFactLies() {
    CubeDesk x = desk(2, 2);
    for (int v = 0; v < 4; v++) dueOut("table(0, 10, " + v + ") without facts", x, x.table(0, 10, v), ". . .\n. . .\n. . .\n");
    factAt(x, 0, 1, 0);
    dueOut("table(0, 10, 0) of one", x, x.table(0, 10, 0), ". . .\n1 . 1\n1 . 1\n");
    for (int v = 1; v < 4; v++) dueOut("table(0, 10, " + v + ") of 0", x, x.table(0, 10, v), ". . .\n0 . 0\n0 . 0\n");
    factAt(x, 5, 0, 1);
    factAt(x, -5, 0, 1);
    dueOut("table(0, 10, 1) of a sum 0", x, x.table(0, 10, 1), ". 0 0\n0 . 0\n0 0 0\n");
    x.drop(0);
    dueOut("table(0, 10, 1), one gone", x, x.table(0, 10, 1), ". 0 0\n. . .\n. 0 0\n");
  }

  @Says(at = "Promise 26", text = "Cells are parted by a byte 32, each line ends with a byte 10. How many bytes.")
  static void promise26_byte32Byte10AndHowMany() {
    CubeDesk x = desk(2);
    factAt(x, -7, 1);
    due("table(0, 1, 1)", x.table(0, 1, 1), 16);
    due("count(4)", x.count(4), 16);
    int[] bytes = {46, 32, 46, 10, 45, 55, 32, 45, 55, 10, 45, 55, 32, 45, 55, 10};
    for (int i = 0; i < 16; i++) due("out(" + i + ")", x.out(i), bytes[i]);
    due("out(16), behind the last line's end", x.out(16), NONE);
  }

  @Says(at = "Promise 26", text = "OUTSIDE: down, its level, across, its level, value. (Told as: down and across are 10 times the dimension and the level.)")
  static void promise26_outsideDownAcrossLevelsValue() {
    CubeDesk x = smallDesk();
    due("table(1, 10, 1)", x.table(1, 10, 1), 32);
    int[] sides = {3, 4, 9, 12, 13, 19, 20, 21, 30, 40, 100, 256, 65536, 1000000000,
      Integer.MAX_VALUE, -1, -2, -9, -10, -11, -20, -256, -65536, Integer.MIN_VALUE + 8, Integer.MIN_VALUE};
    dueAll("table(#, 0, 0)", sides, s -> x.table(s, 0, 0), OUTSIDE);
    dueAll("table(0, #, 0)", sides, s -> x.table(0, s, 0), OUTSIDE);
    dueAll("table(0, 0, #)", beside(0, 3), v -> x.table(0, 0, v), OUTSIDE);
    due("count(4), as it was", x.count(4), 32);
    due("out(0), as it was", x.out(0), 49);
    int[][] right = {{0, 20}, {1, 12}, {2, 8}, {10, 16}, {11, 8}};
    for (int[] r : right) {
      due("table(" + r[0] + ", 2, 0)", x.table(r[0], 2, 0), r[1]);
      due("table(2, " + r[0] + ", 0)", x.table(2, r[0], 0), r[1]);
    }
    due("table(0, 0, 0) without dimensions", new CubeDesk().table(0, 0, 0), OUTSIDE);
    CubeDesk four = tallDesk(3, 3, 3, 3);
    due("table(33, 33, 3), the last level of the last", four.table(33, 33, 3), 8);
    due("table(34, 33, 3)", four.table(34, 33, 3), OUTSIDE);
    due("table(33, 40, 3)", four.table(33, 40, 3), OUTSIDE);
  }

  // ======== promise 27

  @Says(at = "Promise 27", text = "Byte i of OUT;")
  static void promise27_fromTheFirstToTheLastByte() {
    CubeDesk x = smallDesk();
    int length = x.table(1, 10, 1);
    due("out(0), the first", x.out(0), '1');
    due("out(last)", x.out(length - 1), 10);
    x.drop(0);
    x.filter(0, 0, 3);
    x.keep(2, true);
    due("out(0), whatever comes or goes", x.out(0), '1');
    due("out(last), whatever comes or goes", x.out(length - 1), 10);
    x.table(2, 2, 0);
    due("out(0) of the next table", x.out(0), '1');
    due("out(1) of the next table", x.out(1), 32);
    due("out(7) of the next table", x.out(7), 10);
    due("out(8), of the table before", x.out(8), NONE);
  }

  @Says(at = "Promise 27", text = "NONE.")
  static void promise27_none() {
    CubeDesk x = smallDesk();
    due("out(0) without a table", x.out(0), NONE);
    dueAll("out(#) without a table", beside(0, 0), x::out, NONE);
    x.table(3, 0, 0);
    due("out(0) after a refused table", x.out(0), NONE);
    due("table(2, 2, 0)", x.table(2, 2, 0), 8);
    dueAll("out(#) of 8 bytes", beside(0, 7), x::out, NONE);
    due("out(7)", x.out(7), 10);
  }

  // ======== promise 28

  @Says(at = "Promise 28", text = "What 0 dimensions, 1 facts that came, 2 facts that are there, 3 cuboids that are kept, 4 bytes of OUT, 5 how many groups all kept ones have together.")
  static void promise28_ofANewAndOfAUsedDesk() {
    CubeDesk fresh = new CubeDesk();
    int[] none = {0, 0, 0, 1, 0, 0};
    for (int what = 0; what < 6; what++) due("count(" + what + ") of a new desk", fresh.count(what), none[what]);
    CubeDesk x = smallDesk();
    x.drop(3);
    x.keep(2, true);
    x.keep(5, true);
    x.table(2, 2, 0);
    int[] used = {2, 5, 4, 3, 8, 6};
    for (int what = 0; what < 6; what++) due("count(" + what + ")", x.count(what), used[what]);
    factAt(x, 1, 3, 2);
    due("count(5), which follows a fact that comes", x.count(5), 8);
    x.drop(5);
    due("count(5), which follows a fact that goes", x.count(5), 6);
    for (int f : new int[] {0, 1, 2, 4}) x.drop(f);
    int[] gone = {2, 6, 0, 3, 8, 0};
    for (int what = 0; what < 6; what++) due("count(" + what + ") with all gone", x.count(what), gone[what]);
  }

  @Says(at = "Promise 28", text = "What 0 dimensions, 1 facts that came, 2 facts that are there, 3 cuboids that are kept, 4 bytes of OUT, 5 how many groups all kept ones have together.")
  static void promise28_ofAFullDesk() {
    CubeDesk many = tallDesk(3, 3, 3, 3);
    for (int c = 1; c < 256; c++) many.keep(c, true);
    many.fact(1);
    factAt(many, 1, 1, 1, 1, 1);
    due("count(0), the most", many.count(0), 4);
    due("count(3), the most", many.count(3), 256);
    due("count(5), 175 with a level 0 and 81 without", many.count(5), 175 * 2 + 81);
    CubeDesk crowded = crowdedDesk();
    due("count(1), the most", crowded.count(1), 300);
    due("count(2)", crowded.count(2), 299);
  }

  @Says(at = "Promise 28", text = "OUTSIDE.")
  static void promise28_outside() {
    CubeDesk x = smallDesk();
    dueAll("count(#)", beside(0, 5), x::count, OUTSIDE);
    dueAll("count(#) of a new desk", beside(0, 5), new CubeDesk()::count, OUTSIDE);
  }
}
