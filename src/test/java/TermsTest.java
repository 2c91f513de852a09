/**
 * Each sentence of the document's "What it is" and "Terms" that names a boundary case, on both
 * sides of it where it has two. The answers were worked out by hand.
 */
public final class TermsTest extends Due {

  // ---- what it is ----

  private static void calls() {
    sentence("An object is used for at most 512 calls after it has been made; what later calls answer is free.");
    SharedChoices x = new SharedChoices();
    int sum = lists(x, 10);
    int calls = x.count(0) + 1;
    while (calls + 4 < 512) {
      x.ask(sum, calls % 3, 1 + calls % 60);
      due("next, ahead of call " + calls, x.next(), 1);
      due("TOKEN, ahead of call " + calls, x.token(0, 1), 10);
      due("next again, ahead of call " + calls, x.next(), 0);
      calls += 4;
    }
    while (calls < 511) {
      x.count(0);
      calls++;
    }
    due("call 512", x.token(0, 1), 10);
  }

  /** A number that is how many lists of 100 TOKENS its way has to keep. */
  private static int lists(SharedChoices x, int many) {
    int of99 = Make.tokens(x, 99);
    int sum = x.fold(0, x.set(of99, of99 + 1));
    for (int k = 1; k < many; k++) sum = x.op(0, sum, x.fold(0, x.set(of99, of99 + 1)));
    return sum;
  }

  // ---- nodes ----

  private interface Maker { int make(SharedChoices x); }

  private static final Maker[] MAKERS = {
    x -> x.number(5), x -> x.choice(0, 1), x -> x.fail(), x -> x.pair(0, 1), x -> x.part(0, false),
    x -> x.part(0, true), x -> x.op(0, 0, 1), x -> x.when(0, 1, 2), x -> x.set(0, 0), x -> x.fold(0, 0)};

  private static void nodes() {
    sentence("NODES, at most 60, are numbered from 0 on as they are made.");
    for (int sort = 0; sort < MAKERS.length; sort++) {
      SharedChoices x = Make.numbers(59);
      due("the 60th is made, of SORT " + sort, MAKERS[sort].make(x), 59);
      due("its SORT", x.node(59, 0), sort);
      due("the 61st is not, of SORT " + sort, MAKERS[sort].make(x), -1);
      due("nodes", x.count(0), 60);
    }
    due("the first one", new SharedChoices().number(5), 0);
    due("the first one", new SharedChoices().fail(), 0);
    for (int n = 0; n < 60; n++) dueNumber("number " + n, Make.full(), n, n);

    sentence("Each names nodes made ahead of it alone.");
    SharedChoices x = Make.numbers(3);
    dueThrow("itself, as a", ARGUMENT, () -> x.choice(3, 0));
    dueThrow("itself, as b", ARGUMENT, () -> x.pair(0, 3));
    dueThrow("itself, as a part's", ARGUMENT, () -> x.part(3, true));
    due("the one just ahead", x.choice(2, 2), 3);
    due("the one just ahead", x.pair(3, 3), 4);
    due("the one just ahead", x.part(4, true), 5);

    sentence("SET a m (m is 0 .. the SET's own number)");
    dueThrow("m -1", ARGUMENT, () -> x.set(0, -1));
    due("m 0", x.set(0, 0), 6);
    due("m is its own number", x.set(0, 7), 7);
    dueThrow("m is above its own number", ARGUMENT, () -> x.set(0, 9));
    due("none was made", x.count(0), 8);
  }

  private static long reckoned(int kind, long a, long b) {
    SharedChoices x = new SharedChoices();
    x.number(a);
    x.number(b);
    x.ask(x.op(kind, 0, 1), 0, 1);
    due("next of op " + kind + " of " + a + " and " + b, x.next(), 1);
    return x.count(8) == 1 ? x.token(0, 1) : 0;
  }

  private static final long LEAST = Long.MIN_VALUE;
  private static final long MOST = Long.MAX_VALUE;

  private static void dueOp(int kind, long a, long b, long want) {
    due("op " + kind + " of " + a + " and " + b, reckoned(kind, a, b), want);
  }

  private static void wrap() {
    sentence("Numbers have 64 bits and wrap.");
    dueOp(0, MOST - 1, 1, MOST);
    dueOp(0, MOST, 1, LEAST);
    dueOp(0, LEAST + 1, -1, LEAST);
    dueOp(0, LEAST, -1, MOST);
    dueOp(1, LEAST + 1, 1, LEAST);
    dueOp(1, LEAST, 1, MOST);
    dueOp(1, MOST - 1, -1, MOST);
    dueOp(1, MOST, -1, LEAST);
    dueOp(2, 1L << 31, 1L << 31, 1L << 62);
    dueOp(2, 1L << 32, 1L << 31, LEAST);
    dueOp(2, 1L << 32, 1L << 32, 0);
    dueOp(2, LEAST, -1, LEAST);
    SharedChoices x = new SharedChoices();
    dueNumber("a FOLD's sum, the most", x, x.fold(1, Make.list(x, MOST - 1, 1)), MOST);
    dueNumber("a FOLD's sum, wrapped", x, x.fold(1, Make.list(x, MOST, 1)), LEAST);
    dueNumber("a FOLD's sum, wrapped and back", x, x.fold(1, Make.list(x, LEAST, -1, 1)), LEAST);
  }

  // ---- values ----

  private static void values() {
    sentence("A value IN FULL: of a number it itself; of a pair both nodes' values in full, the first one's ahead; of a list it itself.");
    SharedChoices x = new SharedChoices();
    int one = x.number(1);
    int two = x.number(2);
    int list = Make.list(x, 3, 4);
    int none = Make.list(x);
    int inner = x.pair(two, list);
    dueFirst("a number", x, two, 0, 2);
    dueFirst("a pair", x, x.pair(two, one), 1, 2, 0, 2, 0, 1);
    dueFirst("a list of none", x, none, 2, 0);
    dueFirst("all three", x, x.pair(inner, x.pair(none, one)), 1, 2, 1, 2, 0, 2, 2, 2, 0, 3, 0, 4, 1, 2, 2, 0, 0, 1);
    dueNoValue("both nodes of a pair are in full: the first fails", x, x.pair(x.fail(), one), 1, 0);
    dueNoValue("both nodes of a pair are in full: the second fails", x, x.pair(one, x.fail()), 1, 0);
    int choice = x.choice(one, two);
    int fails = x.pair(x.fail(), choice);
    dueSearch("the first one's ahead: no DECISION of the second", x, fails, 0, 1, 0, 1, 0, 1, 0, 0);
    dueSearch("the first one's ahead: its DECISION", x, x.pair(choice, x.fail()), 0, 1, 0, 3, 0, 2, 0, 0);

    sentence("TOKENS of a value in full: of a number itself; of a pair itself, and those of both; of a list itself, and those of all its values.");
    dueFirst("a list of a pair and a list", x, x.set(x.choice(inner, none), 0), 2, 2, 1, 2, 0, 2, 2, 2, 0, 3, 0, 4, 2, 0);
  }

  private static void workedOut() {
    sentence("A node is WORKED OUT when its value is needed and it has none yet; that costs 1 of LABOUR, ahead of all else; it keeps the value.");
    SharedChoices x = new SharedChoices();
    int one = x.number(1);
    dueFirst("a number", x, one, 0, 1);
    due("a number's LABOUR", x.count(6), 1);
    int sum = x.op(0, one, one);
    dueFirst("needed twice", x, x.pair(sum, sum), 1, 2, 0, 2, 0, 2);
    due("needed twice, worked out once", x.count(6), 3);
    int list = x.set(one, 0);
    dueFirst("a list, needed twice", x, x.pair(list, list), 1, 2, 2, 1, 0, 1, 2, 1, 0, 1);
    due("a list, worked out once", x.count(6), 3);
    int part = x.part(x.pair(sum, x.fail()), false);
    dueFirst("a part, needed twice", x, x.op(0, part, part), 0, 4);
    due("what a pair names and is not needed costs nothing", x.count(6), 5);
    SharedChoices y = new SharedChoices();
    int kept = lists(y, 10);
    int all = kept;
    for (int k = 0; k < 4; k++) all = y.op(0, kept, y.fold(1, y.set(all, 0)));
    dueNumber("ten lists, in each of five ways in one another", y, all, 50);
  }

  /** What would be the node at the LABOUR of 2001 does nothing: it neither fails nor decides. */
  private static void labourAhead() {
    sentence("that costs 1 of LABOUR, ahead of all else");
    SharedChoices x = new SharedChoices();
    int cost1997 = Make.labour(x, 1997);
    int cost1998 = x.op(0, cost1997, cost1997);
    int cost1999 = x.op(0, cost1998, cost1998);
    int fail = x.fail();
    dueNoValue("a FAIL is the 2000th", x, x.when(cost1998, 0, fail), 1, 0);
    dueNoValue("a FAIL would be the 2001st", x, x.when(cost1999, 0, fail), 0, 1);
    int choice = x.choice(0, 0);
    dueSearch("a CHOICE is the 2000th", x, x.when(cost1998, 0, choice), 0, 1, 0, 3, 2, 0, 0, 0, 2000);
    dueSearch("a CHOICE would be the 2001st", x, x.when(cost1999, 0, choice), 0, 1, 0, 1, 0, 0, 1, 0, 0);
    int both = x.choice(choice, 0);
    dueSearch("a CUT one is the 2000th", x, x.when(cost1997, 0, both), 2, 1, 0, 3, 1, 0, 0, 1, 1999);
    dueSearch("a CUT one would be the 2001st", x, x.when(cost1998, 0, both), 2, 1, 0, 3, 1, 0, 1, 0, 2000);
    int number = x.number(3);
    int set = x.set(number, number);
    dueFirst("what is in a SET is the 2000th", x, x.when(cost1997, 0, set), 2, 1, 0, 3);
    due("LABOUR", x.count(6), 2000);
    dueNoValue("what is in a SET would be the 2001st", x, x.when(cost1998, 0, set), 0, 1);
  }

  // ---- the sorts ----

  private static void simpleSorts() {
    sentence("NUMBER: v.");
    SharedChoices x = new SharedChoices();
    for (long v : new long[] {0, -1, LEAST, MOST, 1L << 32}) dueNumber("number", x, x.number(v), v);

    sentence("PAIR: the pair of its nodes, none of which is needed.");
    SharedChoices y = new SharedChoices();
    int one = y.number(1);
    int fail = y.fail();
    int choice = y.choice(one, one);
    dueNumber("first, where the second fails", y, y.part(y.pair(one, fail), false), 1);
    due("LABOUR", y.count(6), 3);
    dueNumber("second, where the first fails", y, y.part(y.pair(fail, one), true), 1);
    dueSearch("no DECISION of its nodes", y, y.op(0, y.pair(choice, choice), one), 0, 1, 0, 1, 0, 1, 0, 0);

    sentence("FAIL: fails.");
    dueNoValue("a FAIL", y, fail, 1, 0);
    dueNoValue("what needs a FAIL", y, y.op(0, one, fail), 1, 0);
    dueNumber("what does not need it", y, y.when(one, one, fail), 1);

    sentence("CHOICE: a DECISION, then the value of a (ALTERNATIVE 0) or of b (1).");
    SharedChoices z = Make.numbers(2);
    z.ask(z.choice(1, 0), 0, 1);
    due("ALTERNATIVE 0", z.next(), 1);
    dueTokens("of a", z, 0, 1);
    dueDecisions("of a", z, 0);
    due("ALTERNATIVE 1", z.next(), 1);
    dueTokens("of b", z, 0, 0);
    dueDecisions("of b", z, 1);
    due("no third one", z.next(), 0);
    int none = z.fail();
    dueSearch("a DECISION ahead of what fails", z, z.choice(none, none), 0, 1, 0, 3, 0, 2, 0, 0);

    sentence("FIRST, SECOND: a's value, a pair; then the value of its first, its second node.");
    int pair = z.pair(1, 0);
    dueNumber("first", z, z.part(pair, false), 1);
    dueNumber("second", z, z.part(pair, true), 0);
    int nested = z.pair(pair, 1);
    dueFirst("a part that is a pair", z, z.part(nested, false), 1, 2, 0, 1, 0, 0);
  }

  private static void ops() {
    sentence("0 the sum, 1 the difference, 2 the product");
    dueOp(0, 7, -3, 4);
    dueOp(1, 7, -3, 10);
    dueOp(1, -3, 7, -10);
    dueOp(2, 7, -3, -21);
    dueOp(2, 0, LEAST, 0);

    sentence("3 the quotient (towards 0; by 0 it fails; the least number by -1 is itself)");
    long[][] quotients = {{7, 2, 3}, {-7, 2, -3}, {7, -2, -3}, {-7, -2, 3}, {6, 7, 0}, {-6, 7, 0}, {6, 6, 1},
      {0, 5, 0}, {LEAST, -1, LEAST}, {LEAST + 1, -1, MOST}, {MOST, -1, LEAST + 1}, {LEAST, 1, LEAST}, {LEAST, LEAST, 1},
      {MOST, LEAST, 0}, {LEAST, MOST, -1}};
    for (long[] one : quotients) dueOp(3, one[0], one[1], one[2]);
    for (long a : new long[] {0, 1, -1, LEAST, MOST}) {
      SharedChoices x = new SharedChoices();
      x.number(a);
      x.number(0);
      dueNoValue(a + " by 0", x, x.op(3, 0, 1), 1, 0);
    }

    sentence("4 1 if the first one is less, else 0");
    long[][] less = {{1, 2, 1}, {2, 2, 0}, {3, 2, 0}, {-1, 0, 1}, {LEAST, MOST, 1}, {MOST, LEAST, 0}, {LEAST, LEAST, 0},
      {MOST - 1, MOST, 1}, {LEAST + 1, LEAST, 0}, {1L << 32, 1, 0}};
    for (long[] one : less) dueOp(4, one[0], one[1], one[2]);

    sentence("5 1 if they are the same, else 0.");
    long[][] same = {{2, 2, 1}, {2, 3, 0}, {3, 2, 0}, {1L << 32, 0, 0}, {LEAST, LEAST, 1}, {LEAST, MOST, 0}, {LEAST, 0, 0}};
    for (long[] one : same) dueOp(5, one[0], one[1], one[2]);
  }

  private static void whens() {
    sentence("WHEN: c's value, a number; then a's value if that is not 0, else b's.");
    for (long c : new long[] {1, -1, LEAST, MOST, 1L << 32}) {
      SharedChoices x = new SharedChoices();
      x.number(c);
      x.number(8);
      x.fail();
      dueNumber("c is " + c, x, x.when(0, 1, 2), 8);
      due("the other is not needed", x.count(6), 3);
      dueNoValue("c is " + c + ", a fails", x, x.when(0, 2, 1), 1, 0);
    }
    SharedChoices x = new SharedChoices();
    x.number(0);
    x.number(8);
    x.fail();
    dueNumber("c is 0", x, x.when(0, 2, 1), 8);
    due("the other is not needed", x.count(6), 3);
    dueNoValue("c is 0, b fails", x, x.when(0, 1, 2), 1, 0);
    dueNoValue("c fails", x, x.when(2, 0, 0), 1, 0);
  }

  private static void dueFolds(String what, SharedChoices x, int list, long many, long sum, long least) {
    dueNumber(what + ", how many", x, x.fold(0, list), many);
    dueNumber(what + ", sum", x, x.fold(1, list), sum);
    dueNumber(what + ", least", x, x.fold(2, list), least);
  }

  private static void folds() {
    sentence("by its kind 0 how many values it has, 1 their sum, 2 the least of them");
    SharedChoices x = new SharedChoices();
    dueFolds("of one", x, Make.list(x, 5), 1, 5, 5);
    dueFolds("the least is the first", x, Make.list(x, -2, 5), 2, 3, -2);
    dueFolds("the least is the last", x, Make.list(x, 5, -2), 2, 3, -2);
    dueFolds("alike ones", x, Make.list(x, 4, 4, 4), 3, 12, 4);
    SharedChoices y = new SharedChoices();
    dueFolds("the greatest number", y, Make.list(y, MOST), 1, MOST, MOST);
    dueFolds("the greatest and the least", y, Make.list(y, MOST, LEAST), 2, -1, LEAST);
    dueFolds("the one above the greatest int", y, Make.list(y, 1L << 31, 1L << 32), 2, 3L << 31, 1L << 31);

    sentence("(both: all must be numbers; of none the sum is 0, and 2 fails)");
    SharedChoices z = new SharedChoices();
    int one = z.number(1);
    int none = z.set(z.fail(), 0);
    dueNumber("of none, how many", z, z.fold(0, none), 0);
    dueNumber("of none, the sum", z, z.fold(1, none), 0);
    dueNoValue("of none, the least", z, z.fold(2, none), 1, 0);
    int pair = z.pair(one, one);
    for (int other : new int[] {pair, none}) {
      for (int list : new int[] {z.set(z.choice(other, one), 0), z.set(z.choice(one, other), 0), z.set(other, 0)}) {
        dueNumber("how many needs no numbers", z, z.fold(0, list), z.node(z.node(list, 1), 0) == 1 ? 2 : 1);
        dueNoValue("the sum, not all numbers", z, z.fold(1, list), 1, 0);
        dueNoValue("the least, not all numbers", z, z.fold(2, list), 1, 0);
      }
    }
  }

  private static void otherValues() {
    sentence("What has another value than it must have here fails, when that is there.");
    SharedChoices x = new SharedChoices();
    int one = x.number(1);
    int pair = x.pair(one, one);
    int list = x.set(one, 0);
    int choice = x.choice(one, one);
    for (int other : new int[] {one, list}) {
      dueNoValue("FIRST", x, x.part(other, false), 1, 0);
      dueNoValue("SECOND", x, x.part(other, true), 1, 0);
    }
    for (int other : new int[] {one, pair}) {
      for (int kind = 0; kind < 3; kind++) dueNoValue("FOLD", x, x.fold(kind, other), 1, 0);
    }
    for (int other : new int[] {pair, list}) {
      dueSearch("WHEN: ahead of a DECISION of a or b", x, x.when(other, choice, choice), 0, 1, 0, 1, 0, 1, 0, 0);
      dueSearch("OP: ahead of b's DECISION", x, x.op(0, other, choice), 0, 1, 0, 1, 0, 1, 0, 0);
      dueSearch("OP: behind a's DECISION", x, x.op(0, choice, other), 0, 1, 0, 3, 0, 2, 0, 0);
    }
    dueSearch("one way fails, the other does not", x, x.op(0, x.choice(pair, one), one), 0, 1, 0, 3, 1, 1, 0, 0);
    SharedChoices y = new SharedChoices();
    int two = y.number(2);
    int all = y.choice(y.choice(two, y.pair(two, two)), y.set(two, 0));
    for (int kind = 0; kind < 6; kind++) {
      dueSearch("OP " + kind + " of each of three", y, y.op(kind, all, two), 0, 1, 0, 5, 1, 2, 0, 0);
      dueSearch("OP " + kind + " by each of three", y, y.op(kind, two, all), 0, 1, 0, 5, 1, 2, 0, 0);
    }
    dueSearch("FIRST of each of three", y, y.part(all, false), 0, 1, 0, 5, 1, 2, 0, 0);
    dueSearch("FOLD of each of three", y, y.fold(0, all), 0, 1, 0, 5, 1, 2, 0, 0);
    dueSearch("WHEN of each of three", y, y.when(all, two, two), 0, 1, 0, 5, 1, 2, 0, 0);
  }

  // ---- ways ----

  private static void ways() {
    sentence("what is chosen once in a way is so wherever it is used, and nothing is worked out that is not needed.");
    SharedChoices x = Make.numbers(2);
    int choice = x.choice(0, 1);
    dueOrder("chosen once", x, x.op(0, choice, choice), 0, 1, 0, 2, 2, 3);

    sentence("A WAY is what is done from the beginning on (with no values kept, LABOUR 0), with an ALTERNATIVE at each DECISION that it comes to: the node's value, in full.");
    SharedChoices y = new SharedChoices();
    int much = Make.labour(y, 1990);
    int either = y.choice(0, much);
    y.ask(y.op(0, much, either), 0, 1);
    for (int k = 0; k < 2; k++) {
      due("each way begins with LABOUR 0", y.next(), 1);
      due("its LABOUR", y.count(6), 1992);
    }
    due("PLACES", y.count(1), 3);
    due("no third one", y.next(), 0);
    SharedChoices z = Make.numbers(2);
    z.ask(z.choice(0, z.pair(0, 1)), 0, 1);
    due("the first way", z.next(), 1);
    due("its LABOUR", z.count(6), 2);
    due("the second way", z.next(), 1);
    due("no value is kept from the first", z.count(6), 4);
  }

  private static void mostLabour() {
    sentence("where its LABOUR would be above 2000");
    SharedChoices x = new SharedChoices();
    int most = Make.labour(x, 2000);
    dueNumber("2000", x, most, 0);
    due("LABOUR", x.count(6), 2000);
    int above = x.op(0, most, most);
    dueNoValue("2001", x, above, 0, 1);
    dueSearch("the other ways go on", x, x.choice(above, 0), 0, 1, 0, 3, 1, 0, 1, 0, 2);
  }

  private static void mostTokens() {
    sentence("or a value in full would have more than 100 TOKENS");
    SharedChoices x = new SharedChoices();
    x.ask(Make.tokens(x, 100), 0, 1);
    due("100", x.next(), 1);
    due("TOKENS", x.count(8), 100);
    SharedChoices y = new SharedChoices();
    dueNoValue("101", y, Make.tokens(y, 101), 0, 1);
    dueSearch("the other ways go on", y, y.choice(Make.tokens(y, 101), 0), 0, 1, 0, 3, 1, 0, 1, 0);

    sentence("(as soon as the 101st is come to, of a list all at once; those of a node that was met before are counted again)");
    SharedChoices z = new SharedChoices();
    int of97 = Make.tokens(z, 97);
    int one = z.number(1);
    int fail = z.fail();
    int of98 = z.pair(of97, fail);
    dueNoValue("a FAIL behind the 98th", z, of98, 1, 0);
    int of99 = z.pair(of97, one);
    int choice = z.choice(one, one);
    dueNoValue("a FAIL behind the 100th", z, z.pair(of99, fail), 1, 0);
    dueNoValue("a FAIL behind the 101st", z, z.pair(of99, z.pair(fail, one)), 0, 1);
    dueSearch("a DECISION behind the 100th", z, z.pair(of99, choice), 0, 1, 0, 3, 0, 0, 2, 0);
    dueSearch("a DECISION behind the 101st", z, z.pair(of99, z.pair(choice, one)), 0, 1, 0, 1, 0, 0, 1, 0);
    dueSearch("a DECISION behind the 100th, and a FAIL", z, z.pair(of99, z.choice(fail, fail)), 0, 1, 0, 3, 0, 2, 0, 0);
    SharedChoices u = new SharedChoices();
    int before = Make.tokens(u, 97);
    u.ask(u.pair(before, Make.list(u, 1)), 0, 1);
    due("a list up to the 100th", u.next(), 1);
    due("TOKENS", u.count(8), 100);
    dueNoValue("a list from the 99th up to the 101st", u, u.pair(before, Make.list(u, 1, 2)), 0, 1);
    dueNoValue("a list from the 101st on", u, u.pair(u.pair(before, u.number(1)), Make.list(u)), 0, 1);
    dueNoValue("a list that fails has no TOKENS", u, u.pair(u.pair(before, 0), u.part(Make.list(u), true)), 1, 0);
    tokensMetBefore();
  }

  private static void tokensMetBefore() {
    SharedChoices x = new SharedChoices();
    int n = x.number(1);
    for (int k = 0; k < 5; k++) n = x.pair(n, n);
    x.ask(n, 0, 1);
    due("of six nodes, 63", x.next(), 1);
    dueCounts("of six nodes", x, 6, 6, 0, 63);
    dueNoValue("of seven nodes, 127", x, x.pair(n, n), 0, 1);
    SharedChoices y = new SharedChoices();
    int list = y.set(Make.tokens(y, 48), 0);
    int of99 = y.pair(list, list);
    y.ask(of99, 0, 1);
    due("a list of 49, twice", y.next(), 1);
    due("TOKENS", y.count(8), 99);
    dueNoValue("a list of 49 and one of 51", y, y.pair(list, y.set(Make.tokens(y, 50), 0)), 0, 1);
  }

  private static void mostSets() {
    sentence("or more than 5 SETS are worked out in one another (the sixth costs its 1 of LABOUR first).");
    SharedChoices x = new SharedChoices();
    int one = x.number(1);
    int five = Make.sets(x, one, 5, 0);
    dueFirst("five", x, five, 2, 1, 2, 1, 2, 1, 2, 1, 2, 1, 0, 1);
    due("their LABOUR", x.count(6), 6);
    int six = x.set(five, 0);
    dueNoValue("six", x, six, 0, 1);
    dueSearch("the other ways go on", x, x.choice(six, one), 0, 1, 0, 3, 1, 0, 1, 0);
    x.ask(x.pair(five, x.pair(five, five - 1)), 0, 1);
    due("five, then others beside them", x.next(), 1);
    due("TOKENS", x.count(8), 2 + 6 + 6 + 5);
    int beside = x.pair(five - 1, Make.sets(x, one, 4, 0));
    x.ask(x.set(beside, 0), 0, 1);
    due("four beside four, in one", x.next(), 1);
    due("SET, PAIR, twice four and the number: LABOUR", x.count(6), 1 + 1 + 5 + 5);
    dueNoValue("four beside five, in one", x, x.set(x.pair(five - 1, five), 0), 0, 1);
    dueNumber("six that are not needed", x, x.when(one, one, six), 1);
    SharedChoices y = new SharedChoices();
    int known = y.set(y.number(1), 0);
    int around = Make.sets(y, known, 5, known + 1);
    y.ask(y.pair(known, around), 0, 1);
    due("the sixth has its value", y.next(), 1);
    due("LABOUR", y.count(6), 1 + 2 + 5);
  }

  // ---- places ----

  private static void depths() {
    sentence("Its PLACES are DECISIONS and ends of ways; the DEPTH of one is how many DECISIONS lie ahead of it.");
    SharedChoices x = Make.numbers(1);
    dueSearch("an end alone", x, 0, 0, 1, 0, 1, 1, 0, 0, 0);
    dueSearch("an end alone, BOUNDED", x, 0, 2, 1, 0, 1, 1, 0, 0, 0);
    int choice = x.choice(0, 0);
    dueSearch("a DECISION and two ends", x, choice, 0, 1, 0, 3, 2, 0, 0, 0);
    dueSearch("a DECISION of the DEPTH 0, its ends of 1", x, choice, 2, 1, 0, 3, 2, 0, 0, 0);
    int again = x.op(0, choice, choice);
    dueSearch("one that was decided before is none", x, again, 2, 1, 0, 3, 2, 0, 0, 0);
    SharedChoices y = new SharedChoices();
    int longest = Make.secondsOnly(y, 58);
    for (int mode = 0; mode < 3; mode++) {
      y.ask(longest, mode, 60);
      due("58 DECISIONS: next", y.next(), 1);
      int[] seconds = new int[58];
      java.util.Arrays.fill(seconds, 1);
      dueDecisions("58 DECISIONS", y, seconds);
      dueCounts("58 DECISIONS", y, 1, 117, 1, 58, 0, 0, 59);
      due("58 DECISIONS: end", y.next(), 0);
    }
    SharedChoices z = Make.numbers(1);
    int n = 0;
    for (int k = 0; k < 59; k++) n = z.choice(n, n);
    for (int mode = 0; mode < 3; mode += 2) {
      z.ask(n, mode, 59);
      due("59 DECISIONS: next", z.next(), 1);
      dueDecisions("59 DECISIONS, the first", z, new int[59]);
      due("PLACES", z.count(1), 60);
      due("59 DECISIONS: second", z.next(), 1);
      due("the last DECISION is the other", z.decision(58), 1);
      due("the one ahead is not", z.decision(57), 0);
      due("PLACES", z.count(1), 61);
    }
    // 58 DECISIONS; 121 PLACES to the end of the 6 lowest levels, 64 CUT; of the next 21, 8 CUT.
    dueSearch("a DECISION of the DEPTH 58 is CUT", z, n, 2, 58, 2, 200, 0, 0, 0, 72);
  }

  /** Node 6: a CHOICE whose first is one whose first is one; the ends 0 .. 3 from left to right. */
  private static SharedChoices leftTree() {
    SharedChoices x = Make.numbers(4);
    x.choice(0, 1);
    x.choice(4, 2);
    x.choice(5, 3);
    return x;
  }

  /** Node 6: the same to the other side. */
  private static SharedChoices rightTree() {
    SharedChoices x = Make.numbers(4);
    x.choice(2, 3);
    x.choice(1, 4);
    x.choice(0, 5);
    return x;
  }

  private static void modes() {
    SharedChoices left = leftTree();
    SharedChoices right = rightTree();
    sentence("0 DEEP: a DECISION ahead of what is in its ALTERNATIVES, in their order.");
    for (int bound : new int[] {1, 2, 60}) {
      dueOrder("the left one, whatever the bound", left, 6, 0, bound, 0, 4, 1, 5, 2, 6, 3, 7);
      dueOrder("the right one, whatever the bound", right, 6, 0, bound, 0, 2, 1, 4, 2, 6, 3, 7);
    }

    sentence("1 WINDOWS, of a bound b: by DEPTH / b (rounded down), among those as DEEP.");
    dueOrder("left, by 1", left, 6, 1, 1, 3, 3, 2, 5, 0, 6, 1, 7);
    dueOrder("left, by 2", left, 6, 1, 2, 3, 3, 0, 5, 1, 6, 2, 7);
    dueOrder("left, by 3", left, 6, 1, 3, 2, 4, 3, 5, 0, 6, 1, 7);
    dueOrder("left, by 4", left, 6, 1, 4, 0, 4, 1, 5, 2, 6, 3, 7);
    dueOrder("left, by 60", left, 6, 1, 60, 0, 4, 1, 5, 2, 6, 3, 7);
    dueOrder("right, by 1", right, 6, 1, 1, 0, 2, 1, 4, 2, 6, 3, 7);
    dueOrder("right, by 2", right, 6, 1, 2, 0, 2, 1, 4, 2, 6, 3, 7);
    SharedChoices full = Make.numbers(4);
    int pairs = full.op(0, full.choice(0, 1), full.choice(0, 2));
    dueOrder("by 1, all ends of one DEPTH", full, pairs, 1, 1, 0, 4, 2, 5, 1, 6, 3, 7);
    dueOrder("by 2, all ends of one DEPTH", full, pairs, 1, 2, 0, 4, 2, 5, 1, 6, 3, 7);
    dueOrder("by 3, all ends of one DEPTH", full, pairs, 1, 3, 0, 3, 2, 4, 1, 6, 3, 7);

    sentence("2 BOUNDED: as DEEP, but a DECISION of the DEPTH b is CUT, an end of its way.");
    dueOrder("left, DEPTH 1 is CUT", left, 6, 2, 1, 3, 3);
    dueCounts("left, DEPTH 1 is CUT", left, 1, 3, 1, 0, 0, 1);
    dueOrder("left, DEPTH 2 is CUT", left, 6, 2, 2, 2, 4, 3, 5);
    dueCounts("left, DEPTH 2 is CUT", left, 1, 5, 2, 0, 0, 1);
    dueOrder("left, ends of the DEPTH 3 are not CUT", left, 6, 2, 3, 0, 4, 1, 5, 2, 6, 3, 7);
    dueCounts("left, ends of the DEPTH 3 are not CUT", left, 1, 7, 4, 0, 0, 0);
    dueOrder("right, DEPTH 1 is CUT", right, 6, 2, 1, 0, 2);
    dueCounts("right, DEPTH 1 is CUT", right, 1, 3, 1, 0, 0, 1);
    dueOrder("right, by 60", right, 6, 2, 60, 0, 2, 1, 4, 2, 6, 3, 7);
    SharedChoices fails = new SharedChoices();
    int fail = fails.choice(fails.fail(), 0);
    dueSearch("what fails at the DEPTH b is not CUT", fails, fail, 2, 1, 0, 3, 0, 2, 0, 0);
    dueSearch("what is CUT is no more", fails, fails.choice(fail, fail), 2, 1, 0, 3, 0, 0, 0, 2);
  }

  private static void spent() {
    sentence("When 200 PLACES have been come to, and there is another one, the SEARCH is SPENT.");
    for (int mode = 0; mode < 3; mode++) {
      for (int bound : new int[] {9, 10, 60}) {
        SharedChoices x = new SharedChoices();
        int hundred = Make.ends(x, x.number(0), 100);
        dueSearch("199 PLACES, MODE " + mode, x, hundred, mode, bound, 0, 199, 100, 0, 0, 0);
        dueSearch("201 PLACES, MODE " + mode, x, x.choice(0, hundred), mode, bound, 2, 200, 100, 0, 0, 0);
      }
    }
    SharedChoices x = new SharedChoices();
    int zero = x.number(0);
    x.ask(x.choice(Make.ends(x, zero, 100), zero), 0, 1);
    for (int k = 0; k < 100; k++) due("up to the 200th PLACE, a VALUE", x.next(), 1);
    due("it is the 200th", x.count(1), 200);
    due("the 201st is not come to", x.next(), 2);
    due("nor counted", x.count(1), 200);
    SharedChoices y = new SharedChoices();
    int leaf = y.number(0);
    int right = y.choice(y.choice(leaf, leaf), leaf);
    dueSearch("the 200th is a DECISION", y, y.choice(Make.ends(y, leaf, 99), right), 0, 1, 2, 200, 99, 0, 0, 0);
    int deep = Make.ends(y, leaf, 128);
    dueSearch("127 DECISIONS, then ends, by windows of 7", y, deep, 1, 7, 2, 200, 73, 0, 0, 0);
    dueSearch("127 DECISIONS, then ends, by windows of 1", y, deep, 1, 1, 2, 200, 73, 0, 0, 0);
    dueSearch("127 PLACES, 64 CUT", y, deep, 2, 6, 0, 127, 0, 0, 0, 64);
    int deeper = y.choice(deep, deep);
    dueSearch("200 of 255 DECISIONS", y, deeper, 1, 1, 2, 200, 0, 0, 0, 0);
    due("without a VALUE", y.count(8), 0);
    // The left half 64 of 127, of the right one its left half 32 of 63, then 2 of 8.
    dueSearch("200 of 255 PLACES, ends are CUT", y, deeper, 2, 7, 2, 200, 0, 0, 0, 98);
    spentByOthers();
  }

  /** All PLACES count, not those of VALUES alone. */
  private static void spentByOthers() {
    SharedChoices x = new SharedChoices();
    int fail = x.fail();
    int failing = Make.ends(x, fail, 100);
    SharedChoices y = new SharedChoices();
    int big = Make.tokens(y, 101);
    int givenUp = Make.ends(y, big, 100);
    for (int mode = 0; mode < 3; mode++) {
      dueSearch("199, all FAILED", x, failing, mode, 8, 0, 199, 0, 100, 0, 0);
      dueSearch("199, all GIVEN UP", y, givenUp, mode, 8, 0, 199, 0, 0, 100, 0);
    }
    dueSearch("201, all FAILED", x, x.choice(failing, fail), 0, 1, 2, 200, 0, 100, 0, 0);
    dueSearch("201, all GIVEN UP", y, y.choice(givenUp, big), 0, 1, 2, 200, 0, 0, 100, 0);
  }

  // ---- sets ----

  private static void sets() {
    sentence("It has ways of its own, all that there are, DEEP: each from its beginning on, with the value of a in full; those that fail are left out; the others make the list, in their order, alike ones too.");
    SharedChoices x = leftTree();
    int list = x.set(6, 0);
    for (int mode = 0; mode < 3; mode++) {
      x.ask(list, mode, 1);
      due("DEEP whatever the MODE", x.next(), 1);
      dueTokens("MODE " + mode, x, 2, 4, 0, 0, 0, 1, 0, 2, 0, 3);
    }
    int fail = x.fail();
    dueFirst("all fail", x, x.set(x.choice(fail, fail), 0), 2, 0);
    due("no way of the SEARCH failed", x.count(3), 0);
    dueFirst("the first fails", x, x.set(x.choice(fail, 1), 0), 2, 1, 0, 1);
    dueFirst("the last fails", x, x.set(x.choice(1, fail), 0), 2, 1, 0, 1);
    dueFirst("in full: the second of a pair fails", x, x.set(x.choice(x.pair(1, fail), 2), 0), 2, 1, 0, 2);
    dueFirst("alike ones", x, x.set(x.choice(1, 1), 0), 2, 2, 0, 1, 0, 1);
    dueFirst("one way", x, x.set(1, 0), 2, 1, 0, 1);
    SharedChoices y = new SharedChoices();
    dueFirst("57 DECISIONS in a way", y, y.set(Make.secondsOnly(y, 57), 0), 2, 1, 0, 7);
    // SET; the ways of k CHOICES and the FAIL, for k 1 .. 57; that of 57 and the number.
    due("each from its beginning on", y.count(6), 1 + 57 * 58 / 2 + 57 + 58);
  }

  private static void setsGivenUp() {
    sentence("(What is GIVEN UP in one, or more than 100 TOKENS of the list as far as it goes, which is asked when a value of it is there, gives the way around up.)");
    SharedChoices x = new SharedChoices();
    int zero = x.number(0);
    int most = Make.ends(x, zero, 99);
    int fail = x.fail();
    x.ask(x.set(most, 0), 0, 1);
    due("99 numbers: next", x.next(), 1);
    due("99 numbers", x.count(8), 100);
    due("how many", x.token(0, 1), 99);
    dueNumber("99 numbers and what fails", x, x.fold(0, x.set(x.choice(most, fail), 0)), 99);
    dueNoValue("100 numbers", x, x.fold(0, x.set(x.choice(most, zero), 0)), 0, 1);
    int none = x.set(fail, 0);
    dueNumber("98 numbers and a list of none", x, x.fold(0, x.set(x.choice(Make.ends(x, zero, 98), none), 0)), 99);
    SharedChoices y = new SharedChoices();
    int of99 = Make.tokens(y, 99);
    y.ask(y.set(of99, 0), 0, 1);
    due("a value of 99: next", y.next(), 1);
    due("a value of 99", y.count(8), 100);
    int failing = y.pair(of99, y.fail());
    int given = y.pair(of99, y.pair(y.fail(), 0));
    dueFirst("100 TOKENS, then it fails", y, y.fold(0, y.set(failing, 0)), 0, 0);
    dueNoValue("101 TOKENS, then it would fail", y, y.fold(0, y.set(given, 0)), 0, 1);
    dueFirst("a list of 100, then one that fails", y, y.fold(0, y.set(y.choice(of99, failing), 0)), 0, 1);
    dueNoValue("a list of 100, then one of 1", y, y.fold(0, y.set(y.choice(of99, 0), 0)), 0, 1);
    SharedChoices z = new SharedChoices();
    int of100 = Make.tokens(z, 100);
    dueNoValue("a value of 100", z, z.fold(0, z.set(of100, 0)), 0, 1);
    int outer = z.fold(0, z.set(z.fold(0, z.set(of100, 0)), 0));
    dueNoValue("the way around, and the one around that", z, outer, 0, 1);
    dueNoValue("what is given up is not left out", z, z.set(z.choice(z.set(of100, 0), 0), 0), 0, 1);
    dueSearch("other ways of the SEARCH go on", z, z.choice(outer, 0), 0, 1, 0, 3, 1, 0, 1, 0);
  }

  private static void setDecisions() {
    sentence("Its DECISIONS are its own, no PLACES.");
    SharedChoices x = leftTree();
    int list = x.set(6, 0);
    x.ask(list, 2, 1);
    due("none is CUT", x.next(), 1);
    dueDecisions("none of the SEARCH", x);
    dueCounts("one PLACE", x, 1, 1, 1, 0, 0, 0);
    int first = x.pair(list, x.choice(0, 1));
    dueSearch("the DEPTH of what is behind", x, first, 2, 1, 0, 3, 2, 0, 0, 0);
    SharedChoices y = new SharedChoices();
    int many = y.fold(0, y.set(Make.ends(y, y.number(0), 99), 0));
    dueSearch("197 of its own", y, y.choice(many, many), 0, 1, 0, 3, 2, 0, 0, 0);
  }

  private static void inside() {
    sentence("For it nodes numbered m and more are INSIDE: each of its ways works them out anew, for itself, and what they become is not seen elsewhere.");
    SharedChoices x = Make.numbers(2);
    int choice = x.choice(0, 1);
    int in = x.set(choice, choice);
    dueFirst("node m is INSIDE", x, in, 2, 2, 0, 0, 0, 1);
    dueCounts("node m is INSIDE", x, 1, 1, 1, 0, 0, 0);
    // SET; the CHOICE, then 0; anew the CHOICE twice, then 1; anew the CHOICE twice.
    due("node m is INSIDE, those below are not: LABOUR", x.count(6), 8);
    int out = x.set(choice, choice + 1);
    x.ask(out, 0, 1);
    due("node m - 1 is OUTSIDE", x.next(), 1);
    dueTokens("node m - 1 is OUTSIDE", x, 2, 1, 0, 0);
    due("its DECISION is that of the way around", x.decision(0), 0);
    due("LABOUR", x.count(6), 3);
    due("the second", x.next(), 1);
    dueTokens("the second", x, 2, 1, 0, 1);
    due("no third one", x.next(), 0);
    int all = x.set(choice, 0);
    x.ask(x.pair(all, choice), 0, 1);
    due("not seen elsewhere: next", x.next(), 1);
    dueTokens("not seen elsewhere", x, 1, 2, 2, 2, 0, 0, 0, 1, 0, 0);
    dueDecisions("the CHOICE is decided again", x, 0);
    due("LABOUR", x.count(6), 1 + 1 + 4 + 2);
    x.ask(x.pair(choice, all), 0, 1);
    due("worked out anew: next", x.next(), 1);
    dueTokens("worked out anew", x, 1, 2, 0, 0, 2, 2, 0, 0, 0, 1);
    due("LABOUR", x.count(6), 1 + 2 + 1 + 4);
    x.ask(x.pair(all, x.set(choice, 0)), 0, 1);
    due("two SETS: next", x.next(), 1);
    due("each for itself", x.count(6), 1 + 5 + 5);
  }

  private static void outside() {
    sentence("The others are OUTSIDE: their values are those of the way that works out the SET (around it; to that, too, they may be OUTSIDE, if it is one of a SET, and so on; for a way of a SEARCH all nodes are INSIDE).");
    SharedChoices x = Make.numbers(3);
    int choice = x.choice(1, 2);
    int other = x.choice(0, 2);
    int sum = x.op(0, choice, other);
    int list = x.set(sum, other);
    x.ask(x.pair(choice, list), 0, 1);
    due("around it: next", x.next(), 1);
    dueTokens("around it", x, 1, 2, 0, 1, 2, 2, 0, 1, 0, 3);
    due("around it: second", x.next(), 1);
    dueTokens("around it: second", x, 1, 2, 0, 2, 2, 2, 0, 2, 0, 4);
    due("PLACES", x.count(1), 3);
    int around = x.set(list, 0);
    dueFirst("of a way of a SET", x, around, 2, 2, 2, 2, 0, 1, 0, 3, 2, 2, 0, 2, 0, 4);
    int twice = x.set(list, other);
    x.ask(twice, 0, 1);
    due("OUTSIDE to that, too: next", x.next(), 1);
    dueTokens("OUTSIDE to that, too", x, 2, 1, 2, 2, 0, 1, 0, 3);
    dueDecisions("OUTSIDE to that, too", x, 0);
    due("OUTSIDE to that, too: second", x.next(), 1);
    dueTokens("OUTSIDE to that, too: second", x, 2, 1, 2, 2, 0, 2, 0, 4);
    due("no third one", x.next(), 0);
    // INSIDE to the innermost of three, OUTSIDE to the two around it.
    int inner = x.set(choice, choice);
    int three = x.set(x.set(inner, inner), inner);
    dueFirst("INSIDE to the innermost alone", x, three, 2, 1, 2, 1, 2, 2, 0, 1, 0, 2);
    due("no DECISION", x.count(7), 0);
    SharedChoices y = new SharedChoices();
    dueNumber("node 0, in a SEARCH", y, y.number(4), 4);
  }

  private static void anew() {
    sentence("Where one is needed that has no value there, all SETS to which it is OUTSIDE, from the innermost on up to the first way to which it is INSIDE, are given up; that way works it out; then the SET that it was working out begins anew, with its first way.");
    SharedChoices x = Make.numbers(1);
    int set = x.set(0, 1);
    dueFirst("one node OUTSIDE", x, set, 2, 1, 0, 0);
    due("nothing was laboured in vain", x.count(6), 2);
    x.ask(x.pair(0, set), 0, 1);
    due("one that has its value: next", x.next(), 1);
    due("one that has its value: LABOUR", x.count(6), 3);
    givenUpBetween();
    anewThatFails();
    anewInSets();
  }

  /** A SET with m 3 in one with m 2: node 1 gives both up, node 2 the inner one alone. */
  private static void givenUpBetween() {
    SharedChoices x = new SharedChoices();
    x.number(5);
    x.choice(0, 0);
    x.number(7);
    x.pair(2, 1);
    x.set(3, 3);
    x.set(4, 2);
    x.ask(5, 0, 1);
    due("two given up: next", x.next(), 1);
    dueTokens("two given up", x, 2, 1, 2, 1, 1, 2, 0, 7, 0, 5);
    // 5, 4, 3; 2 by the way of 5; 3; 1 and 0 by that of the SEARCH; anew 4, 3; 2; 3.
    due("two given up: LABOUR", x.count(6), 11);
    dueDecisions("the CHOICE is that of the SEARCH", x, 0);
    // A SET with m 3 in one with m 0 in one with m 3: the middle way works node 1 out.
    int middle = x.set(4, 0);
    int outer = x.set(middle, 6);
    dueFirst("the first way to which it is INSIDE", x, middle, 2, 2, 2, 1, 1, 2, 0, 7, 0, 5, 2, 1, 1, 2, 0, 7, 0, 5);
    dueCounts("its CHOICE is the middle one's", x, 1, 1, 1, 0, 0, 0);
    x.ask(outer, 0, 1);
    due("and not the outer one's: next", x.next(), 1);
    dueDecisions("and not the outer one's", x);
  }

  private static void anewThatFails() {
    SharedChoices x = new SharedChoices();
    x.number(1);
    x.fail();
    int choice = x.choice(0, 1);
    int inner = x.set(choice, choice + 1);
    dueSearch("the way that works it out fails", x, inner, 0, 1, 0, 3, 1, 1, 0, 0);
    dueFirst("so that it is left out", x, x.set(inner, 0), 2, 1, 2, 1, 0, 1);
    // SET; of the first way SET, CHOICE, number; of the second SET, CHOICE, FAIL.
    due("LABOUR", x.count(6), 7);
    int nodes = x.count(0);
    int one = x.choice(0, 0);
    int two = x.choice(0, 0);
    int bound = x.pair(one, x.set(two, nodes + 2));
    dueSearch("its DECISION is CUT", x, bound, 2, 1, 0, 3, 0, 0, 0, 2);
    dueSearch("its DECISION is not CUT", x, bound, 2, 2, 0, 7, 4, 0, 0, 0);
    SharedChoices y = new SharedChoices();
    int big = y.fold(0, y.set(Make.tokens(y, 100), 0));
    dueNoValue("the way that works it out is given up", y, y.set(big, big + 1), 0, 1);
  }

  /** Those given up are not among the SETS in one another while the node is worked out. */
  private static void anewInSets() {
    SharedChoices x = new SharedChoices();
    int one = x.number(1);
    int five = Make.sets(x, one, 5, 0);
    int around = Make.sets(x, five, 5, five + 1);
    x.ask(around, 0, 1);
    due("five are given up, then five are worked out: next", x.next(), 1);
    due("TOKENS", x.count(8), 11);
    // Five in vain, then five and the number, then the inner four of the first five again.
    due("LABOUR", x.count(6), 5 + 6 + 4);
    int four = five - 1;
    int first = x.set(Make.sets(x, four, 4, four + 1), 0);
    x.ask(first, 0, 1);
    due("one is not given up, four are worked out in it: next", x.next(), 1);
    due("LABOUR", x.count(6), 1 + 4 + 5 + 3);
    int fifth = x.set(Make.sets(x, five, 1, five + 1), 0);
    dueNoValue("one is not given up, five are worked out in it", x, fifth, 0, 1);
  }

  private static void labourOfSets() {
    sentence("What was laboured stays: LABOUR is that of all ways of SETS, as often as they were gone.");
    SharedChoices x = new SharedChoices();
    x.number(1);
    x.number(2);
    x.choice(0, 1);
    x.number(10);
    x.choice(3, 2);
    x.op(0, 4, 2);
    x.set(5, 3);
    dueFirst("begun anew", x, 6, 2, 2, 0, 11, 0, 2);
    // 6; its way 5, 4, 3, then 2 is needed: 2, 0; anew 5, 4, 3; and 5, 4.
    due("begun anew: LABOUR", x.count(6), 11);
    int all = x.set(5, 0);
    x.ask(all, 0, 1);
    due("all INSIDE: next", x.next(), 1);
    // SET; four ways: 5, 4, 3, 2, 0; the same with 1; then 5, 4, 2, 0; and 5, 4, 2, 1.
    dueTokens("all INSIDE", x, 2, 4, 0, 11, 0, 12, 0, 2, 0, 4);
    due("all INSIDE: LABOUR", x.count(6), 1 + 5 + 5 + 4 + 4);
    SharedChoices y = new SharedChoices();
    y.number(1);
    y.choice(0, 0);
    int inner = y.set(1, 0);
    int two = y.op(0, y.fold(0, inner), y.choice(0, 0));
    y.ask(y.set(two, 0), 0, 1);
    due("a SET in each way of one: next", y.next(), 1);
    // SET; two ways: OP, FOLD, SET, two of CHOICE and number, CHOICE, number.
    due("a SET in each way of one: LABOUR", y.count(6), 1 + 2 * (3 + 4 + 2));
  }

  public static void main(String[] args) {
    calls();
    nodes();
    wrap();
    values();
    workedOut();
    labourAhead();
    simpleSorts();
    ops();
    whens();
    folds();
    otherValues();
    ways();
    mostLabour();
    mostTokens();
    mostSets();
    depths();
    modes();
    spent();
    sets();
    setsGivenUp();
    setDecisions();
    inside();
    outside();
    anew();
    labourOfSets();
    finish();
  }
}
