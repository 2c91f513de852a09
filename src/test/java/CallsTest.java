/**
 * Each sentence of the document's promises 1 to 17 that names a boundary case or a refused call,
 * on both sides of it where it has two. The answers were worked out by hand.
 */
public final class CallsTest extends Due {
  private static final int LEAST = Integer.MIN_VALUE;
  private static final int MOST = Integer.MAX_VALUE;
  private static final String NO_NODE =
      "IllegalArgumentException: there is no node a, or no b (so below, too; it is asked ahead of whether there are 60).";

  // ---- 1: a new object ----

  private static void dueEmpty(String what, SharedChoices x) {
    dueCounts(what, x, 0, 0, 0, 0, 0, 0, 0, 0, 0, 0);
    dueThrow(what + ": next", STATE, x::next);
    due(what + ": decision", x.decision(0), -1);
    dueThrow(what + ": token", ELEMENT, () -> x.token(0, 0));
    dueThrow(what + ": node", ELEMENT, () -> x.node(0, 0));
    dueThrow(what + ": ask", ARGUMENT, () -> x.ask(0, 0, 1));
    dueThrow(what + ": choice", ARGUMENT, () -> x.choice(0, 0));
    dueThrow(what + ": pair", ARGUMENT, () -> x.pair(0, 0));
    dueThrow(what + ": part", ARGUMENT, () -> x.part(0, false));
    dueThrow(what + ": op", ARGUMENT, () -> x.op(0, 0, 0));
    dueThrow(what + ": when", ARGUMENT, () -> x.when(0, 0, 0));
    dueThrow(what + ": set", ARGUMENT, () -> x.set(0, 0));
    dueThrow(what + ": fold", ARGUMENT, () -> x.fold(0, 0));
    due(what + ": still no nodes", x.count(0), 0);
  }

  private static void newObject() {
    sentence("No nodes, no SEARCH.");
    due("NONE", SharedChoices.NONE, -1);
    dueEmpty("new", new SharedChoices());
    due("clear of a new one", new SharedChoices().clear(), 0);
    due("number of a new one", new SharedChoices().number(0), 0);
    due("fail of a new one", new SharedChoices().fail(), 0);
    SharedChoices first = Make.numbers(3);
    first.ask(0, 0, 1);
    dueEmpty("another one beside it", new SharedChoices());
  }

  // ---- 2 to 10: what makes nodes ----

  /** Makes a node of which all but one argument are right, the one being n. */
  private interface Maker { int make(SharedChoices x, int n); }

  private static final String[] NAMES = {"choice a", "choice b", "pair a", "pair b", "first a", "second a",
    "op a", "op b", "when c", "when a", "when b", "set a", "fold a"};
  private static final Maker[] MAKERS = {
    (x, n) -> x.choice(n, 0), (x, n) -> x.choice(0, n), (x, n) -> x.pair(n, 0), (x, n) -> x.pair(0, n),
    (x, n) -> x.part(n, false), (x, n) -> x.part(n, true), (x, n) -> x.op(0, n, 0), (x, n) -> x.op(0, 0, n),
    (x, n) -> x.when(n, 0, 0), (x, n) -> x.when(0, n, 0), (x, n) -> x.when(0, 0, n), (x, n) -> x.set(n, 0),
    (x, n) -> x.fold(0, n)};

  private static void dueUntouched(String what, SharedChoices x) {
    due(what + ": nodes", x.count(0), 60);
    for (int n = 0; n < 60; n++) due(what + ": SORT", x.node(n, 0), n == 1 ? 1 : 0);
    due(what + ": the SEARCH goes on", x.next(), 1);
    dueCounts(what, x, 1, 3, 2);
    due(what + ": to its end", x.next(), 0);
  }

  /** Full of nodes, and at the first of two VALUES. */
  private static SharedChoices fullAndAsked() {
    SharedChoices x = Make.numbers(1);
    x.choice(0, 0);
    for (int k = 2; k < 60; k++) x.number(k);
    x.ask(1, 0, 1);
    due("next", x.next(), 1);
    return x;
  }

  private static void sixty() {
    sentence("A NUMBER is made: its number; NONE, and nothing happens, if there are 60 nodes (so below, too).");
    SharedChoices x = Make.numbers(59);
    due("number, the 60th", x.number(3), 59);
    due("number, the 61st", x.number(4), -1);
    dueNumber("the 60th stays", x, 59, 3);
    SharedChoices full = fullAndAsked();
    due("number", full.number(1), -1);
    due("fail", full.fail(), -1);
    for (int k = 0; k < MAKERS.length; k++) {
      due(NAMES[k] + ", the last one", MAKERS[k].make(full, 59), -1);
      SharedChoices y = Make.numbers(59);
      due(NAMES[k] + ", the 60th", MAKERS[k].make(y, 58), 59);
      due(NAMES[k] + ", the 61st", MAKERS[k].make(y, 59), -1);
    }
    dueUntouched("nothing happens", full);
    SharedChoices again = Make.full();
    due("clear", again.clear(), 60);
    due("there are none, so that there is room", again.number(9), 0);
  }

  private static void noSuchNode() {
    sentence(NO_NODE);
    for (int k = 0; k < MAKERS.length; k++) {
      Maker maker = MAKERS[k];
      SharedChoices x = Make.numbers(3);
      for (int n : new int[] {-1, 3, 4, 59, 60, LEAST, MOST}) dueThrow(NAMES[k] + " " + n, ARGUMENT, () -> maker.make(x, n));
      due(NAMES[k] + ": none was made", x.count(0), 3);
      due(NAMES[k] + " 0", maker.make(x, 0), 3);
      due(NAMES[k] + " 3", maker.make(x, 3), 4);
      SharedChoices full = fullAndAsked();
      for (int n : new int[] {-1, 60, 61, LEAST, MOST}) {
        dueThrow(NAMES[k] + " " + n + ", ahead of whether there are 60", ARGUMENT, () -> maker.make(full, n));
      }
      dueUntouched(NAMES[k], full);
    }
  }

  private static void kinds() {
    sentence("IllegalArgumentException also if kind is not 0 .. 5.");
    SharedChoices x = Make.numbers(2);
    SharedChoices full = Make.full();
    for (int kind : new int[] {-1, 6, LEAST, MOST}) {
      dueThrow("op " + kind, ARGUMENT, () -> x.op(kind, 0, 1));
      dueThrow("op " + kind + ", ahead of whether there are 60", ARGUMENT, () -> full.op(kind, 0, 1));
    }
    for (int kind = 0; kind <= 5; kind++) {
      due("op " + kind, x.op(kind, 0, 1), 2 + kind);
      due("op " + kind + " at 60", full.op(kind, 0, 1), -1);
    }

    sentence("IllegalArgumentException also if kind is not 0 .. 2.");
    for (int kind : new int[] {-1, 3, LEAST, MOST}) {
      dueThrow("fold " + kind, ARGUMENT, () -> x.fold(kind, 0));
      dueThrow("fold " + kind + ", ahead of whether there are 60", ARGUMENT, () -> full.fold(kind, 0));
    }
    for (int kind = 0; kind <= 2; kind++) {
      due("fold " + kind, x.fold(kind, 0), 8 + kind);
      due("fold " + kind + " at 60", full.fold(kind, 0), -1);
    }

    sentence("IllegalArgumentException also if m is not 0 .. how many nodes there are.");
    for (int m : new int[] {-1, 12, 13, LEAST, MOST}) dueThrow("set, m " + m, ARGUMENT, () -> x.set(0, m));
    due("set, m 0", x.set(0, 0), 11);
    due("set, m as many as there are", x.set(0, 12), 12);
    for (int m : new int[] {-1, 61, LEAST, MOST}) dueThrow("set, m " + m + ", ahead of whether there are 60", ARGUMENT, () -> full.set(0, m));
    due("set at 60, m 0", full.set(0, 0), -1);
    due("set at 60, m 60", full.set(0, 60), -1);
    SharedChoices last = Make.numbers(59);
    due("the 60th, m its own number", last.set(0, 59), 59);
    due("its m", last.node(59, 2), 59);
  }

  private static void parts() {
    sentence("A FIRST, or a SECOND.");
    SharedChoices x = Make.numbers(2);
    int pair = x.pair(0, 1);
    dueNumber("not second", x, x.part(pair, false), 0);
    dueNumber("second", x, x.part(pair, true), 1);
    due("SORT of a FIRST", x.node(3, 0), 4);
    due("SORT of a SECOND", x.node(4, 0), 5);
  }

  // ---- 11, 12: clear, node ----

  private static void clear() {
    sentence("There are no nodes, and no SEARCH: how many nodes there were.");
    SharedChoices x = new SharedChoices();
    due("of none", x.clear(), 0);
    dueEmpty("of none", x);
    x.fail();
    due("of one", x.clear(), 1);
    due("again", x.clear(), 0);
    SharedChoices y = fullAndAsked();
    due("of 60, with a VALUE", y.clear(), 60);
    dueEmpty("of 60, with a VALUE", y);
    y.number(8);
    dueThrow("a node does not bring the SEARCH back", STATE, y::next);
    dueNumber("a SEARCH behind it", y, 0, 8);
    SharedChoices z = new SharedChoices();
    int many = Make.ends(z, z.number(0), 101);
    dueSearch("SPENT", z, many, 0, 1, 2, 200, 100);
    z.clear();
    dueEmpty("of a SPENT one", z);
    z.number(1);
    z.choice(0, 0);
    dueSearch("not SPENT any more", z, 1, 0, 1, 0, 3, 2, 0, 0, 0, 2, 1, 1);
    SharedChoices w = new SharedChoices();
    w.ask(Make.ends(w, w.number(0), 16), 1, 2);
    due("within a window", w.next(), 1);
    w.clear();
    w.number(6);
    dueSearch("nothing of it is left", w, 0, 1, 1, 0, 1, 1, 0, 0, 0, 1, 0, 1);
  }

  private static void dueNode(SharedChoices x, int n, int... want) {
    for (int what = 0; what < 4; what++) due("node(" + n + ", " + what + ")", x.node(n, what), want[what]);
  }

  private static void node() {
    sentence("Of a node, what 0: its SORT, 1: a (c of a WHEN), 2: b (a of a WHEN; m of a SET; the kind of a FOLD), 3: b of a WHEN, the kind of an OP; NONE where it has no such.");
    SharedChoices x = Make.numbers(5);
    x.choice(4, 3);
    x.fail();
    x.pair(2, 1);
    x.part(4, false);
    x.part(3, true);
    x.op(5, 1, 2);
    x.when(3, 4, 5);
    x.set(8, 12);
    x.set(8, 0);
    x.fold(2, 9);
    x.fold(0, 0);
    x.op(0, 0, 0);
    dueNode(x, 5, 1, 4, 3, -1);
    dueNode(x, 6, 2, -1, -1, -1);
    dueNode(x, 7, 3, 2, 1, -1);
    dueNode(x, 8, 4, 4, -1, -1);
    dueNode(x, 9, 5, 3, -1, -1);
    dueNode(x, 10, 6, 1, 2, 5);
    dueNode(x, 11, 7, 3, 4, 5);
    dueNode(x, 12, 8, 8, 12, -1);
    dueNode(x, 13, 8, 8, 0, -1);
    dueNode(x, 14, 9, 9, 2, -1);
    dueNode(x, 15, 9, 0, 0, -1);
    dueNode(x, 16, 6, 0, 0, 0);

    sentence("NoSuchElementException: there is no such node, or what is not 0 .. 3.");
    for (int n : new int[] {-1, 17, 59, 60, LEAST, MOST}) {
      for (int what = 0; what < 4; what++) {
        int asked = what;
        dueThrow("node(" + n + ", " + what + ")", ELEMENT, () -> x.node(n, asked));
      }
    }
    for (int what : new int[] {-1, 4, LEAST, MOST}) {
      dueThrow("node(0, " + what + ")", ELEMENT, () -> x.node(0, what));
      dueThrow("node(16, " + what + ")", ELEMENT, () -> x.node(16, what));
      dueThrow("node(17, " + what + ")", ELEMENT, () -> x.node(17, what));
    }
    SharedChoices full = Make.full();
    due("the last of 60", full.node(59, 0), 0);
    dueThrow("behind the last of 60", ELEMENT, () -> full.node(60, 0));

    sentence("(Of a NUMBER, 1 to 3: NONE.)");
    SharedChoices y = new SharedChoices();
    for (long v : new long[] {0, 2, -1, Long.MAX_VALUE}) dueNode(y, y.number(v), 0, -1, -1, -1);
    y.when(1, 2, 3);
    y.clear();
    for (int n = 0; n < 4; n++) y.number(n);
    y.fail();
    dueNode(y, 4, 2, -1, -1, -1);
  }

  // ---- 13, 14: ask, next ----

  private static void ask() {
    sentence("A SEARCH for a node begins, in a MODE (0 .. 2), of a bound (1 .. 60).");
    SharedChoices x = Make.full();
    for (int mode = 0; mode <= 2; mode++) {
      for (int bound : new int[] {1, 2, 59, 60}) {
        dueSearch("node 0, MODE " + mode + ", bound " + bound, x, 0, mode, bound, 0, 1, 1, 0, 0, 0, 1, 0, 1);
        dueSearch("node 59, MODE " + mode + ", bound " + bound, x, 59, mode, bound, 0, 1, 1, 0, 0, 0, 1, 0, 1);
      }
    }
    SharedChoices y = Make.numbers(1);
    y.choice(0, 0);
    y.ask(1, 0, 1);
    due("the first VALUE", y.next(), 1);
    y.ask(1, 0, 1);
    dueCounts("begins: nothing is come to", y, 1, 0, 0, 0, 0, 0, 0, 0, 0);
    due("begins: no DECISION", y.decision(0), -1);
    dueThrow("begins: no TOKEN", ELEMENT, () -> y.token(0, 0));
    due("begins: the first VALUE again", y.next(), 1);
    due("the first VALUE again", y.decision(0), 0);
    due("and the second", y.next(), 1);
    due("and no third", y.next(), 0);
    nothingIsLeft();

    sentence("IllegalArgumentException: there is no such node, or no such MODE or bound; the SEARCH that was goes on.");
    refusedAsks("without a SEARCH", Make.numbers(3), 3);
    SharedChoices none = Make.numbers(3);
    dueThrow("refused", ARGUMENT, () -> none.ask(3, 0, 1));
    dueThrow("none has begun", STATE, none::next);
    y.ask(1, 2, 1);
    due("ahead of refused ones", y.next(), 1);
    refusedAsks("within a SEARCH", y, 2);
    dueCounts("it is where it was", y, 1, 2, 1, 0, 0, 0, 2, 1, 1);
    dueDecisions("it is where it was", y, 0);
    due("it goes on", y.next(), 1);
    dueDecisions("it goes on", y, 1);
    due("to its end", y.next(), 0);
    refusedAsks("behind the end", y, 2);
    due("still at its end", y.next(), 0);
    SharedChoices z = new SharedChoices();
    dueSearch("SPENT", z, Make.ends(z, z.number(0), 101), 0, 1, 2, 200, 100);
    refusedAsks("when it is SPENT", z, z.count(0));
    due("still SPENT", z.next(), 2);
    full();
  }

  /** At its first VALUE a SEARCH still has others to come to, in the next windows too: clear or another ask ends it. */
  private static void nothingIsLeft() {
    for (int mode = 0; mode < 3; mode++) {
      for (int then = 0; then < 6; then++) {
        SharedChoices x = Make.numbers(3);
        int tree = x.choice(x.choice(0, 1), x.choice(2, x.choice(1, 0)));
        x.ask(x.choice(tree, 2), mode, mode == 1 ? 1 : 60);
        due("at its first VALUE", x.next(), 1);
        if (then >= 3) {
          x.clear();
          x.number(9);
        }
        dueSearch("nothing is left of it", x, 0, then % 3, 1, 0, 1, 1, 0, 0, 0, 1, 0, 1);
      }
    }
  }

  private static void refusedAsks(String what, SharedChoices x, int nodes) {
    for (int n : new int[] {-1, nodes, 60, LEAST, MOST}) dueThrow(what + ": node " + n, ARGUMENT, () -> x.ask(n, 0, 1));
    for (int mode : new int[] {-1, 3, LEAST, MOST}) dueThrow(what + ": MODE " + mode, ARGUMENT, () -> x.ask(0, mode, 1));
    for (int k = 0; k < 3; k++) {
      int mode = k;
      for (int bound : new int[] {-1, 0, 61, LEAST, MOST}) {
        dueThrow(what + ": MODE " + mode + ", bound " + bound, ARGUMENT, () -> x.ask(0, mode, bound));
      }
    }
  }

  private static void full() {
    SharedChoices x = Make.full();
    x.ask(59, 0, 1);
    dueThrow("behind the last of 60", ARGUMENT, () -> x.ask(60, 0, 1));
    due("the SEARCH for the last of 60", x.next(), 1);
    dueTokens("the last of 60", x, 0, 59);
  }

  private static void next() {
    sentence("Goes on to the next VALUE: 1; 0 when there is none any more, 2 when it is SPENT (both: also if it was).");
    SharedChoices x = new SharedChoices();
    x.fail();
    x.number(4);
    int one = x.choice(0, x.choice(1, 0));
    x.ask(one, 0, 1);
    due("past what fails", x.next(), 1);
    dueCounts("past what fails", x, 1, 4, 1, 1);
    for (int k = 0; k < 3; k++) {
      due("none any more", x.next(), 0);
      dueCounts("none any more", x, 1, 5, 1, 2);
    }
    x.number(5);
    due("none, whatever is made", x.next(), 0);
    x.ask(0, 0, 1);
    for (int k = 0; k < 3; k++) due("none at all", x.next(), 0);
    dueCounts("none at all", x, 1, 1, 0, 1, 0, 0);
    for (int mode = 0; mode < 3; mode++) {
      SharedChoices y = new SharedChoices();
      int zero = y.number(0);
      int hundred = Make.ends(y, zero, 100);
      int spent = y.choice(hundred, zero);
      dueSearch("not SPENT", y, hundred, mode, 60, 0, 199, 100);
      dueSearch("SPENT", y, spent, mode, 60, 2, 200, 100);
      for (int k = 0; k < 3; k++) due("also if it was", y.next(), 2);
      dueCounts("also if it was", y, 1, 200, 100, 0, 0, 0);
    }

    sentence("IllegalStateException: there is no SEARCH.");
    SharedChoices z = new SharedChoices();
    dueThrow("new", STATE, z::next);
    z.number(1);
    dueThrow("with a node", STATE, z::next);
    z.ask(0, 0, 1);
    dueThrow("with a SEARCH", NOTHING, z::next);
    dueThrow("at its end", NOTHING, z::next);
    z.clear();
    dueThrow("cleared", STATE, z::next);
  }

  // ---- 15 to 17: decision, token, count ----

  private static void decision() {
    sentence("The ALTERNATIVE at DECISION k of the way of the latest VALUE; NONE: there is none such.");
    SharedChoices x = Make.numbers(2);
    due("without a SEARCH", x.decision(0), -1);
    int first = x.choice(0, 1);
    int sum = x.op(0, first, x.choice(0, 1));
    x.ask(sum, 0, 1);
    due("without a VALUE", x.decision(0), -1);
    int[][] ways = {{0, 0}, {0, 1}, {1, 0}, {1, 1}};
    for (int[] way : ways) {
      due("next", x.next(), 1);
      dueDecisions("each VALUE has its own", x, way);
      for (int k : new int[] {LEAST, -1, 2, 3, 32, 63, 64, 65, MOST}) due("decision(" + k + ")", x.decision(k), -1);
    }
    due("no more", x.next(), 0);
    dueDecisions("of the latest VALUE, behind a 0", x, 1, 1);
    int fewer = x.choice(x.op(0, first, first), 0);
    x.ask(fewer, 0, 1);
    for (int k = 0; k < 3; k++) due("next", x.next(), 1);
    dueDecisions("a VALUE with fewer", x, 1);
    int fails = x.choice(first, x.fail());
    x.ask(fails, 0, 1);
    for (int k = 0; k < 2; k++) due("next", x.next(), 1);
    due("what fails is no VALUE", x.next(), 0);
    dueDecisions("of the latest VALUE, behind what failed", x, 0, 1);
    x.ask(0, 0, 1);
    due("a way without any: next", x.next(), 1);
    dueDecisions("a way without any", x);
    spentStays();
  }

  private static void spentStays() {
    SharedChoices x = new SharedChoices();
    int zero = x.number(0);
    int spent = x.choice(Make.ends(x, zero, 100), x.number(5));
    // The 100 ends are 64, then 32, then 4.
    dueSearch("SPENT", x, spent, 0, 1, 2, 200, 100, 0, 0, 0, 6, 5, 1);
    dueDecisions("of the latest VALUE, behind a 2", x, 0, 1, 1, 1, 1);
    dueTokens("of the latest VALUE, behind a 2", x, 0, 0);
  }

  private static void token() {
    sentence("Of TOKEN k of the latest VALUE, what 0: 0 a number, 1 a pair, 2 a list; 1: the number; 2 for a pair; how many values a list has.");
    SharedChoices x = new SharedChoices();
    int least = x.number(Long.MIN_VALUE);
    int none = Make.list(x);
    int list = Make.list(x, 6, 5, 4);
    int pair = x.pair(x.pair(none, list), least);
    dueFirst("each", x, pair, 1, 2, 1, 2, 2, 0, 2, 3, 0, 6, 0, 5, 0, 4, 0, Long.MIN_VALUE);
    due("no more", x.next(), 0);
    dueTokens("of the latest VALUE, behind a 0", x, 1, 2, 1, 2, 2, 0, 2, 3, 0, 6, 0, 5, 0, 4, 0, Long.MIN_VALUE);

    sentence("NoSuchElementException: there is none such, or no such what.");
    for (int k : new int[] {-1, 8, 9, 16, 99, 100, LEAST, MOST}) {
      dueThrow("token(" + k + ", 0)", ELEMENT, () -> x.token(k, 0));
      dueThrow("token(" + k + ", 1)", ELEMENT, () -> x.token(k, 1));
    }
    for (int what : new int[] {-1, 2, 3, LEAST, MOST}) {
      dueThrow("token(0, " + what + ")", ELEMENT, () -> x.token(0, what));
      dueThrow("token(7, " + what + ")", ELEMENT, () -> x.token(7, what));
      dueThrow("token(8, " + what + ")", ELEMENT, () -> x.token(8, what));
    }
    int fewer = x.choice(list, least);
    x.ask(fewer, 0, 1);
    dueThrow("without a VALUE", ELEMENT, () -> x.token(0, 0));
    due("a list: next", x.next(), 1);
    dueTokens("a list", x, 2, 3, 0, 6, 0, 5, 0, 4);
    due("a number: next", x.next(), 1);
    dueTokens("a VALUE with fewer", x, 0, Long.MIN_VALUE);
    x.ask(x.choice(least, x.pair(least, x.fail())), 0, 1);
    due("then one that fails: next", x.next(), 1);
    due("it fails", x.next(), 0);
    dueTokens("of the latest VALUE, behind what failed", x, 0, Long.MIN_VALUE);
    SharedChoices y = new SharedChoices();
    y.ask(Make.tokens(y, 100), 0, 1);
    due("100 TOKENS: next", y.next(), 1);
    due("the last of 100", y.token(99, 1), 1);
    dueThrow("behind the last of 100", ELEMENT, () -> y.token(100, 1));
    dueThrow("without a SEARCH", ELEMENT, () -> new SharedChoices().token(0, 0));
  }

  private static void count() {
    sentence("0 nodes; of the SEARCH (0 without one): 1 PLACES come to, 2 VALUES, 3 FAILED, 4 GIVEN UP, 5 CUT ones; of the way of its latest VALUE (0 without one): 6 LABOUR, 7 DECISIONS, 8 TOKENS.");
    SharedChoices x = new SharedChoices();
    int one = x.number(1);
    dueCounts("without a SEARCH", x, 0, 1, 0, 0, 0, 0, 0, 0, 0, 0);
    int fail = x.fail();
    int six = Make.sets(x, one, 6, 0);
    int pair = x.pair(one, one);
    // Eight ends at the DEPTH 3: a pair, one that fails, one that is GIVEN UP, then five numbers.
    int left = x.choice(x.choice(pair, fail), x.choice(six, one));
    int all = x.choice(left, x.choice(x.choice(one, one), x.choice(one, one)));
    int nodes = x.count(0);
    x.ask(all, 2, 3);
    dueCounts("without a VALUE", x, 0, nodes, 0, 0, 0, 0, 0, 0, 0, 0);
    due("next", x.next(), 1);
    dueCounts("at the first VALUE", x, 0, nodes, 4, 1, 0, 0, 0, 5, 3, 3);
    due("next", x.next(), 1);
    dueCounts("at the second VALUE", x, 0, nodes, 8, 2, 1, 1, 0, 4, 3, 1);
    for (int k = 3; k <= 6; k++) due("next", x.next(), 1);
    dueCounts("at the sixth VALUE", x, 0, nodes, 15, 6, 1, 1, 0, 4, 3, 1);
    due("next", x.next(), 0);
    dueCounts("at the end", x, 0, nodes, 15, 6, 1, 1, 0, 4, 3, 1);
    x.ask(all, 2, 2);
    due("four of the DEPTH 2 are CUT", x.next(), 0);
    dueCounts("four of the DEPTH 2 are CUT", x, 0, nodes, 7, 0, 0, 0, 4, 0, 0, 0);
    x.ask(fail, 0, 1);
    due("none", x.next(), 0);
    dueCounts("without a VALUE, at the end", x, 0, nodes, 1, 0, 1, 0, 0, 0, 0, 0);
    x.clear();
    dueCounts("cleared", x, 0, 0, 0, 0, 0, 0, 0, 0, 0, 0);
    due("60 nodes", Make.full().count(0), 60);

    sentence("NONE for others.");
    for (SharedChoices any : new SharedChoices[] {new SharedChoices(), fullAndAsked()}) {
      for (int what : new int[] {-1, 9, 10, LEAST, MOST}) due("count(" + what + ")", any.count(what), -1);
    }
  }

  public static void main(String[] args) {
    newObject();
    sixty();
    noSuchNode();
    kinds();
    parts();
    clear();
    node();
    ask();
    next();
    decision();
    token();
    count();
    finish();
  }
}
