/** Runs of calls whose answers were worked out by hand from the document, promise by promise. */
public final class PromisesTest extends Due {
  private static void newObject() {
    SharedChoices x = new SharedChoices();
    due("NONE", SharedChoices.NONE, -1);
    dueCounts("new", x, 0, 0, 0, 0, 0, 0, 0, 0, 0, 0);
    due("new: decision", x.decision(0), -1);
    dueThrow("new: next", STATE, x::next);
    dueThrow("new: token", ELEMENT, () -> x.token(0, 0));
    dueThrow("new: node", ELEMENT, () -> x.node(0, 0));
    dueThrow("new: ask", ARGUMENT, () -> x.ask(0, 0, 1));
    dueThrow("new: choice", ARGUMENT, () -> x.choice(0, 0));
    due("new: clear", x.clear(), 0);
  }

  private static void number() {
    SharedChoices x = Make.full();
    due("number at 60", x.number(7), -1);
    due("nothing happens", x.count(0), 60);
    dueNumber("the last number", x, 59, 59);
    SharedChoices y = new SharedChoices();
    y.number(Long.MIN_VALUE);
    y.number(Long.MAX_VALUE);
    dueNumber("least", y, 0, Long.MIN_VALUE);
    dueNumber("greatest", y, 1, Long.MAX_VALUE);
    dueCounts("greatest", y, 0, 2, 1, 1, 0, 0, 0, 1, 0, 1);
  }

  private static void choice() {
    SharedChoices x = new SharedChoices();
    x.number(10);
    x.number(20);
    due("choice", x.choice(1, 0), 2);
    dueThrow("choice: no a", ARGUMENT, () -> x.choice(3, 0));
    dueThrow("choice: no b", ARGUMENT, () -> x.choice(0, 3));
    dueThrow("choice: a below 0", ARGUMENT, () -> x.choice(-1, 0));
    dueThrow("choice: b below 0", ARGUMENT, () -> x.choice(0, -1));
    dueThrow("choice: far", ARGUMENT, () -> x.choice(Integer.MAX_VALUE, Integer.MIN_VALUE));
    due("none was made", x.count(0), 3);
    x.op(0, 2, 2);
    x.ask(3, 0, 1);
    due("choice: first", x.next(), 1);
    dueTokens("choice: what is chosen once is so everywhere", x, 0, 40);
    dueDecisions("choice: first", x, 0);
    due("choice: second", x.next(), 1);
    dueTokens("choice: second", x, 0, 20);
    dueDecisions("choice: second", x, 1);
    due("choice: end", x.next(), 0);
    SharedChoices y = Make.full();
    due("choice at 60", y.choice(0, 59), -1);
    dueThrow("choice at 60: no node", ARGUMENT, () -> y.choice(0, 60));
    due("still 60", y.count(0), 60);
  }

  private static void fail() {
    SharedChoices x = new SharedChoices();
    due("fail", x.fail(), 0);
    dueNoValue("fail", x, 0, 1, 0);
    x.number(1);
    x.choice(0, 1);
    x.ask(2, 0, 1);
    due("fail is left out", x.next(), 1);
    dueDecisions("fail is left out", x, 1);
    dueCounts("fail is left out", x, 1, 3, 1, 1, 0, 0);
    due("fail at 60", Make.full().fail(), -1);
  }

  private static void pair() {
    SharedChoices x = new SharedChoices();
    x.number(1);
    x.fail();
    due("pair", x.pair(0, 0), 2);
    due("pair", x.pair(2, 0), 3);
    dueThrow("pair: no a", ARGUMENT, () -> x.pair(4, 0));
    dueThrow("pair: no b", ARGUMENT, () -> x.pair(0, -1));
    x.ask(3, 0, 1);
    due("pair: next", x.next(), 1);
    dueTokens("pair: those met before again", x, 1, 2, 1, 2, 0, 1, 0, 1, 0, 1);
    due("pair: LABOUR is once a node", x.count(6), 3);
    x.pair(0, 1);
    dueNoValue("pair: in full", x, 4, 1, 0);
    SharedChoices y = Make.full();
    due("pair at 60", y.pair(0, 0), -1);
    dueThrow("pair at 60: no node", ARGUMENT, () -> y.pair(60, 0));
  }

  private static void part() {
    SharedChoices x = new SharedChoices();
    x.number(1);
    x.fail();
    x.pair(0, 1);
    x.pair(1, 0);
    due("first", x.part(2, false), 4);
    due("second", x.part(3, true), 5);
    dueNumber("first: the other is not needed", x, 4, 1);
    due("first: LABOUR", x.count(6), 3);
    dueNumber("second: the other is not needed", x, 5, 1);
    x.part(2, true);
    dueNoValue("second of a failing one", x, 6, 1, 0);
    x.part(0, false);
    dueNoValue("first of a number", x, 7, 1, 0);
    x.set(0, 0);
    x.part(8, true);
    dueNoValue("second of a list", x, 9, 1, 0);
    dueThrow("part: no a", ARGUMENT, () -> x.part(10, true));
    dueThrow("part: below 0", ARGUMENT, () -> x.part(-1, false));
    SharedChoices y = Make.full();
    due("part at 60", y.part(0, true), -1);
    dueThrow("part at 60: no node", ARGUMENT, () -> y.part(60, true));
  }

  private static void dueOp(int kind, long a, long b, long want) {
    SharedChoices x = new SharedChoices();
    x.number(a);
    x.number(b);
    due("op", x.op(kind, 0, 1), 2);
    dueNumber("op " + kind + " of " + a + " and " + b, x, 2, want);
    due("op: LABOUR", x.count(6), 3);
  }

  private static void op() {
    long least = Long.MIN_VALUE;
    long most = Long.MAX_VALUE;
    dueOp(0, 2, 3, 5);
    dueOp(0, most, 1, least);
    dueOp(1, 2, 3, -1);
    dueOp(1, least, 1, most);
    dueOp(2, -4, 3, -12);
    dueOp(2, most, 2, -2);
    dueOp(3, 7, 2, 3);
    dueOp(3, -7, 2, -3);
    dueOp(3, 7, -2, -3);
    dueOp(3, least, -1, least);
    dueOp(4, 1, 2, 1);
    dueOp(4, 2, 2, 0);
    dueOp(4, 3, 2, 0);
    dueOp(4, least, most, 1);
    dueOp(5, 2, 2, 1);
    dueOp(5, 1L << 32, 0, 0);
    SharedChoices x = new SharedChoices();
    x.number(1);
    x.number(0);
    x.op(3, 0, 1);
    dueNoValue("by 0", x, 2, 1, 0);
    dueThrow("op: kind -1", ARGUMENT, () -> x.op(-1, 0, 0));
    dueThrow("op: kind 6", ARGUMENT, () -> x.op(6, 0, 0));
    dueThrow("op: no a", ARGUMENT, () -> x.op(0, 3, 0));
    dueThrow("op: no b", ARGUMENT, () -> x.op(0, 0, 3));
    due("none was made", x.count(0), 3);
    SharedChoices y = Make.full();
    due("op at 60", y.op(0, 0, 0), -1);
    dueThrow("op at 60: kind", ARGUMENT, () -> y.op(6, 0, 0));
    dueThrow("op at 60: no node", ARGUMENT, () -> y.op(0, 0, 60));
  }

  /** An operand that is no number fails when it is there: ahead of the other's DECISION. */
  private static void opOfOthers() {
    SharedChoices x = new SharedChoices();
    x.number(1);
    x.choice(0, 0);
    x.pair(0, 0);
    x.set(0, 0);
    x.op(0, 2, 1);
    dueNoValue("op: a pair first", x, 4, 1, 0);
    due("op: a pair first, PLACES", x.count(1), 1);
    x.op(5, 1, 3);
    dueNoValue("op: a list second", x, 5, 2, 0);
    due("op: a list second, PLACES", x.count(1), 3);
  }

  private static void when() {
    SharedChoices x = new SharedChoices();
    x.number(0);
    x.number(-5);
    x.fail();
    x.pair(0, 0);
    due("when", x.when(1, 0, 2), 4);
    dueNumber("when not 0", x, 4, 0);
    x.when(0, 2, 1);
    dueNumber("when 0", x, 5, -5);
    x.when(3, 1, 1);
    dueNoValue("when a pair", x, 6, 1, 0);
    x.when(0, 1, 2);
    dueNoValue("when 0, the other fails", x, 7, 1, 0);
    dueThrow("when: no c", ARGUMENT, () -> x.when(8, 0, 0));
    dueThrow("when: no a", ARGUMENT, () -> x.when(0, 8, 0));
    dueThrow("when: no b", ARGUMENT, () -> x.when(0, 0, 8));
    SharedChoices y = Make.full();
    due("when at 60", y.when(0, 0, 0), -1);
    dueThrow("when at 60: no node", ARGUMENT, () -> y.when(0, 0, 60));
  }

  private static void set() {
    SharedChoices x = new SharedChoices();
    x.number(1);
    x.number(2);
    x.choice(0, 1);
    x.pair(2, 2);
    due("set", x.set(3, 0), 4);
    dueThrow("set: no a", ARGUMENT, () -> x.set(5, 0));
    dueThrow("set: m below 0", ARGUMENT, () -> x.set(0, -1));
    dueThrow("set: m above", ARGUMENT, () -> x.set(0, 6));
    x.ask(4, 2, 1);
    due("set: next", x.next(), 1);
    dueTokens("set: in full", x, 2, 2, 1, 2, 0, 1, 0, 1, 1, 2, 0, 2, 0, 2);
    dueDecisions("set: its DECISIONS are its own", x);
    dueCounts("set", x, 1, 1, 1, 0, 0, 0, 7);
    x.choice(0, 0);
    x.fail();
    x.choice(6, 5);
    due("set of all inside but itself", x.set(7, 8), 8);
    x.set(7, 0);
    x.ask(9, 0, 1);
    due("set: alike ones", x.next(), 1);
    dueTokens("set: alike ones too, failing ones left out", x, 2, 2, 0, 1, 0, 1);
    x.set(6, 0);
    x.ask(10, 0, 1);
    due("set of none", x.next(), 1);
    dueTokens("set of none", x, 2, 0);
    SharedChoices y = Make.full();
    due("set at 60", y.set(0, 60), -1);
    dueThrow("set at 60: m", ARGUMENT, () -> y.set(0, 61));
    dueThrow("set at 60: no node", ARGUMENT, () -> y.set(60, 0));
  }

  /** A node OUTSIDE is worked out around, and the SET begins anew; what was laboured stays. */
  private static void setAnew() {
    SharedChoices x = new SharedChoices();
    x.number(1);
    x.number(2);
    x.choice(0, 1);
    x.number(10);
    x.choice(3, 2);
    x.op(0, 4, 2);
    x.set(5, 3);
    x.ask(6, 0, 1);
    due("anew: next", x.next(), 1);
    dueTokens("anew: node 2 is chosen around", x, 2, 2, 0, 11, 0, 2);
    dueDecisions("anew", x, 0);
    // 6; its way 5, 4, 3, then 2 is needed: 2, 0; anew 5, 4, 3; and 5, 4.
    due("anew: LABOUR", x.count(6), 11);
    due("anew: second", x.next(), 1);
    dueTokens("anew: second", x, 2, 2, 0, 12, 0, 4);
    dueDecisions("anew: second", x, 1);
    due("anew: end", x.next(), 0);
  }

  /** Two SETS are given up for a node that is INSIDE to the way of the SEARCH alone. */
  private static void setsAnew() {
    SharedChoices x = new SharedChoices();
    x.number(5);
    x.choice(0, 0);
    x.number(7);
    x.pair(2, 1);
    x.set(3, 3);
    x.set(4, 2);
    x.ask(5, 0, 1);
    due("two anew: next", x.next(), 1);
    dueTokens("two anew", x, 2, 1, 2, 1, 1, 2, 0, 7, 0, 5);
    // 5, 4, 3; 2 is worked out by the way of 5; 3; 1 is needed: 1, 0 by that of the SEARCH;
    // anew: 4, 3; 2; 3.
    due("two anew: LABOUR", x.count(6), 11);
    dueDecisions("two anew: the CHOICE is that of the SEARCH", x, 0);
    due("two anew: second", x.next(), 1);
    dueDecisions("two anew: second", x, 1);
    SharedChoices y = new SharedChoices();
    y.fail();
    y.set(0, 1);
    dueNoValue("what fails around", y, 1, 1, 0);
    due("PLACES", y.count(1), 1);
  }

  private static void dueFold(int kind, int list, SharedChoices x, long want) {
    dueNumber("fold " + kind + " of " + list, x, x.fold(kind, list), want);
  }

  private static void fold() {
    SharedChoices x = new SharedChoices();
    x.number(4);
    x.number(-9);
    x.choice(0, 1);
    x.set(2, 0);
    x.fail();
    x.set(4, 0);
    x.pair(0, 1);
    x.choice(0, 6);
    x.set(7, 0);
    dueFold(0, 3, x, 2);
    dueFold(1, 3, x, -5);
    dueFold(2, 3, x, -9);
    dueFold(0, 5, x, 0);
    dueFold(1, 5, x, 0);
    dueNoValue("least of none", x, x.fold(2, 5), 1, 0);
    dueFold(0, 8, x, 2);
    dueNoValue("sum with a pair", x, x.fold(1, 8), 1, 0);
    dueNoValue("least with a pair", x, x.fold(2, 8), 1, 0);
    dueNoValue("fold of a number", x, x.fold(0, 0), 1, 0);
    int nested = x.set(5, 0);
    dueFold(0, nested, x, 1);
    dueNoValue("sum with a list", x, x.fold(1, nested), 1, 0);
    dueThrow("fold: kind -1", ARGUMENT, () -> x.fold(-1, 3));
    dueThrow("fold: kind 3", ARGUMENT, () -> x.fold(3, 3));
    dueThrow("fold: no a", ARGUMENT, () -> x.fold(0, 60));
    SharedChoices y = Make.full();
    due("fold at 60", y.fold(0, 0), -1);
    dueThrow("fold at 60: kind", ARGUMENT, () -> y.fold(3, 0));
    dueThrow("fold at 60: no node", ARGUMENT, () -> y.fold(0, 60));
  }

  private static void clear() {
    SharedChoices x = Make.full();
    x.ask(3, 0, 1);
    due("clear: next", x.next(), 1);
    due("clear", x.clear(), 60);
    dueCounts("clear", x, 0, 0, 0, 0, 0, 0, 0, 0, 0, 0);
    dueThrow("clear: next", STATE, x::next);
    dueThrow("clear: token", ELEMENT, () -> x.token(0, 0));
    dueThrow("clear: node", ELEMENT, () -> x.node(0, 0));
    due("clear: from 0 on", x.fail(), 0);
    due("clear again", x.clear(), 1);
    x.number(8);
    dueNumber("clear: anew", x, 0, 8);
  }

  private static void dueNode(SharedChoices x, int n, int... want) {
    for (int what = 0; what < 4; what++) due("node(" + n + ", " + what + ")", x.node(n, what), want[what]);
  }

  private static void node() {
    SharedChoices x = new SharedChoices();
    x.number(77);
    x.number(78);
    x.choice(1, 0);
    x.fail();
    x.pair(2, 1);
    x.part(4, false);
    x.part(3, true);
    x.op(5, 1, 2);
    x.when(3, 4, 5);
    x.set(8, 9);
    x.fold(2, 9);
    dueNode(x, 0, 0, -1, -1, -1);
    dueNode(x, 2, 1, 1, 0, -1);
    dueNode(x, 3, 2, -1, -1, -1);
    dueNode(x, 4, 3, 2, 1, -1);
    dueNode(x, 5, 4, 4, -1, -1);
    dueNode(x, 6, 5, 3, -1, -1);
    dueNode(x, 7, 6, 1, 2, 5);
    dueNode(x, 8, 7, 3, 4, 5);
    dueNode(x, 9, 8, 8, 9, -1);
    dueNode(x, 10, 9, 9, 2, -1);
    dueThrow("node: none", ELEMENT, () -> x.node(11, 0));
    dueThrow("node: below 0", ELEMENT, () -> x.node(-1, 0));
    dueThrow("node: what -1", ELEMENT, () -> x.node(0, -1));
    dueThrow("node: what 4", ELEMENT, () -> x.node(0, 4));
  }

  private static void ask() {
    SharedChoices x = new SharedChoices();
    x.number(1);
    x.choice(0, 0);
    dueThrow("ask: last bound", NOTHING, () -> x.ask(1, 2, 60));
    dueThrow("ask: first bound", NOTHING, () -> x.ask(1, 1, 1));
    due("ask: next", x.next(), 1);
    dueThrow("ask: no node", ARGUMENT, () -> x.ask(2, 0, 1));
    dueThrow("ask: node below 0", ARGUMENT, () -> x.ask(-1, 0, 1));
    dueThrow("ask: MODE -1", ARGUMENT, () -> x.ask(0, -1, 1));
    dueThrow("ask: MODE 3", ARGUMENT, () -> x.ask(0, 3, 1));
    dueThrow("ask: bound 0", ARGUMENT, () -> x.ask(0, 0, 0));
    dueThrow("ask: bound 61", ARGUMENT, () -> x.ask(0, 0, 61));
    dueCounts("the SEARCH that was goes on", x, 1, 2, 1, 0, 0, 0, 2, 1, 1);
    x.number(3);
    due("nodes made later do not matter", x.next(), 1);
    due("end", x.next(), 0);
    dueCounts("the latest VALUE stays", x, 1, 3, 2, 0, 0, 0, 2, 1, 1);
    dueDecisions("the latest VALUE stays", x, 1);
    x.ask(0, 0, 1);
    dueCounts("a new SEARCH has come to nothing", x, 1, 0, 0, 0, 0, 0, 0, 0, 0);
    due("no VALUE, no DECISION", x.decision(0), -1);
    dueThrow("no VALUE, no TOKEN", ELEMENT, () -> x.token(0, 0));
  }

  private static void spent() {
    for (int mode = 0; mode < 3; mode++) {
      SharedChoices x = new SharedChoices();
      int hundred = Make.ends(x, x.number(0), 100);
      int oneMore = x.choice(hundred, 0);
      x.ask(hundred, mode, mode == 1 ? 3 : 60);
      for (int k = 0; k < 100; k++) due("100 ways: next", x.next(), 1);
      due("100 ways: end", x.next(), 0);
      dueCounts("100 ways", x, 1, 199, 100, 0, 0, 0);
      x.ask(oneMore, mode, mode == 1 ? 3 : 60);
      int values = 0;
      while (values < 200 && x.next() == 1) values++;
      due("101 ways: values", values, 100);
      due("101 ways: SPENT", x.next(), 2);
      due("101 ways: still", x.next(), 2);
      dueCounts("101 ways", x, 1, 200, 100, 0, 0, 0);
      due("101 ways: the latest VALUE stays", x.count(8), 1);
    }
  }

  /** WINDOWS: a tree whose left side is deeper, in windows of 2. */
  private static void windows() {
    SharedChoices x = new SharedChoices();
    x.number(1);
    x.number(2);
    x.number(3);
    x.number(4);
    x.choice(0, 1);
    x.choice(4, 2);
    x.choice(5, 3);
    x.ask(6, 1, 2);
    long[] values = {4, 1, 2, 3};
    int[] places = {3, 5, 6, 7};
    int[][] decisions = {{1}, {0, 0, 0}, {0, 0, 1}, {0, 1}};
    for (int k = 0; k < 4; k++) {
      due("WINDOWS: next", x.next(), 1);
      due("WINDOWS: value", x.token(0, 1), values[k]);
      due("WINDOWS: PLACES", x.count(1), places[k]);
      dueDecisions("WINDOWS", x, decisions[k]);
    }
    due("WINDOWS: end", x.next(), 0);
    x.ask(6, 0, 2);
    for (int k = 1; k <= 4; k++) {
      due("DEEP: next", x.next(), 1);
      due("DEEP: value", x.token(0, 1), k);
    }
    due("DEEP: end", x.next(), 0);
    x.ask(6, 2, 1);
    due("BOUNDED: next", x.next(), 1);
    due("BOUNDED: value", x.token(0, 1), 4);
    dueCounts("BOUNDED", x, 1, 3, 1, 0, 0, 1);
    due("BOUNDED: end", x.next(), 0);
  }

  private static void tokens() {
    SharedChoices x = new SharedChoices();
    x.number(-3);
    x.set(0, 0);
    x.pair(1, 0);
    x.ask(2, 0, 1);
    dueThrow("token: ahead of a VALUE", ELEMENT, () -> x.token(0, 0));
    due("token: next", x.next(), 1);
    dueTokens("token", x, 1, 2, 2, 1, 0, -3, 0, -3);
    dueThrow("token: k -1", ELEMENT, () -> x.token(-1, 0));
    dueThrow("token: what -1", ELEMENT, () -> x.token(0, -1));
    dueThrow("token: what 2", ELEMENT, () -> x.token(0, 2));
    due("token: end", x.next(), 0);
    dueTokens("token: the latest VALUE stays", x, 1, 2, 2, 1, 0, -3, 0, -3);
    due("count: -1", x.count(-1), -1);
    due("count: 9", x.count(9), -1);
  }

  /** FAILS or is GIVEN UP, by whether the FAIL or the 101st TOKEN is come to first. */
  private static void mostTokens() {
    SharedChoices x = new SharedChoices();
    int one = x.number(1);
    int fail = x.fail();
    int pair = one;
    for (int k = 0; k < 4; k++) pair = x.pair(pair, pair);
    int of31 = pair;
    int of63 = x.pair(of31, of31);
    int of97 = x.pair(x.pair(of31, of63), one);
    int listOf2 = x.set(one, 0);
    int of100 = x.pair(of97, listOf2);
    x.ask(of100, 0, 1);
    due("100 TOKENS: next", x.next(), 1);
    due("100 TOKENS", x.count(8), 100);
    int listOf3 = x.set(x.choice(one, one), 0);
    dueNoValue("101 TOKENS by a list", x, x.pair(of97, listOf3), 0, 1);
    int of99 = x.pair(of97, one);
    dueNoValue("101 TOKENS", x, x.pair(of99, one), 0, 1);
    dueNoValue("FAIL as the 101st", x, x.pair(of99, fail), 1, 0);
    dueNoValue("FAIL behind the 101st", x, x.pair(of99, x.pair(fail, fail)), 0, 1);
    dueNoValue("a list of 101 TOKENS", x, x.fold(0, x.set(of100, 0)), 0, 1);
    x.ask(x.set(of99, 0), 0, 1);
    due("a list of 100 TOKENS", x.next(), 1);
    due("a list of 100 TOKENS", x.count(8), 100);
    x.ask(x.set(x.choice(of99, x.pair(of99, fail)), 0), 0, 1);
    due("the list is asked when a value of it is there", x.next(), 1);
    due("the list is asked when a value of it is there", x.count(8), 100);
  }

  private static void mostListed() {
    SharedChoices x = new SharedChoices();
    int most = Make.ends(x, x.number(0), 99);
    dueNumber("a list of 99 numbers", x, x.fold(0, x.set(most, 0)), 99);
    int fail = x.fail();
    dueNumber("99 and failing ones", x, x.fold(0, x.set(x.choice(most, fail), 0)), 99);
    dueNoValue("a list of 100 numbers", x, x.fold(0, x.set(x.choice(most, 0), 0)), 0, 1);
  }

  private static void mostLabour() {
    SharedChoices x = new SharedChoices();
    int number = x.number(1);
    int[] choices = new int[8];
    for (int k = 1; k <= 7; k++) choices[k] = x.choice(number, number);
    int[] ops = new int[8];
    ops[0] = x.fail();
    for (int k = 1; k <= 7; k++) ops[k] = x.op(0, choices[k], ops[k - 1]);
    // Its 128 ways cost 15 each; the way that needed the number 2, then FOLD, SET, number.
    int big = x.fold(0, x.set(ops[7], 1));
    x.ask(big, 0, 1);
    due("LABOUR: next", x.next(), 1);
    due("LABOUR", x.count(6), 1925);
    int last = x.op(0, big, x.fold(0, x.set(ops[3], 1)));
    for (int k = 0; k < 16; k++) last = x.op(0, last, last);
    x.ask(last, 0, 1);
    due("LABOUR of 2000: next", x.next(), 1);
    due("LABOUR of 2000", x.count(6), 2000);
    dueNoValue("LABOUR of 2001", x, x.op(0, last, last), 0, 1);
  }

  private static void mostSets() {
    SharedChoices x = new SharedChoices();
    int n = x.number(1);
    for (int k = 0; k < 5; k++) n = x.set(n, 0);
    x.ask(n, 0, 1);
    due("five SETS: next", x.next(), 1);
    dueTokens("five SETS", x, 2, 1, 2, 1, 2, 1, 2, 1, 2, 1, 0, 1);
    due("five SETS: LABOUR", x.count(6), 6);
    dueNoValue("six SETS", x, x.set(n, 0), 0, 1);
    int around = x.set(n, n + 1);
    x.ask(around, 0, 1);
    due("the SET that was given up is none of them: next", x.next(), 1);
    due("the SET that was given up is none of them: TOKENS", x.count(8), 7);
  }

  /** A SET of 64 ways, each with six lists of 99 TOKENS of its own: they do not add up. */
  private static void manyLists() {
    SharedChoices x = new SharedChoices();
    int one = x.number(1);
    int pair = one;
    for (int k = 0; k < 4; k++) pair = x.pair(pair, pair);
    int of63 = x.pair(pair, pair);
    int of98 = x.pair(x.pair(pair, of63), x.set(one, 0));
    int outside = x.count(0);
    int sum = -1;
    for (int k = 0; k < 6; k++) {
      int many = x.op(0, x.fold(0, x.set(of98, outside)), x.choice(one, one));
      sum = sum < 0 ? many : x.op(0, sum, many);
    }
    dueNumber("many lists", x, x.fold(1, x.set(sum, outside)), 64 * 12);
    // 64 ways of 29; nine times 8 for what is OUTSIDE, which costs 10 itself; FOLD, SET.
    dueCounts("many lists", x, 1, 1, 1, 0, 0, 0, 64 * 29 + 9 * 8 + 10 + 2);
  }

  public static void main(String[] args) {
    newObject();
    number();
    choice();
    fail();
    pair();
    part();
    op();
    opOfOthers();
    when();
    set();
    setAnew();
    setsAnew();
    fold();
    clear();
    node();
    ask();
    spent();
    windows();
    tokens();
    mostTokens();
    mostListed();
    mostLabour();
    mostSets();
    manyLists();
    finish();
  }
}
