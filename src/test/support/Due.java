import java.io.IOException;
import java.nio.file.Files;
import java.nio.file.Path;

/** What the tests by hand share: an answer against the one that is due, told with the sentence that asks for it. */
class Due {
  static final String NOTHING = "nothing";
  static final String ARGUMENT = "IllegalArgumentException";
  static final String STATE = "IllegalStateException";
  static final String ELEMENT = "NoSuchElementException";

  private static final String DOCUMENT = readDocument();

  /** A class that is wrong at its root would fill the log otherwise; finish tells how many there were. */
  private static final int MOST_TOLD = 1000;

  private static String sentence = "";
  private static int wrong = 0;

  interface Call { void run(); }

  /** The document with all its white space as single blanks; null where it can't be read. */
  private static String readDocument() {
    try {
      return Files.readString(Path.of("../shared/DOC.md")).replaceAll("\\s+", " ");
    } catch (IOException e) {
      System.out.println("the document can't be read: its sentences are not held against it");
      return null;
    }
  }

  /** What follows tests this sentence, which must stand so in the document. */
  static void sentence(String words) {
    sentence = words;
    if (DOCUMENT != null && !DOCUMENT.contains(words)) tellWrong("the document has no such words");
  }

  private static void tellWrong(String what) {
    wrong++;
    if (wrong <= MOST_TOLD) System.out.println((sentence.isEmpty() ? "" : "\"" + sentence + "\": ") + what);
  }

  static void due(String what, long got, long want) {
    if (got != want) tellWrong(what + ": answered " + got + ", due is " + want);
  }

  static void dueText(String what, String got, String want) {
    if (!got.equals(want)) tellWrong(what + ": answered " + got + ", due is " + want);
  }

  static void dueThrow(String what, String want, Call call) {
    String got = NOTHING;
    try {
      call.run();
    } catch (RuntimeException e) {
      got = e.getClass().getSimpleName();
    }
    if (!got.equals(want)) tellWrong(what + ": throws " + got + ", due is " + want);
  }

  /** The counts from the first one on. */
  static void dueCounts(String what, SharedChoices x, int first, int... want) {
    for (int k = 0; k < want.length; k++) due(what + ": count(" + (first + k) + ")", x.count(first + k), want[k]);
  }

  /** Tokens as pairs of kind and number. */
  static void dueTokens(String what, SharedChoices x, long... want) {
    due(what + ": count(8)", x.count(8), want.length / 2);
    for (int k = 0; k < want.length / 2 && k < x.count(8); k++) {
      due(what + ": token(" + k + ", 0)", x.token(k, 0), want[2 * k]);
      due(what + ": token(" + k + ", 1)", x.token(k, 1), want[2 * k + 1]);
    }
    int past = want.length / 2;
    dueThrow(what + ": token behind the last", ELEMENT, () -> x.token(past, 0));
  }

  static void dueDecisions(String what, SharedChoices x, int... want) {
    due(what + ": count(7)", x.count(7), want.length);
    for (int k = 0; k < want.length; k++) due(what + ": decision(" + k + ")", x.decision(k), want[k]);
    due(what + ": decision behind the last", x.decision(want.length), SharedChoices.NONE);
    due(what + ": decision(-1)", x.decision(-1), SharedChoices.NONE);
  }

  /** The one way of a node ends as a number. */
  static void dueNumber(String what, SharedChoices x, int n, long want) {
    x.ask(n, 0, 1);
    due(what + ": next()", x.next(), 1);
    dueTokens(what, x, 0, want);
    due(what + ": next() again", x.next(), 0);
  }

  /** Next finds no value; how many ways failed and were given up. */
  static void dueNoValue(String what, SharedChoices x, int n, int failed, int givenUp) {
    x.ask(n, 0, 1);
    due(what + ": next()", x.next(), 0);
    dueCounts(what, x, 2, 0, failed, givenUp, 0, 0, 0, 0);
  }

  /** The first way of a node, DEEP, ends as a value of these tokens. */
  static void dueFirst(String what, SharedChoices x, int n, long... tokens) {
    x.ask(n, 0, 1);
    due(what + ": next()", x.next(), 1);
    dueTokens(what, x, tokens);
  }

  /** The whole search, to what next answers at its end: PLACES, VALUES, FAILED, GIVEN UP, CUT. */
  static void dueSearch(String what, SharedChoices x, int n, int mode, int bound, int end, int... counts) {
    x.ask(n, mode, bound);
    int values = 0;
    int answer = x.next();
    while (answer == 1 && values < 200) {
      values++;
      answer = x.next();
    }
    due(what + ": the last next()", answer, end);
    due(what + ": how often next() answered 1", values, counts[1]);
    dueCounts(what, x, 1, counts);
  }

  /** The numbers that a search tells, each with the PLACES that were come to with it. */
  static void dueOrder(String what, SharedChoices x, int n, int mode, int bound, long... want) {
    x.ask(n, mode, bound);
    for (int k = 0; k + 1 < want.length; k += 2) {
      due(what + ": next()", x.next(), 1);
      if (x.count(8) == 1) due(what + ": value " + k / 2, x.token(0, 1), want[k]);
      due(what + ": PLACES with value " + k / 2, x.count(1), want[k + 1]);
    }
    due(what + ": next() at the end", x.next(), 0);
  }

  static void finish() {
    System.out.println(wrong == 0 ? "all answers are as due" : wrong + " answers are not as due");
    if (wrong != 0) System.exit(1);
  }
}
