import java.lang.reflect.Method;
import java.nio.charset.StandardCharsets;
import java.nio.file.Files;
import java.nio.file.Path;
import java.util.ArrayList;
import java.util.Arrays;
import java.util.List;

/**
 * A test of its own for each sentence of the document that names a boundary case. Each method whose
 * name begins with "promise" is one; the number in it is the promise that the sentence belongs to.
 *
 * A test that calls still(..) shows both the answer and that nothing is changed: the run of calls is
 * done again on new objects, with the call and without, and all that an object tells is compared, as
 * it stands, after each undo() and after restore(). No object gets more than 512 calls.
 */
public final class FloorTopsEdges {
  private interface Call {
    int on(FloorTops x);
  }

  private static final int UNKNOWN = -1;
  private static final int BAD = -2;
  private static final int FULL = -3;
  private static final int NONE = -5;
  private static final int MOST_CALLS = 512;
  private static final int MIN = Integer.MIN_VALUE;
  private static final int MAX = Integer.MAX_VALUE;
  private static final int ALL = (1 << 26) - 1;

  private static final int[] NO_SUMMARY = {-1, 4, 5, MIN, MAX};
  private static final int[] NOT_TOLD = {-1, 5, 6, MIN, MAX};
  private static final int[] NO_WEIGHT = {0, 100, -1, MIN, MAX};
  private static final char[] NO_LETTER = {'`', '{', 'A', 'Z', '0', ' ', (char) 0, (char) 225, (char) 353, (char) 65535};

  private static final List<Call> LOOKS = looks();
  private static final List<Call> NOTHING = List.of();

  private static final List<Call> run = new ArrayList<>();
  private static FloorTops object = null;
  private static int calls = 0;
  private static String test = "";
  private static String document = "";
  /** Its lines between "## Terms" and "## Not promised". */
  private static List<String> lines = List.of();
  private static final List<String> quotes = new ArrayList<>();
  private static boolean quoted = false;
  private static int wrong = 0;
  /** What the run tells without the call that is looked at; null if the run has grown since. */
  private static List<int[]> without = null;

  // ---- the tools

  private static List<Call> looks() {
    List<Call> looks = new ArrayList<>();
    for (int s = 0; s <= 4; s++) {
      lookAtSummary(looks, s);
    }
    for (int back = 0; back <= 8; back++) {
      for (int what = 0; what <= 3; what++) {
        int b = back;
        int w = what;
        looks.add(x -> x.event(b, w));
        looks.add(x -> x.block(b, w));
      }
    }
    for (int what = 0; what <= 7; what++) {
      int w = what;
      looks.add(x -> x.count(w));
    }
    return looks;
  }

  private static void lookAtSummary(List<Call> looks, int s) {
    for (int what = 0; what <= 6; what++) {
      int w = what;
      looks.add(x -> x.summary(s, w));
    }
    for (char c = 'a'; c <= 'z'; c++) {
      char letter = c;
      for (int what = 0; what <= 4; what++) {
        int w = what;
        looks.add(x -> x.bound(s, letter, w));
      }
    }
    looks.add(x -> x.wouldEvict(s, 'a'));
    looks.add(x -> x.wouldEvict(s, 'z'));
    looks.add(x -> x.top(s, 0, 0));
    looks.add(x -> x.first(s, 2, true));
    looks.add(x -> x.above(s, 10, false));
    looks.add(x -> x.rank(s, 'm', true));
    looks.add(x -> x.alike(s, 0));
  }

  /** Begins a test: a new object, and the words of the document that it is about. */
  private static void says(String... words) {
    fresh();
    quoted = true;
    for (String quote : words) {
      quotes.add(plain(quote));
      if (!document.isEmpty() && !document.contains(plain(quote))) {
        fail("the document doesn't say: " + quote);
      }
    }
  }

  private static void fresh() {
    run.clear();
    without = null;
    object = new FloorTops();
    calls = 0;
  }

  private static String plain(String text) {
    return text.replace("`", "").replaceAll("\\s+", " ");
  }

  private static void fail(String what) {
    wrong++;
    int line = 0;
    for (StackTraceElement e : Thread.currentThread().getStackTrace()) {
      if (line == 0 && e.getMethodName().equals(test)) {
        line = e.getLineNumber();
      }
    }
    System.out.println(test + ", line " + line + ": " + what);
  }

  private static int answer(Call call) {
    calls++;
    if (calls > MOST_CALLS) {
      fail("more than 512 calls");
    }
    return call.on(object);
  }

  /** A call whose answer is judged elsewhere. */
  private static void with(Call call) {
    run.add(call);
    without = null;
    answer(call);
  }

  private static void due(int want, Call call) {
    run.add(call);
    without = null;
    judge(want, answer(call));
  }

  private static void judge(int want, int got) {
    if (got != want) {
      fail("answered " + got + ", due is " + want);
    }
  }

  /** The answer is due, and nothing at all is changed by the call. */
  private static void still(int want, Call call) {
    judge(want, answer(call));
    if (without == null) {
      without = everything(run);
    }
    List<Call> longer = new ArrayList<>(run);
    longer.add(call);
    compare(without, everything(longer));
  }

  private static void compare(List<int[]> one, List<int[]> two) {
    for (int i = 0; i < one.size(); i++) {
      if (!Arrays.equals(one.get(i), two.get(i))) {
        fail("something is changed (view " + i + ": 0 is as it stands, 1 to 5 behind undo(), 6 behind "
            + "restore(), 7 behind what the text does)");
        return;
      }
    }
  }

  private static List<int[]> everything(List<Call> calls) {
    List<int[]> views = new ArrayList<>();
    List<Call> undone = new ArrayList<>();
    views.add(view(calls, NOTHING));
    for (int i = 0; i < 5; i++) {
      undone.add(x -> x.undo());
      views.add(view(calls, undone));
    }
    views.add(view(calls, List.of(x -> x.restore())));
    views.add(view(calls, List.of(x -> x.flowAll(), x -> x.perform(), x -> x.feed(2), x -> x.type('!'))));
    return views;
  }

  /** All that is told after the calls and those behind them, whose answers count, too. */
  private static int[] view(List<Call> calls, List<Call> behind) {
    int[] answers = new int[LOOKS.size() + behind.size()];
    int room = MOST_CALLS - calls.size() - behind.size();
    if (room < 50) {
      fail("the run is too long to be looked at");
      return answers;
    }
    for (int from = 0; from < LOOKS.size(); from += room) {
      FloorTops x = new FloorTops();
      for (Call call : calls) {
        call.on(x);
      }
      for (int i = 0; i < behind.size(); i++) {
        answers[LOOKS.size() + i] = behind.get(i).on(x);
      }
      for (int i = from; i < Math.min(LOOKS.size(), from + room); i++) {
        answers[i] = LOOKS.get(i).on(x);
      }
    }
    return answers;
  }

  private static void text(String text) {
    with(x -> x.clearText());
    for (char c : text.toCharArray()) {
      with(x -> x.type(c));
    }
  }

  private static void feed(int summary, String text) {
    text(text);
    with(x -> x.feed(summary));
  }

  private static void flow(String text) {
    text(text);
    with(x -> x.flowAll());
  }

  private static int bits(String letters) {
    int bits = 0;
    for (char c : letters.toCharArray()) {
      bits |= 1 << c - 'a';
    }
    return bits;
  }

  private static String times(int many, String text) {
    return text.repeat(many);
  }

  /** Makes the sum of an empty summary what is wanted, all of it of the letter a; 3 stays empty. */
  private static void fill(int summary, int sum) {
    int steps = 0;
    while (sum >> steps > 99) {
      steps++;
    }
    int first = sum >> steps;
    with(x -> x.arrive(summary, 'a', first));
    for (int i = steps - 1; i >= 0; i--) {
      with(x -> x.copy(3, summary));
      with(x -> x.merge(summary, 3));
      if ((sum >> i & 1) != 0) {
        with(x -> x.arrive(summary, 'a', 1));
      }
    }
    due(sum, x -> x.summary(summary, 3));
  }

  /** Something in each corner: four states to undo, a snapshot, events, two blocks and a text. */
  private static void busy() {
    with(x -> x.setSize(0, 2));
    feed(0, "a5,b2,c1");
    feed(1, "d3,e3,f9,g,h4");
    with(x -> x.keep());
    flow("a,b,c,d,e,f,g,h,i");
    with(x -> x.merge(2, 0));
    feed(0, "x7,y,z3");
    text("b3,c");
  }

  // ---- promise 1: a new object

  static void promise01_constants() {
    says("Errors are reported by the constants below.", "`UNKNOWN = -1`: There is no such summary, letter or counter.",
        "`BAD_VALUE = -2`: Another argument is out of range.", "`FULL = -3`: There is no more room.",
        "`NOT_POSSIBLE = -4`: This is not possible.", "`NONE = -5`: There is no such thing; not an error.");
    due(-1, x -> FloorTops.UNKNOWN);
    due(-2, x -> FloorTops.BAD_VALUE);
    due(-3, x -> FloorTops.FULL);
    due(-4, x -> FloorTops.NOT_POSSIBLE);
    due(-5, x -> FloorTops.NONE);
  }

  static void promise01_firstSizes() {
    says("A summary has a size (2 to 10, at first 4)");
    for (int i = 0; i <= 4; i++) {
      int s = i;
      due(4, x -> x.summary(s, 0));
    }
  }

  static void promise01_floorAndSum() {
    says("a floor and a sum (at first 0;");
    for (int i = 0; i <= 4; i++) {
      int s = i;
      due(0, x -> x.summary(s, 2));
      due(0, x -> x.summary(s, 3));
      due(0, x -> x.bound(s, 'a', 0));
      due(0, x -> x.bound(s, 'z', 1));
    }
  }

  static void promise01_noCounters() {
    says("at most as many counters as its size (none at first)");
    for (int i = 0; i <= 4; i++) {
      int s = i;
      due(0, x -> x.summary(s, 1));
      due(0, x -> x.summary(s, 6));
      due(NONE, x -> x.bound(s, 'a', 3));
      due(NONE, x -> x.bound(s, 'a', 4));
      due(NONE, x -> x.top(s, 0, 0));
    }
  }

  static void promise01_nothingCame() {
    says("what came of it (its true count, at first 0)");
    for (int i = 0; i <= 4; i++) {
      int s = i;
      due(0, x -> x.summary(s, 5));
      for (char c = 'a'; c <= 'z'; c++) {
        char letter = c;
        due(0, x -> x.bound(s, letter, 2));
      }
    }
  }

  static void promise01_timeOf0() {
    says("the time (0 at first, one for all)");
    due(0, x -> x.count(0));
    due(0, x -> x.keep());
  }

  static void promise01_oneEmptyBlock() {
    says("(at first there is one, which is empty)", "an empty window");
    due(1, x -> x.count(3));
    due(1, x -> x.count(4));
    due(0, x -> x.count(5));
    for (int what = 0; what <= 3; what++) {
      int w = what;
      due(0, x -> x.block(0, w));
    }
    due(UNKNOWN, x -> x.block(1, 0));
  }

  static void promise01_emptyTextHistoryAndSnapshot() {
    says("There is a text of at most 60 characters, empty at first.", "There is one snapshot, empty at first.");
    due(0, x -> x.count(7));
    still(-100, x -> x.feed(0));
    still(-100, x -> x.flowAll());
    still(-100, x -> x.perform());
    still(0, x -> x.clearText());
    due(0, x -> x.count(6));
    still(NONE, x -> x.undo());
    still(NONE, x -> x.restore());
    due(0, x -> x.count(1));
    due(0, x -> x.count(2));
    still(NONE, x -> x.event(0, 0));
  }

  static void promise01_objectsApart() {
    says("`FloorTops()`: Creates empty summaries and an empty window.");
    busy();
    FloorTops other = new FloorTops();
    judge(0, other.summary(0, 3));
    judge(0, other.summary(4, 3));
    judge(0, other.count(0));
    judge(0, other.count(7));
    judge(NONE, other.undo());
    judge(NONE, other.restore());
    judge(NONE, other.event(0, 0));
    other.clearText();
    other.flow('q', 9);
    due(bits("xz"), x -> x.summary(0, 6));
    due(4, x -> x.count(7));
  }

  static void promise01_call512() {
    says("An object is used for at most 512 calls after it has been made");
    for (int i = 1; i < MOST_CALLS - 2; i++) {
      int want = (i - 1) % 8 + 1;
      due(want, x -> x.flow('a', 1));
    }
    due(64, x -> x.count(3));
    due(509, x -> x.count(0));
    due(29, x -> x.summary(4, 3));
  }

  // ---- promise 2: arrive

  static void promise02_summaries() {
    says("There are 4 summaries, numbered from 0.", "UNKNOWN (summary or letter)");
    due(1, x -> x.arrive(0, 'a', 1));
    due(2, x -> x.arrive(3, 'a', 2));
    due(1, x -> x.summary(0, 3));
    due(2, x -> x.summary(3, 3));
    for (int s : NO_SUMMARY) {
      still(UNKNOWN, x -> x.arrive(s, 'a', 1));
    }
  }

  static void promise02_letters() {
    says("The letters are a to z, numbered from 0 to 25.", "- `letter`: a to z");
    due(1, x -> x.arrive(0, 'a', 1));
    due(1, x -> x.arrive(0, 'z', 1));
    due(1 | 1 << 25, x -> x.summary(0, 5));
    for (char c : NO_LETTER) {
      still(UNKNOWN, x -> x.arrive(0, c, 1));
    }
    for (char c = 'b'; c <= 'y'; c++) {
      char letter = c;
      with(x -> x.arrive(0, letter, 1));
    }
    due(ALL, x -> x.summary(0, 5));
  }

  static void promise02_weights() {
    says("When a letter arrives at a summary with a weight (1 to 99)", "- `weight`: 1 to 99");
    due(1, x -> x.arrive(0, 'a', 1));
    due(99, x -> x.arrive(0, 'b', 99));
    for (int w : NO_WEIGHT) {
      still(BAD, x -> x.arrive(0, 'a', w));
      still(BAD, x -> x.arrive(0, 'c', w));
    }
    due(100, x -> x.summary(0, 3));
  }

  static void promise02_timeByOne() {
    says("the time (0 at first, one for all) becomes greater by 1");
    with(x -> x.arrive(0, 'a', 99));
    due(1, x -> x.count(0));
    with(x -> x.arrive(3, 'b', 5));
    due(2, x -> x.count(0));
    with(x -> x.flow('c', 7));
    due(3, x -> x.count(0));
    feed(1, "a9,b9");
    due(5, x -> x.count(0));
    flow("a,a,a");
    due(8, x -> x.count(0));
    with(x -> x.merge(0, 1));
    with(x -> x.copy(1, 0));
    with(x -> x.setSize(1, 2));
    with(x -> x.clear(1));
    with(x -> x.keep());
    due(8, x -> x.count(0));
  }

  static void promise02_sumAndWhatCame() {
    says("the sum and what came of the letter become greater by the weight");
    with(x -> x.setSize(0, 2));
    with(x -> x.arrive(0, 'a', 3));
    with(x -> x.arrive(0, 'b', 4));
    with(x -> x.arrive(0, 'c', 9));
    with(x -> x.arrive(0, 'a', 1));
    due(17, x -> x.summary(0, 3));
    due(4, x -> x.bound(0, 'a', 2));
    due(4, x -> x.bound(0, 'b', 2));
    due(9, x -> x.bound(0, 'c', 2));
    due(0, x -> x.bound(0, 'd', 2));
    due(bits("abc"), x -> x.summary(0, 5));
  }

  static void promise02_onlyWhatTellsIt() {
    says("nothing but what tells it makes use of it");
    with(x -> x.setSize(0, 2));
    with(x -> x.arrive(0, 'a', 9));
    with(x -> x.arrive(0, 'b', 5));
    with(x -> x.arrive(0, 'c', 1));
    with(x -> x.arrive(0, 'd', 4));
    // c has gone with 6: it comes back with the floor, not with what came of it.
    with(x -> x.arrive(0, 'c', 1));
    due(10, x -> x.bound(0, 'c', 0));
    due(1, x -> x.bound(0, 'c', 1));
    due(9, x -> x.bound(0, 'b', 0));
    due(0, x -> x.bound(0, 'b', 1));
    due(5, x -> x.bound(0, 'b', 2));
  }

  static void promise02_counterGrows() {
    says("if it has a counter, the count becomes greater by the weight;");
    with(x -> x.setSize(0, 2));
    feed(0, "a5,b2,c1");
    // c has the count 3 and the slack 2: the slack stays.
    due(9, x -> x.arrive(0, 'c', 6));
    due(2, x -> x.bound(0, 'c', 3));
    due(7, x -> x.bound(0, 'c', 1));
    due(2, x -> x.summary(0, 2));
    due(1, x -> x.count(1));
    due(2, x -> x.summary(0, 1));
  }

  static void promise02_oneCounterALetter() {
    says("A counter is for a letter (each letter has at most one in a summary)");
    feed(0, "a,a,a,a,a,a");
    due(1, x -> x.summary(0, 1));
    due(6, x -> x.bound(0, 'a', 0));
    due('a', x -> x.top(0, 0, 0));
    due(NONE, x -> x.top(0, 1, 0));
    feed(1, "a,b,a,b,c,d,a");
    due(4, x -> x.summary(1, 1));
    due(0, x -> x.count(1));
  }

  static void promise02_lastFreePlace() {
    says("otherwise, if there are fewer counters than the size, it gets one;",
        "otherwise a counter is evicted, and the letter gets one.",
        "at most as many counters as its size");
    for (int i = 2; i <= 10; i++) {
      int size = i;
      fresh();
      with(x -> x.setSize(0, size));
      for (int k = 1; k <= size; k++) {
        char letter = (char) ('a' + k);
        int counters = k;
        due(3, x -> x.arrive(0, letter, 3));
        due(counters, x -> x.summary(0, 1));
      }
      due(0, x -> x.count(1));
      due(0, x -> x.summary(0, 2));
      due(4, x -> x.arrive(0, 'z', 1));
      due(1, x -> x.count(1));
      due(size, x -> x.summary(0, 1));
      due(3, x -> x.summary(0, 2));
      due(NONE, x -> x.bound(0, 'b', 3));
      due(3, x -> x.bound(0, 'z', 3));
    }
  }

  static void promise02_leastCount() {
    says("The counter that is evicted is the one with the least count");
    feed(0, "a2,b9,c1,d3");
    with(x -> x.arrive(0, 'z', 1));
    due('c', x -> x.event(0, 2));
    due(bits("abdz"), x -> x.summary(0, 6));
    // Not the least weight that came: z has 2, as a, but came later.
    with(x -> x.arrive(0, 'y', 1));
    due('a', x -> x.event(0, 2));
  }

  static void promise02_earliestTime() {
    says("of several the one with the earliest time", "The time of a counter is the time of the latest arrival of its letter.");
    feed(0, "b,d2,c2,a2,b");
    // All have 2: d has the earliest time, since b came again.
    due(5, x -> x.bound(0, 'b', 4));
    due(2, x -> x.bound(0, 'd', 4));
    with(x -> x.arrive(0, 'z', 9));
    due('d', x -> x.event(0, 2));
    with(x -> x.arrive(0, 'y', 9));
    due('c', x -> x.event(0, 2));
    with(x -> x.arrive(0, 'x', 9));
    due('a', x -> x.event(0, 2));
    with(x -> x.arrive(0, 'w', 9));
    due('b', x -> x.event(0, 2));
  }

  static void promise02_firstLetter() {
    says("of several that of the first letter in the alphabet");
    feed(0, "m4,k4,l4,n4");
    with(x -> x.merge(0, 1));
    with(x -> x.arrive(0, 'z', 1));
    due('k', x -> x.event(0, 2));
    with(x -> x.arrive(0, 'y', 1));
    due('l', x -> x.event(0, 2));
    with(x -> x.arrive(0, 'a', 1));
    due('m', x -> x.event(0, 2));
    with(x -> x.arrive(0, 'b', 1));
    due('n', x -> x.event(0, 2));
  }

  static void promise02_floorIfGreater() {
    says("The floor becomes that count, if this is greater.");
    with(x -> x.setSize(0, 2));
    feed(0, "a3,b3,c1");
    due(3, x -> x.summary(0, 2));
    // b goes with 3, which is not greater.
    with(x -> x.arrive(0, 'd', 2));
    due(3, x -> x.summary(0, 2));
    // c goes with 4, which is.
    with(x -> x.arrive(0, 'e', 1));
    due('c', x -> x.event(0, 2));
    due(4, x -> x.summary(0, 2));
  }

  static void promise02_floorAsItIsThen() {
    says("A letter that gets a counter gets it with the count floor + weight and the slack floor (by the floor as it is then).");
    with(x -> x.setSize(0, 2));
    feed(0, "a3,b5");
    due(4, x -> x.arrive(0, 'c', 1));
    due(3, x -> x.bound(0, 'c', 3));
    due(1, x -> x.bound(0, 'c', 1));
    // A free place: the floor all the same.
    with(x -> x.setSize(0, 3));
    due(10, x -> x.arrive(0, 'd', 7));
    due(3, x -> x.bound(0, 'd', 3));
    due(7, x -> x.bound(0, 'd', 1));
    due(1, x -> x.count(1));
  }

  static void promise02_bounds() {
    says("The upper bound of a letter in a summary is the count of its counter, or, if it has none, the floor.",
        "The lower bound is count - slack of its counter, or, if it has none, 0.");
    with(x -> x.setSize(0, 2));
    feed(0, "a3,b5,c1");
    due(4, x -> x.bound(0, 'c', 0));
    due(1, x -> x.bound(0, 'c', 1));
    due(5, x -> x.bound(0, 'b', 0));
    due(5, x -> x.bound(0, 'b', 1));
    due(3, x -> x.bound(0, 'a', 0));
    due(0, x -> x.bound(0, 'a', 1));
    due(3, x -> x.bound(0, 'z', 0));
    due(0, x -> x.bound(0, 'z', 1));
  }

  static void promise02_fullByOne() {
    says("FULL if the sum would be more than 1000000.", "never more than 1000000");
    fill(0, 999999);
    still(FULL, x -> x.arrive(0, 'a', 2));
    still(FULL, x -> x.arrive(0, 'b', 2));
    still(FULL, x -> x.arrive(0, 'b', 99));
    due(1, x -> x.arrive(0, 'b', 1));
    due(1000000, x -> x.summary(0, 3));
    still(FULL, x -> x.arrive(0, 'a', 1));
    still(FULL, x -> x.arrive(0, 'b', 1));
    still(FULL, x -> x.arrive(0, 'c', 1));
    due(1, x -> x.arrive(1, 'c', 1));
  }

  static void promise02_fullBy99() {
    says("FULL if the sum would be more than 1000000.");
    fill(2, 999902);
    still(FULL, x -> x.arrive(2, 'a', 99));
    due(1000000, x -> x.arrive(2, 'a', 98));
    due(1000000, x -> x.summary(2, 3));
  }

  static void promise02_orderOfChecks() {
    says("Returns the upper bound of the letter then; UNKNOWN (summary or letter); BAD_VALUE; FULL",
        "the order of the @return line is the order of the checks");
    still(UNKNOWN, x -> x.arrive(4, '{', 1));
    still(UNKNOWN, x -> x.arrive(4, 'a', 0));
    still(UNKNOWN, x -> x.arrive(0, '{', 100));
    fill(0, 1000000);
    still(UNKNOWN, x -> x.arrive(0, '{', 1));
    still(UNKNOWN, x -> x.arrive(-1, 'a', 1));
    still(BAD, x -> x.arrive(0, 'a', 0));
    still(BAD, x -> x.arrive(0, 'a', 100));
    still(BAD, x -> x.arrive(0, 'a', MAX));
    still(FULL, x -> x.arrive(0, 'a', 99));
  }

  static void promise02_refusedAmidAll() {
    says("A call that returns an error or NONE changes nothing.");
    busy();
    still(UNKNOWN, x -> x.arrive(4, 'a', 1));
    still(UNKNOWN, x -> x.arrive(0, '{', 1));
    still(BAD, x -> x.arrive(0, 'q', 100));
    still(BAD, x -> x.arrive(0, 'q', 0));
  }

  // ---- promise 3: feed

  static void promise03_summaries() {
    says("Lets the arrivals of the text, which stays, come to a summary");
    text("a2,b");
    due(2, x -> x.feed(0));
    due(2, x -> x.feed(3));
    due(3, x -> x.summary(3, 3));
    for (int s : NO_SUMMARY) {
      still(UNKNOWN, x -> x.feed(s));
    }
    due(4, x -> x.count(7));
  }

  static void promise03_oneOrMore() {
    says("A row of arrivals is one or more arrivals with \",\" between two");
    still(-100, x -> x.feed(0));
    text("a");
    due(1, x -> x.feed(0));
    text("a,b");
    due(2, x -> x.feed(0));
    text(times(29, "z,") + "a9");
    due(60, x -> x.count(7));
    due(30, x -> x.feed(0));
    due(33, x -> x.count(0));
    due(29, x -> x.bound(0, 'z', 2));
    due(11, x -> x.bound(0, 'a', 2));
  }

  static void promise03_commas() {
    says("with \",\" between two");
    String[] texts = {",", ",a", "a,", "a,,b", "a,b,", "ab", "a b", "a;b", "a.b", "a1b", "a, b", "a ,b", "a,b c"};
    int[] faults = {0, 0, 2, 2, 4, 1, 1, 1, 1, 2, 2, 1, 3};
    faultsOfArrivals(texts, faults);
  }

  static void promise03_lettersOfTexts() {
    says("an arrival is a letter (a to z)");
    text("a,z");
    due(2, x -> x.feed(0));
    due(1 | 1 << 25, x -> x.summary(0, 5));
    for (char c : NO_LETTER) {
      text(String.valueOf(c));
      still(-100, x -> x.feed(0));
      text("a," + c);
      still(-102, x -> x.feed(0));
    }
  }

  static void promise03_weightsOfTexts() {
    says("perhaps a weight behind it: one or two digits, the first not 0 (1 if there is none)");
    text("a,b1,c9,d10");
    due(4, x -> x.feed(0));
    due(1, x -> x.bound(0, 'a', 2));
    due(1, x -> x.bound(0, 'b', 2));
    due(9, x -> x.bound(0, 'c', 2));
    due(10, x -> x.bound(0, 'd', 2));
    text("a99,b90,c19,d");
    due(4, x -> x.feed(1));
    due(99, x -> x.bound(1, 'a', 2));
    due(90, x -> x.bound(1, 'b', 2));
    due(19, x -> x.bound(1, 'c', 2));
    String[] texts = {"a0", "a00", "a01", "a09", "a100", "a123", "a999", "a1 ", "a1:", "a1/", "a:", "a/", "a-1", "a1,b0", "a,b100", "12", "1a"};
    int[] faults = {1, 1, 1, 1, 3, 3, 3, 2, 2, 2, 1, 1, 1, 4, 5, 0, 0};
    faultsOfArrivals(texts, faults);
  }

  private static void faultsOfArrivals(String[] texts, int[] faults) {
    for (int i = 0; i < texts.length; i++) {
      fresh();
      with(x -> x.arrive(0, 'q', 7));
      text(texts[i]);
      int want = -100 - faults[i];
      still(want, x -> x.feed(0));
      still(want, x -> x.flowAll());
    }
  }

  static void promise03_faultIsFirst() {
    says("is the index, from 0, of the first character that is not allowed at its place");
    String whole = "a,b2,c34,z";
    String[] texts = new String[whole.length() * 2];
    int[] faults = new int[texts.length];
    for (int i = 0; i < whole.length(); i++) {
      texts[2 * i] = whole.substring(0, i) + "?" + whole.substring(i + 1);
      texts[2 * i + 1] = whole.substring(0, i) + "??";
      faults[2 * i] = i;
      faults[2 * i + 1] = i;
    }
    faultsOfArrivals(texts, faults);
  }

  static void promise03_endsTooEarly() {
    says("or the length of the text if it ends too early");
    String whole = "a,b2,c34,z";
    // Where a piece of it ends behind a letter or a digit, it is a row of arrivals itself.
    int[] arrivals = {0, 1, 0, 2, 2, 0, 3, 3, 3, 0, 4};
    for (int i = 0; i <= whole.length(); i++) {
      int length = i;
      int many = arrivals[i];
      fresh();
      text(whole.substring(0, i));
      if (many == 0) {
        still(-100 - length, x -> x.feed(0));
        still(-100 - length, x -> x.flowAll());
      } else {
        due(many, x -> x.feed(0));
        due(many, x -> x.flowAll());
      }
    }
  }

  static void promise03_faultOf60() {
    says("-100 minus the fault of the text, read as arrivals, if it has one (which is an error)");
    text(times(30, "a,"));
    still(-160, x -> x.feed(0));
    still(-160, x -> x.flowAll());
    text(times(29, "a,") + "a?");
    still(-159, x -> x.feed(0));
    still(-159, x -> x.flowAll());
    text(times(29, "a,") + "?");
    still(-158, x -> x.feed(0));
    text(times(29, "a,") + "aa");
    still(-159, x -> x.feed(0));
    text(times(20, "a1,"));
    still(-160, x -> x.feed(0));
    text(times(19, "a1,") + "a12");
    due(20, x -> x.feed(0));
    text(times(14, "a99,") + "b999");
    still(-159, x -> x.feed(0));
  }

  static void promise03_fullAtTheEnd() {
    says("FULL if the sum would be more than 1000000.");
    fill(0, 999996);
    text("b,c2,d2");
    still(FULL, x -> x.feed(0));
    text("b,c3,a");
    still(FULL, x -> x.feed(0));
    text("b,c2,a");
    due(3, x -> x.feed(0));
    due(1000000, x -> x.summary(0, 3));
    due(0, x -> x.bound(0, 'd', 2));
    text("a");
    still(FULL, x -> x.feed(0));
    due(1, x -> x.feed(1));
  }

  static void promise03_orderOfChecks() {
    says("Returns how many there are; UNKNOWN; -100 minus the fault of the text, read as arrivals, if it has one (which is an error); FULL");
    still(UNKNOWN, x -> x.feed(4));
    fill(0, 1000000);
    text("a,?");
    still(UNKNOWN, x -> x.feed(4));
    still(UNKNOWN, x -> x.feed(-1));
    still(-102, x -> x.feed(0));
    text("a,b");
    still(UNKNOWN, x -> x.feed(4));
    still(FULL, x -> x.feed(0));
  }

  static void promise03_oneAfterTheOther() {
    says("come to a summary, one after the other. This is one act.");
    with(x -> x.setSize(0, 2));
    text("a5,b2,c1,b1");
    due(4, x -> x.feed(0));
    due(4, x -> x.count(0));
    due(2, x -> x.count(1));
    due(bits("ab"), x -> x.summary(0, 6));
    due(4, x -> x.bound(0, 'b', 0));
    due(4, x -> x.event(0, 3));
    due('c', x -> x.event(0, 2));
    due(3, x -> x.event(1, 3));
    due('b', x -> x.event(1, 2));
    due(2, x -> x.count(6));
    due(11, x -> x.count(7));
    due(1, x -> x.undo());
    due(0, x -> x.summary(0, 3));
    due(0, x -> x.count(0));
    due(0, x -> x.count(1));
    due(11, x -> x.count(7));
  }

  // ---- promise 4: flow

  static void promise04_letters() {
    says("- `letter`: a to z", "Returns how many arrivals have come to the present block then; UNKNOWN; BAD_VALUE.");
    due(1, x -> x.flow('a', 1));
    due(2, x -> x.flow('z', 1));
    due(1 | 1 << 25, x -> x.summary(4, 5));
    for (char c : NO_LETTER) {
      still(UNKNOWN, x -> x.flow(c, 1));
      still(UNKNOWN, x -> x.flow(c, 0));
      still(UNKNOWN, x -> x.flow(c, 100));
    }
    due(2, x -> x.count(5));
  }

  static void promise04_weights() {
    says("- `weight`: 1 to 99");
    due(1, x -> x.flow('a', 1));
    due(2, x -> x.flow('b', 99));
    for (int w : NO_WEIGHT) {
      still(BAD, x -> x.flow('a', w));
      still(BAD, x -> x.flow('c', w));
    }
    due(100, x -> x.block(0, 1));
  }

  static void promise04_eighthAndNinth() {
    says("When 8 arrivals have come to a block, it is full; the next one that flows begins a new block");
    for (int i = 1; i <= 8; i++) {
      int want = i;
      due(want, x -> x.flow('a', 1));
    }
    // Full, but no new block yet.
    due(1, x -> x.count(3));
    due(1, x -> x.count(4));
    due(8, x -> x.count(5));
    due(UNKNOWN, x -> x.block(1, 0));
    still(NONE, x -> x.event(0, 0));
    // What is refused begins none.
    still(UNKNOWN, x -> x.flow('A', 1));
    still(BAD, x -> x.flow('a', 0));
    due(1, x -> x.flow('b', 5));
    due(2, x -> x.count(3));
    due(2, x -> x.count(4));
    due(8, x -> x.block(0, 0));
    due(8, x -> x.block(0, 1));
    due(1, x -> x.block(1, 0));
    due(5, x -> x.block(1, 1));
    due(2, x -> x.event(0, 0));
  }

  static void promise04_presentBlock() {
    says("What flows arrives at the present block.");
    flow("a,b,c,d,a,b,c,d,e2,f,g,h,e,f,g,h,i");
    due(2, x -> x.flow('a', 7));
    due(3, x -> x.count(3));
    // The blocks that are full stay as they were.
    int[][] wanted = {{8, 8, 4, 0}, {8, 9, 4, 0}, {2, 8, 2, 0}};
    for (int i = 0; i <= 2; i++) {
      int block = i;
      for (int what = 0; what <= 3; what++) {
        int w = what;
        due(wanted[block][w], x -> x.block(block, w));
      }
    }
  }

  static void promise04_eightAreArrivals() {
    says("When 8 arrivals have come to a block, it is full");
    // Arrivals, not weights, letters or counters.
    due(1, x -> x.flow('a', 99));
    due(2, x -> x.flow('b', 99));
    for (int i = 3; i <= 8; i++) {
      int want = i;
      char letter = (char) ('a' + i);
      due(want, x -> x.flow(letter, 99));
    }
    due(1, x -> x.count(3));
    due(8 * 99, x -> x.block(0, 1));
  }

  static void promise04_sizeOfBlocks() {
    says("each of them a summary of the size 4");
    flow("a,b,c,d");
    due(4, x -> x.block(0, 2));
    due(0, x -> x.count(1));
    due(5, x -> x.flow('e', 1));
    due(4, x -> x.block(0, 2));
    due(1, x -> x.block(0, 3));
    due(1, x -> x.count(1));
    due('a', x -> x.event(0, 2));
    flow("f,g,h,i,j,k,l");
    due(2, x -> x.count(3));
    due(4, x -> x.block(1, 2));
    due(0, x -> x.block(1, 3));
    due(5, x -> x.flow('m', 1));
    due(4, x -> x.block(1, 2));
    due(1, x -> x.block(1, 3));
  }

  static void promise04_keptBlocks() {
    says("only the present block and the 3 blocks before it are kept");
    flow("a,a,a,a,a,a,a,a,b,b,b,b,b,b,b,b,c,c,c,c,c,c,c,c,d");
    due(4, x -> x.count(3));
    due(4, x -> x.count(4));
    due(8, x -> x.bound(4, 'a', 2));
    flow("d,d,d,d,d,d,d");
    due(8, x -> x.count(5));
    due(8, x -> x.bound(4, 'a', 2));
    due(32, x -> x.summary(4, 3));
    // The fifth begins: the oldest is dropped.
    due(1, x -> x.flow('e', 3));
    due(5, x -> x.count(3));
    due(4, x -> x.count(4));
    due(0, x -> x.bound(4, 'a', 2));
    due(8, x -> x.bound(4, 'b', 2));
    due(27, x -> x.summary(4, 3));
    due(8, x -> x.block(0, 1));
    due(3, x -> x.block(3, 1));
    due(UNKNOWN, x -> x.block(4, 0));
  }

  static void promise04_newBlockIsEmpty() {
    says("begins a new block, which is the present one then");
    flow("a,b,c,d,e,f,g,h,a,b,c,d,e,f,g,h");
    flow("a,b,c,d,e,f,g,h,a,b,c,d,e,f,g,h");
    due(1, x -> x.block(0, 3));
    // In the place of the one that is dropped.
    due(1, x -> x.flow('z', 9));
    due(9, x -> x.block(3, 1));
    due(1, x -> x.block(3, 2));
    due(0, x -> x.block(3, 3));
    due(1, x -> x.block(0, 3));
  }

  static void promise04_noSumIsTooGreat() {
    says("Lets a letter flow into the window. This is an act.");
    for (int i = 0; i < 33; i++) {
      int want = i % 8 + 1;
      due(want, x -> x.flow('a', 99));
    }
    due(25 * 99, x -> x.summary(4, 3));
    due(4, x -> x.count(6));
    fill(0, 1000000);
    due(2, x -> x.flow('a', 99));
  }

  static void promise04_refusedAmidAll() {
    says("A call that returns an error or NONE changes nothing.");
    busy();
    still(UNKNOWN, x -> x.flow('{', 1));
    still(UNKNOWN, x -> x.flow('`', 0));
    still(BAD, x -> x.flow('a', 0));
    still(BAD, x -> x.flow('a', 100));
  }

  // ---- promise 5: flowAll

  static void promise05_oneAct() {
    says("Lets the arrivals of the text, which stays, flow into the window, one after the other. This is one act.");
    text("a,b2,c3,d4,e5,f6,g7");
    due(7, x -> x.flowAll());
    due(7, x -> x.count(5));
    due(1, x -> x.count(6));
    text("x9");
    due(1, x -> x.flowAll());
    due(8, x -> x.count(5));
    due(1, x -> x.count(3));
    text("y,z");
    due(2, x -> x.flowAll());
    due(2, x -> x.count(5));
    due(2, x -> x.count(3));
    due(3, x -> x.count(7));
    due(3, x -> x.count(6));
    due(2, x -> x.undo());
    due(8, x -> x.count(5));
    due(1, x -> x.count(3));
    due(3, x -> x.count(7));
  }

  static void promise05_acrossBlocks() {
    says("the next one that flows begins a new block");
    text(times(30, "a,").substring(0, 59));
    due(30, x -> x.flowAll());
    due(4, x -> x.count(3));
    due(6, x -> x.count(5));
    due(30, x -> x.summary(4, 3));
    due(30, x -> x.flowAll());
    due(8, x -> x.count(3));
    due(4, x -> x.count(4));
    due(4, x -> x.count(5));
    due(28, x -> x.summary(4, 3));
    due(2, x -> x.count(6));
  }

  static void promise05_faults() {
    says("-100 minus the fault of the text, read as arrivals, if it has one (which is an error).");
    busy();
    text("");
    still(-100, x -> x.flowAll());
    text("a,b,");
    still(-104, x -> x.flowAll());
    text("a,b0");
    still(-103, x -> x.flowAll());
    text("merge 0 1");
    still(-101, x -> x.flowAll());
    text("a,b");
    due(2, x -> x.flowAll());
  }

  static void promise05_neverFull() {
    says("Returns how many there are; -100 minus the fault");
    fill(0, 1000000);
    text("a99,b99");
    due(2, x -> x.flowAll());
    due(198, x -> x.summary(4, 3));
    still(FULL, x -> x.feed(0));
  }

  // ---- promise 6: merge

  static void promise06_summaries() {
    says("- `other`: another one", "UNKNOWN (summary or other); BAD_VALUE if both are the same");
    feed(3, "a2");
    due(0, x -> x.merge(0, 3));
    due(2, x -> x.summary(0, 3));
    due(0, x -> x.merge(3, 0));
    due(2, x -> x.summary(3, 3));
    for (int s : NO_SUMMARY) {
      still(UNKNOWN, x -> x.merge(s, 0));
      still(UNKNOWN, x -> x.merge(0, s));
      still(UNKNOWN, x -> x.merge(s, s));
    }
    for (int i = 0; i <= 3; i++) {
      int s = i;
      still(BAD, x -> x.merge(s, s));
    }
  }

  static void promise06_fullByOne() {
    says("Returns the counters that are left out;", "FULL if the sum would be more than 1000000.");
    fill(0, 600000);
    fill(1, 400000);
    with(x -> x.arrive(1, 'b', 1));
    still(FULL, x -> x.merge(0, 1));
    still(FULL, x -> x.merge(1, 0));
    with(x -> x.undo());
    due(0, x -> x.merge(0, 1));
    due(1000000, x -> x.summary(0, 3));
    due(1000000, x -> x.bound(0, 'a', 0));
    due(0, x -> x.summary(1, 3));
    // With an empty one, there is room.
    due(0, x -> x.merge(0, 1));
    due(0, x -> x.merge(1, 0));
    with(x -> x.arrive(2, 'a', 1));
    still(FULL, x -> x.merge(1, 2));
    still(FULL, x -> x.merge(2, 1));
  }

  static void promise06_orderOfChecks() {
    says("Returns the counters that are left out; UNKNOWN (summary or other); BAD_VALUE if both are the same; FULL");
    fill(0, 1000000);
    with(x -> x.arrive(1, 'a', 1));
    still(UNKNOWN, x -> x.merge(4, 4));
    still(UNKNOWN, x -> x.merge(0, 4));
    still(BAD, x -> x.merge(0, 0));
    still(FULL, x -> x.merge(0, 1));
  }

  static void promise06_countAndSlack() {
    says("each letter that has a counter in any of both gets one, whose count and slack are the sums of both",
        "a summary in which it has none gives its floor for each of them");
    with(x -> x.setSize(0, 3));
    with(x -> x.setSize(1, 3));
    feed(0, "a9,b5,d2,c1");
    feed(1, "c7,e6,f3,b1");
    with(x -> x.setSize(0, 10));
    // 0: a 9, b 5, c 3 (2), floor 2; 1: c 7, e 6, b 4 (3), floor 3
    due(0, x -> x.merge(0, 1));
    int[][] wanted = {{12, 3}, {9, 3}, {10, 2}, {5, NONE}, {8, 2}, {5, NONE}};
    for (int i = 0; i < wanted.length; i++) {
      char letter = (char) ('a' + i);
      int[] want = wanted[i];
      due(want[0], x -> x.bound(0, letter, 0));
      due(want[1], x -> x.bound(0, letter, 3));
    }
    due(bits("abce"), x -> x.summary(0, 6));
  }

  static void promise06_floor() {
    says("The floor is the sum of both floors.");
    with(x -> x.setSize(0, 2));
    with(x -> x.setSize(1, 2));
    feed(0, "a3,b4,c");
    feed(1, "a5,b6,c");
    due(3, x -> x.summary(0, 2));
    due(5, x -> x.summary(1, 2));
    with(x -> x.setSize(0, 10));
    due(0, x -> x.merge(0, 1));
    due(8, x -> x.summary(0, 2));
    due(8, x -> x.bound(0, 'z', 0));
    due(0, x -> x.summary(1, 2));
  }

  static void promise06_noMoreThanTheSize() {
    says("Then, as long as there are more counters than the size of the first summary");
    feed(0, "a5,b6");
    feed(1, "c7,d8");
    due(0, x -> x.merge(0, 1));
    due(4, x -> x.summary(0, 1));
    due(0, x -> x.summary(0, 2));
    feed(1, "e9");
    due(1, x -> x.merge(0, 1));
    due(4, x -> x.summary(0, 1));
    due(bits("bcde"), x -> x.summary(0, 6));
    due(5, x -> x.summary(0, 2));
    // The size of the second one doesn't matter.
    with(x -> x.setSize(2, 2));
    due(2, x -> x.merge(2, 0));
    due(bits("de"), x -> x.summary(2, 6));
    due(7, x -> x.summary(2, 2));
    due(4, x -> x.summary(0, 0));
  }

  static void promise06_mostLeftOut() {
    says("the one with the least count, of several the one of the last letter in the alphabet, is left out");
    with(x -> x.setSize(0, 10));
    with(x -> x.setSize(1, 10));
    feed(0, "a,b2,c3,d4,e5,f6,g7,h8,i9,j10");
    feed(1, "k,l2,m3,n4,o5,p6,q7,r8,s9,t10");
    with(x -> x.setSize(2, 2));
    due(10, x -> x.merge(0, 1));
    due(bits("fghijpqrst"), x -> x.summary(0, 6));
    due(5, x -> x.summary(0, 2));
    due(8, x -> x.merge(2, 0));
    due(bits("jt"), x -> x.summary(2, 6));
    due(9, x -> x.summary(2, 2));
  }

  static void promise06_lastLetterOfOneCount() {
    says("of several the one of the last letter in the alphabet, is left out");
    feed(0, "z3,b3,c3");
    feed(1, "a3,d3,y3");
    // By the alphabet, whatever the times and the summaries are.
    due(2, x -> x.merge(0, 1));
    due(bits("abcd"), x -> x.summary(0, 6));
    due(3, x -> x.summary(0, 2));
    feed(1, "e");
    // With the floor 3 of 0 for e: 4; a to d have 3, and d goes.
    due(1, x -> x.merge(0, 1));
    due(bits("abce"), x -> x.summary(0, 6));
  }

  static void promise06_floorIfGreater() {
    says("the floor becomes its count, if this is greater");
    with(x -> x.setSize(0, 2));
    with(x -> x.setSize(1, 2));
    feed(0, "a5,b5,c1");
    feed(1, "d4,e4");
    // 0: b 5, c 6 (5), floor 5; with d 9 (5), e 9 (5): b 5 goes, which is not greater; then c.
    due(2, x -> x.merge(0, 1));
    due(bits("de"), x -> x.summary(0, 6));
    due(6, x -> x.summary(0, 2));
    fresh();
    with(x -> x.setSize(0, 2));
    feed(0, "a5,b5,c1");
    feed(1, "d4");
    due(1, x -> x.merge(0, 1));
    due(bits("cd"), x -> x.summary(0, 6));
    due(5, x -> x.summary(0, 2));
  }

  static void promise06_sumsAndWhatCame() {
    says("The sums, and what came, are added.");
    with(x -> x.setSize(0, 2));
    feed(0, "a3,b4,c5");
    feed(1, "a10,d20");
    with(x -> x.merge(0, 1));
    due(42, x -> x.summary(0, 3));
    due(13, x -> x.bound(0, 'a', 2));
    due(4, x -> x.bound(0, 'b', 2));
    due(5, x -> x.bound(0, 'c', 2));
    due(20, x -> x.bound(0, 'd', 2));
    due(0, x -> x.bound(0, 'e', 2));
    due(bits("abcd"), x -> x.summary(0, 5));
  }

  static void promise06_times() {
    says("The times of all counters are the present time (which does not change).");
    feed(0, "a,b");
    feed(1, "b,c");
    feed(2, "d");
    with(x -> x.merge(0, 1));
    due(5, x -> x.count(0));
    due(5, x -> x.bound(0, 'a', 4));
    due(5, x -> x.bound(0, 'b', 4));
    due(5, x -> x.bound(0, 'c', 4));
    due(NONE, x -> x.bound(0, 'd', 4));
    // With an empty one, too.
    due(5, x -> x.bound(2, 'd', 4));
    with(x -> x.arrive(3, 'z', 1));
    with(x -> x.merge(2, 1));
    due(6, x -> x.bound(2, 'd', 4));
    due(6, x -> x.count(0));
  }

  static void promise06_secondIsEmpty() {
    says("The first summary becomes that; the second one becomes empty (its size stays).");
    with(x -> x.setSize(1, 3));
    feed(1, "a,b2,c3,d4");
    with(x -> x.merge(0, 1));
    due(3, x -> x.summary(1, 0));
    for (int what = 1; what <= 6; what++) {
      int w = what;
      due(0, x -> x.summary(1, w));
    }
    due(0, x -> x.bound(1, 'a', 2));
    due(0, x -> x.bound(1, 'z', 0));
    due(4, x -> x.summary(0, 0));
    due(2, x -> x.arrive(1, 'q', 2));
  }

  static void promise06_emptyOnes() {
    says("Merges a summary with another one, which is empty then. This is an act.");
    due(0, x -> x.merge(0, 1));
    due(1, x -> x.count(2));
    due(1, x -> x.count(6));
    due(1, x -> x.event(0, 0));
    due(0, x -> x.event(0, 2));
    due(0, x -> x.event(0, 3));
    due(0, x -> x.summary(0, 1));
    due(0, x -> x.undo());
    due(0, x -> x.count(2));
  }

  static void promise06_leftOutIsNoEviction() {
    says("evictions so far (those of blocks of the window, too; not what merging left out)");
    feed(0, "a,b,c,d");
    feed(1, "e,f,g,h");
    due(4, x -> x.merge(0, 1));
    due(0, x -> x.count(1));
    due(4, x -> x.event(0, 2));
    due(NONE, x -> x.event(1, 0));
  }

  // ---- promise 7: copy

  static void promise07_summaries() {
    says("- `summary`: 0 to 3: what is changed", "Returns the counters of the summary then; UNKNOWN (summary or other); BAD_VALUE if both are the same.");
    feed(0, "a2,b3");
    due(2, x -> x.copy(3, 0));
    due(5, x -> x.summary(3, 3));
    due(5, x -> x.summary(0, 3));
    with(x -> x.clear(0));
    due(2, x -> x.copy(0, 3));
    for (int s : NO_SUMMARY) {
      still(UNKNOWN, x -> x.copy(s, 0));
      still(UNKNOWN, x -> x.copy(0, s));
      still(UNKNOWN, x -> x.copy(s, s));
    }
    for (int i = 0; i <= 3; i++) {
      int s = i;
      still(BAD, x -> x.copy(s, s));
    }
  }

  static void promise07_sizeIncluded() {
    says("Makes a summary what another one is, its size included. This is an act.");
    with(x -> x.setSize(0, 10));
    feed(0, "a,b2,c3,d4,e5,f6,g7,h8,i9,j10,k");
    due(10, x -> x.copy(1, 0));
    due(10, x -> x.summary(1, 0));
    due(1, x -> x.count(1));
    for (int what = 0; what <= 6; what++) {
      int w = what;
      due(object.summary(0, w), x -> x.summary(1, w));
    }
    for (char c = 'a'; c <= 'l'; c++) {
      char letter = c;
      for (int what = 0; what <= 4; what++) {
        int w = what;
        due(object.bound(0, letter, w), x -> x.bound(1, letter, w));
      }
    }
    with(x -> x.setSize(2, 2));
    due(0, x -> x.copy(0, 2));
    due(2, x -> x.summary(0, 0));
    due(0, x -> x.summary(0, 5));
    due(4, x -> x.count(6));
    due(3, x -> x.undo());
    due(10, x -> x.summary(0, 0));
    due(10, x -> x.summary(0, 1));
  }

  static void promise07_copiesStayApart() {
    says("Makes a summary what another one is");
    feed(0, "a2,b3");
    with(x -> x.copy(1, 0));
    with(x -> x.arrive(0, 'a', 9));
    due(2, x -> x.bound(1, 'a', 0));
    due(5, x -> x.summary(1, 3));
    with(x -> x.setSize(1, 2));
    with(x -> x.arrive(1, 'c', 1));
    due(4, x -> x.summary(0, 0));
    due(2, x -> x.summary(0, 1));
    due(0, x -> x.bound(0, 'c', 2));
    with(x -> x.clear(0));
    due(6, x -> x.summary(1, 3));
  }

  static void promise07_whatIsSameAlready() {
    says("Makes a summary what another one is, its size included. This is an act.");
    due(0, x -> x.copy(0, 1));
    due(1, x -> x.count(6));
    due(0, x -> x.copy(0, 1));
    due(2, x -> x.count(6));
    still(NONE, x -> x.event(0, 0));
    due(0, x -> x.count(2));
  }

  static void promise07_neverFull() {
    says("Returns the counters of the summary then; UNKNOWN (summary or other); BAD_VALUE");
    fill(0, 1000000);
    with(x -> x.arrive(1, 'b', 99));
    due(1, x -> x.copy(1, 0));
    due(1000000, x -> x.summary(1, 3));
    due(1000000, x -> x.summary(0, 3));
  }

  static void promise07_refusedAmidAll() {
    says("A call that returns an error or NONE changes nothing.");
    busy();
    still(UNKNOWN, x -> x.copy(0, 4));
    still(UNKNOWN, x -> x.copy(-1, 0));
    still(BAD, x -> x.copy(1, 1));
    still(UNKNOWN, x -> x.merge(0, 4));
    still(UNKNOWN, x -> x.merge(-1, 0));
    still(BAD, x -> x.merge(1, 1));
  }

  // ---- promise 8: setSize

  static void promise08_summaries() {
    says("Sets the size of a summary. This is an act.", "- `summary`: 0 to 3");
    due(0, x -> x.setSize(0, 5));
    due(0, x -> x.setSize(3, 6));
    due(5, x -> x.summary(0, 0));
    due(6, x -> x.summary(3, 0));
    due(4, x -> x.summary(1, 0));
    due(2, x -> x.count(6));
    for (int s : NO_SUMMARY) {
      still(UNKNOWN, x -> x.setSize(s, 7));
      still(UNKNOWN, x -> x.setSize(s, 4));
    }
  }

  static void promise08_sizes() {
    says("- `size`: 2 to 10", "Returns the counters that are evicted by that; UNKNOWN; BAD_VALUE; NONE if it is so already.");
    due(0, x -> x.setSize(0, 2));
    due(2, x -> x.summary(0, 0));
    due(0, x -> x.setSize(0, 10));
    due(10, x -> x.summary(0, 0));
    for (int size : new int[] {1, 11, 0, -1, -2, 12, MIN, MAX}) {
      still(BAD, x -> x.setSize(0, size));
    }
  }

  static void promise08_soAlready() {
    says("NONE if it is so already.");
    for (int i = 0; i <= 3; i++) {
      int s = i;
      still(NONE, x -> x.setSize(s, 4));
    }
    due(0, x -> x.count(6));
    due(0, x -> x.setSize(0, 5));
    still(NONE, x -> x.setSize(0, 5));
    due(0, x -> x.setSize(0, 4));
    still(NONE, x -> x.setSize(0, 4));
    due(0, x -> x.setSize(1, 2));
    still(NONE, x -> x.setSize(1, 2));
    due(0, x -> x.setSize(1, 10));
    still(NONE, x -> x.setSize(1, 10));
    feed(1, "a,b,c");
    still(NONE, x -> x.setSize(1, 10));
  }

  static void promise08_orderOfChecks() {
    says("Returns the counters that are evicted by that; UNKNOWN; BAD_VALUE; NONE");
    still(UNKNOWN, x -> x.setSize(4, 1));
    still(UNKNOWN, x -> x.setSize(-1, 11));
    still(UNKNOWN, x -> x.setSize(4, 4));
    still(BAD, x -> x.setSize(0, 1));
    still(NONE, x -> x.setSize(0, 4));
  }

  static void promise08_noMoreThanTheSize() {
    says("If a size becomes smaller, counters are evicted as told above, until there are no more than the size.");
    with(x -> x.setSize(0, 10));
    feed(0, "a5,b6,c7,d8");
    due(0, x -> x.setSize(0, 4));
    due(4, x -> x.summary(0, 1));
    due(0, x -> x.count(1));
    due(1, x -> x.setSize(0, 3));
    due(3, x -> x.summary(0, 1));
    due(1, x -> x.count(1));
    due(bits("bcd"), x -> x.summary(0, 6));
    due(1, x -> x.setSize(0, 2));
    due(bits("cd"), x -> x.summary(0, 6));
  }

  static void promise08_fromTenToTwo() {
    says("counters are evicted as told above, until there are no more than the size");
    with(x -> x.setSize(2, 10));
    feed(2, "j,i2,h3,g4,f5,e6,d7,c8,b9,a9");
    due(8, x -> x.setSize(2, 2));
    due(bits("ab"), x -> x.summary(2, 6));
    due(8, x -> x.count(1));
    due(8, x -> x.summary(2, 2));
    String order = "cdefghij";
    for (int i = 0; i < 8; i++) {
      int back = i;
      due(0, x -> x.event(back, 0));
      due(2, x -> x.event(back, 1));
      due(order.charAt(i), x -> x.event(back, 2));
      due(10, x -> x.event(back, 3));
    }
    due(10, x -> x.count(0));
  }

  static void promise08_timesAndLetters() {
    says("of several the one with the earliest time, of several that of the first letter in the alphabet");
    feed(0, "b2,c2,a2,d,d");
    due(2, x -> x.setSize(0, 2));
    due('c', x -> x.event(0, 2));
    due('b', x -> x.event(1, 2));
    feed(1, "z2,x2,y2");
    with(x -> x.merge(1, 2));
    due(1, x -> x.setSize(1, 2));
    due('x', x -> x.event(0, 2));
  }

  static void promise08_floorGrows() {
    says("(The floor becomes greater likewise.)");
    feed(0, "a5,b6,c7,d8");
    with(x -> x.setSize(0, 3));
    due(5, x -> x.summary(0, 2));
    with(x -> x.setSize(0, 10));
    due(5, x -> x.summary(0, 2));
    due(6, x -> x.arrive(0, 'z', 1));
    with(x -> x.setSize(0, 2));
    due(6, x -> x.summary(0, 2));
    due(bits("cd"), x -> x.summary(0, 6));
  }

  static void promise08_greaterEvictsNone() {
    says("Returns the counters that are evicted by that;");
    feed(0, "a5,b6,c7,d8");
    due(0, x -> x.setSize(0, 5));
    due(4, x -> x.summary(0, 1));
    due(0, x -> x.count(1));
    still(NONE, x -> x.event(0, 0));
    due(9, x -> x.arrive(0, 'e', 9));
    due(5, x -> x.summary(0, 1));
  }

  static void promise08_refusedAmidAll() {
    says("A call that returns an error or NONE changes nothing.");
    busy();
    still(UNKNOWN, x -> x.setSize(4, 3));
    still(BAD, x -> x.setSize(1, 1));
    still(BAD, x -> x.setSize(1, 11));
    still(NONE, x -> x.setSize(1, 4));
  }

  // ---- promise 9: clear

  static void promise09_summaries() {
    says("Empties a summary; its size stays. This is an act.", "- `summary`: 0 to 3");
    feed(0, "a3");
    feed(3, "b4");
    due(3, x -> x.clear(0));
    due(4, x -> x.clear(3));
    due(4, x -> x.count(6));
    for (int s : NO_SUMMARY) {
      still(UNKNOWN, x -> x.clear(s));
    }
  }

  static void promise09_sumOf0() {
    says("NONE if nothing has arrived since it was empty (its sum is 0).");
    for (int i = 0; i <= 3; i++) {
      int s = i;
      still(NONE, x -> x.clear(s));
    }
    due(1, x -> x.arrive(0, 'a', 1));
    due(1, x -> x.clear(0));
    still(NONE, x -> x.clear(0));
    with(x -> x.arrive(0, 'a', 1));
    with(x -> x.merge(1, 0));
    still(NONE, x -> x.clear(0));
    with(x -> x.setSize(0, 2));
    still(NONE, x -> x.clear(0));
    with(x -> x.copy(1, 0));
    still(NONE, x -> x.clear(1));
    with(x -> x.arrive(1, 'z', 99));
    with(x -> x.undo());
    still(NONE, x -> x.clear(1));
  }

  static void promise09_greatestSum() {
    says("Returns its sum before;");
    fill(0, 1000000);
    due(1000000, x -> x.clear(0));
    due(99, x -> x.arrive(0, 'a', 99));
  }

  static void promise09_empty() {
    says("An empty summary has no counters, and its floor, its sum, and all that came are 0.", "Empties a summary; its size stays.");
    with(x -> x.setSize(0, 2));
    feed(0, "a5,b6,c7");
    due(18, x -> x.clear(0));
    due(2, x -> x.summary(0, 0));
    for (int what = 1; what <= 6; what++) {
      int w = what;
      due(0, x -> x.summary(0, w));
    }
    for (char c = 'a'; c <= 'c'; c++) {
      char letter = c;
      due(0, x -> x.bound(0, letter, 0));
      due(0, x -> x.bound(0, letter, 2));
      due(NONE, x -> x.bound(0, letter, 3));
      due(NONE, x -> x.bound(0, letter, 4));
    }
    // What was evicted stays counted and told.
    due(1, x -> x.count(1));
    due('a', x -> x.event(0, 2));
    due(1, x -> x.arrive(0, 'q', 1));
    due(0, x -> x.bound(0, 'q', 3));
    due(3, x -> x.undo());
    due(2, x -> x.undo());
    due(18, x -> x.summary(0, 3));
  }

  static void promise09_refusedAmidAll() {
    says("A call that returns an error or NONE changes nothing.");
    busy();
    with(x -> x.clear(1));
    still(NONE, x -> x.clear(1));
    still(UNKNOWN, x -> x.clear(4));
  }

  // ---- promise 10: type

  static void promise10_sixty() {
    says("There is a text of at most 60 characters", "Returns the length of the text then; FULL if it has 60 characters.");
    for (int i = 1; i <= 59; i++) {
      char c = i % 2 == 1 ? 'a' : ',';
      int length = i;
      due(length, x -> x.type(c));
    }
    due(60, x -> x.type('9'));
    due(60, x -> x.count(7));
    still(FULL, x -> x.type('b'));
    still(FULL, x -> x.type((char) 0));
    still(FULL, x -> x.type('9'));
    due(60, x -> x.count(7));
    due(30, x -> x.feed(0));
    due(38, x -> x.bound(0, 'a', 2));
  }

  static void promise10_anyCharacter() {
    says("- `character`: any character", "Types a character behind the text.");
    char[] characters = {(char) 0, (char) 65535, ' ', '\n', (char) 55296, (char) 233, '?', 'a'};
    for (int i = 0; i < characters.length; i++) {
      char c = characters[i];
      int length = i + 1;
      due(length, x -> x.type(c));
    }
    still(-100, x -> x.feed(0));
    text("a");
    due(2, x -> x.type(','));
    due(3, x -> x.type('b'));
    due(2, x -> x.feed(0));
    due(bits("ab"), x -> x.summary(0, 5));
    due(4, x -> x.type((char) 0));
    still(-103, x -> x.feed(0));
  }

  static void promise10_noAct() {
    says("Each call of a method that is described as an act", "`int type(char character)`: Types a character behind the text.");
    with(x -> x.arrive(0, 'a', 1));
    with(x -> x.type('a'));
    due(1, x -> x.count(6));
    due(0, x -> x.undo());
    due(1, x -> x.count(7));
    still(NONE, x -> x.undo());
  }

  // ---- promise 11: clearText

  static void promise11_lengths() {
    says("Empties the text.", "Returns the length that it had.");
    still(0, x -> x.clearText());
    with(x -> x.type('x'));
    due(1, x -> x.clearText());
    due(0, x -> x.clearText());
    for (int i = 0; i < 60; i++) {
      with(x -> x.type('a'));
    }
    due(60, x -> x.clearText());
    due(0, x -> x.count(7));
    still(0, x -> x.clearText());
    due(1, x -> x.type('b'));
    due(1, x -> x.feed(0));
    due(bits("b"), x -> x.summary(0, 5));
  }

  static void promise11_noAct() {
    says("A state is everything but the text, the history and the snapshot.");
    with(x -> x.arrive(0, 'a', 1));
    text("b,c");
    with(x -> x.keep());
    due(3, x -> x.clearText());
    due(1, x -> x.count(6));
    due(0, x -> x.undo());
    due(0, x -> x.count(7));
    with(x -> x.restore());
    due(0, x -> x.count(7));
    still(-100, x -> x.feed(0));
  }

  // ---- promise 12: perform

  private static void faultOfCommand(String text, int fault) {
    fresh();
    with(x -> x.arrive(0, 'q', 7));
    text(text);
    still(-100 - fault, x -> x.perform());
  }

  static void promise12_words() {
    says("the word goes up to the first character that is no small letter, and if it is none of these words, the fault is 0");
    String[] texts = {"", " ", "m", "merg", "merges", "merged 0 1", "Merge 0 1", "MERGE 0 1", " merge 0 1", "mergesize 0 1", "cop", "copy0x",
        "copys 0 1", "siz", "sizes 0 2", "clea", "clears 0", "setsize 0 2", "undo", "a,b", "0", "?", "merge" + times(55, "e"), times(60, "a"),
        "merg\u00e9 0 1", "\u0000merge 0 1", "mergf 0 1", "aerge 0 1", "mErge 0 1", "size\u00e9"};
    int[] faults = {0, 0, 0, 0, 0, 0, 0, 0, 0, 0, 0, 4, 0, 0, 0, 0, 0, 0, 0, 0, 0, 0, 0, 0, 0, 0, 0, 0, 0, 4};
    for (int i = 0; i < texts.length; i++) {
      faultOfCommand(texts[i], faults[i]);
    }
  }

  static void promise12_endsTooEarly() {
    says("A command is \"merge\", \"copy\" or \"size\" with two numbers behind it, or \"clear\" with one, each behind one blank",
        "or the length of the text if it ends too early");
    String[] commands = {"merge 0 1", "copy 0 1", "size 0 5", "clear 0"};
    for (String command : commands) {
      int word = command.indexOf(' ');
      for (int i = 0; i < command.length(); i++) {
        faultOfCommand(command.substring(0, i), i < word ? 0 : i);
      }
    }
    faultOfCommand("merge 10", 8);
    faultOfCommand("size 10 ", 8);
  }

  static void promise12_faultIsFirst() {
    says("is the index, from 0, of the first character that is not allowed at its place");
    String[] commands = {"merge 0 1", "copy 10 21", "size 0 5", "clear 0", "clear 23"};
    for (String command : commands) {
      int word = command.indexOf(' ');
      for (int i = 0; i < command.length(); i++) {
        String front = command.substring(0, i);
        String back = command.substring(i + 1);
        faultOfCommand(front + "?" + back, i < word ? 0 : i);
        faultOfCommand(front + "\u0000" + back, i < word ? 0 : i);
        faultOfCommand(front + "/:", i < word ? 0 : i);
        faultOfCommand(front + ":/", i < word ? 0 : i);
      }
    }
  }

  static void promise12_oneBlank() {
    says("each behind one blank");
    String[] texts = {"merge  0 1", "merge 0  1", "merge0 1", "merge\t0 1", "merge 0\t1", "merge 0,1", "merge 0 1 ", "clear  0", "clear0",
        "clear 0 ", "size 0 5 ", "copy 0 1\n"};
    int[] faults = {6, 8, 5, 5, 7, 7, 9, 6, 5, 7, 8, 8};
    for (int i = 0; i < texts.length; i++) {
      faultOfCommand(texts[i], faults[i]);
    }
  }

  static void promise12_howManyNumbers() {
    says("\"size\" with two numbers behind it, or \"clear\" with one");
    faultOfCommand("merge 0", 7);
    faultOfCommand("copy 0", 6);
    faultOfCommand("size 0", 6);
    faultOfCommand("clear", 5);
    faultOfCommand("merge 0 1 2", 9);
    faultOfCommand("copy 0 1 2", 8);
    faultOfCommand("size 0 5 2", 8);
    faultOfCommand("clear 0 1", 7);
  }

  static void promise12_digits() {
    says("a number has one or two digits, without a zero in front unless it is the single digit 0");
    String[] texts = {"clear 00", "clear 01", "clear 000", "clear 123", "clear 100", "clear 1x", "clear x1", "clear -1", "clear +1", "merge 00 1",
        "merge 0 01", "merge 100 1", "merge 0 100", "size 0 02", "size 00 2", "size 0 010", "copy 1 00", "size 0 5.0"};
    int[] faults = {7, 7, 7, 8, 8, 7, 6, 6, 6, 7, 9, 8, 10, 8, 6, 8, 8, 8};
    for (int i = 0; i < texts.length; i++) {
      faultOfCommand(texts[i], faults[i]);
    }
    String[] whole = {"clear 0", "clear 1", "clear 9", "clear 10", "clear 99", "size 0 2", "size 0 10", "size 0 11", "size 0 99", "size 0 0",
        "size 0 1", "copy 0 10", "copy 10 0", "merge 99 99", "merge 0 0"};
    int[] answers = {7, NONE, UNKNOWN, UNKNOWN, UNKNOWN, 0, 0, BAD, BAD, BAD, BAD, UNKNOWN, UNKNOWN, UNKNOWN, BAD};
    for (int i = 0; i < whole.length; i++) {
      fresh();
      with(x -> x.arrive(0, 'q', 7));
      text(whole[i]);
      int want = answers[i];
      if (want < 0) {
        still(want, x -> x.perform());
      } else {
        due(want, x -> x.perform());
      }
    }
  }

  static void promise12_sixty() {
    says("-100 minus the fault of the text, read as a command, if it has one (which is an error)");
    faultOfCommand("clear 0" + times(53, " "), 7);
    faultOfCommand("merge 10 11" + times(49, "1"), 11);
    faultOfCommand(times(59, "a") + " ", 0);
    faultOfCommand("clear" + times(55, " "), 6);
  }

  static void promise12_asTheCalls() {
    says("otherwise what merge(), copy(), setSize() (for \"size\") or clear() returns");
    text("size 0 10");
    due(0, x -> x.perform());
    due(10, x -> x.summary(0, 0));
    still(NONE, x -> x.perform());
    feed(0, "a,b2,c3,d4,e5,f6,g7,h8,i9,j10");
    text("copy 1 0");
    due(10, x -> x.perform());
    due(55, x -> x.summary(1, 3));
    text("size 1 2");
    due(8, x -> x.perform());
    due(bits("ij"), x -> x.summary(1, 6));
    text("merge 1 0");
    due(8, x -> x.perform());
    due(110, x -> x.summary(1, 3));
    due(0, x -> x.summary(0, 3));
    due(1, x -> x.count(2));
    text("clear 1");
    due(110, x -> x.perform());
    still(NONE, x -> x.perform());
    due(7, x -> x.count(7));
  }

  static void promise12_errorsOfTheCalls() {
    says("otherwise what merge(), copy(), setSize() (for \"size\") or clear() returns");
    busy();
    String[] texts = {"merge 4 0", "merge 0 4", "merge 4 4", "merge 1 1", "copy 4 0", "copy 0 4", "copy 2 2", "size 4 4", "size 0 1",
        "size 0 11", "size 0 2", "clear 4", "clear 3"};
    int[] answers = {UNKNOWN, UNKNOWN, UNKNOWN, BAD, UNKNOWN, UNKNOWN, BAD, UNKNOWN, BAD, BAD, NONE, UNKNOWN, NONE};
    for (int i = 0; i < texts.length; i++) {
      text(texts[i]);
      int want = answers[i];
      still(want, x -> x.perform());
    }
    // A fault comes first, whatever the numbers are.
    text("merge 4 4 ");
    still(-109, x -> x.perform());
  }

  static void promise12_full() {
    says("otherwise what merge()");
    fill(0, 1000000);
    with(x -> x.arrive(1, 'a', 1));
    text("merge 0 1");
    still(FULL, x -> x.perform());
    text("merge 1 0");
    still(FULL, x -> x.perform());
  }

  static void promise12_oneState() {
    says("Does what the command in the text tells; the text stays. This is an act.");
    feed(0, "a,b");
    feed(1, "c,d");
    due(2, x -> x.count(6));
    text("merge 0 1");
    due(0, x -> x.perform());
    due(3, x -> x.count(6));
    due(9, x -> x.count(7));
    due(2, x -> x.undo());
    due(2, x -> x.summary(0, 3));
    due(2, x -> x.summary(1, 3));
    due(9, x -> x.count(7));
    due(0, x -> x.perform());
    due(4, x -> x.summary(0, 3));
    due(3, x -> x.count(6));
  }

  // ---- promise 13: undo

  static void promise13_emptyHistory() {
    says("Returns the number of states that are left; NONE if the history is empty.");
    still(NONE, x -> x.undo());
    with(x -> x.arrive(0, 'a', 1));
    due(0, x -> x.undo());
    due(0, x -> x.summary(0, 3));
    still(NONE, x -> x.undo());
    with(x -> x.type('a'));
    with(x -> x.keep());
    still(NONE, x -> x.undo());
  }

  static void promise13_fourStates() {
    says("A history of at most 4 states is kept; when one more is recorded, the oldest one is dropped; undo() removes and restores the latest one.",
        "Removes and restores the latest state of the history.");
    for (int i = 1; i <= 4; i++) {
      int many = i;
      with(x -> x.arrive(0, 'a', 1));
      due(many, x -> x.count(6));
    }
    for (int i = 3; i >= 0; i--) {
      int left = i;
      due(left, x -> x.undo());
      due(left, x -> x.summary(0, 3));
      due(left, x -> x.count(6));
    }
    still(NONE, x -> x.undo());
  }

  static void promise13_fifthDropsTheOldest() {
    says("when one more is recorded, the oldest one is dropped");
    for (int i = 1; i <= 5; i++) {
      with(x -> x.arrive(0, 'a', 1));
    }
    due(4, x -> x.count(6));
    for (int i = 3; i >= 0; i--) {
      int left = i;
      due(left, x -> x.undo());
      due(left + 1, x -> x.summary(0, 3));
    }
    still(NONE, x -> x.undo());
    due(1, x -> x.summary(0, 3));
    // Many more than four, and undone and done between.
    for (int i = 2; i <= 30; i++) {
      with(x -> x.arrive(0, 'a', 1));
    }
    due(3, x -> x.undo());
    due(2, x -> x.undo());
    due(28, x -> x.summary(0, 3));
    with(x -> x.arrive(0, 'b', 50));
    due(3, x -> x.count(6));
    due(2, x -> x.undo());
    due(1, x -> x.undo());
    due(0, x -> x.undo());
    due(26, x -> x.summary(0, 3));
    still(NONE, x -> x.undo());
  }

  static void promise13_eachActRecordsOne() {
    says("Each call of a method that is described as an act, and returns no error and not NONE, records the state that was before it.",
        "Lets a letter arrive at a summary. This is an act.", "Lets the arrivals of the text, which stays, come to a summary, one after the other. This is one act.",
        "Lets a letter flow into the window. This is an act.", "Lets the arrivals of the text, which stays, flow into the window, one after the other. This is one act.",
        "Merges a summary with another one, which is empty then. This is an act.",
        "Makes a summary what another one is, its size included. This is an act.", "Sets the size of a summary. This is an act.",
        "Empties a summary; its size stays. This is an act.", "Does what the command in the text tells; the text stays. This is an act.",
        "Restores the state of the snapshot, which stays. This is an act.");
    Call[] acts = {x -> x.arrive(0, 'a', 5), x -> x.feed(1), x -> x.flow('b', 2), x -> x.flowAll(), x -> x.merge(2, 1), x -> x.merge(0, 3),
        x -> x.copy(1, 0), x -> x.copy(3, 2), x -> x.setSize(1, 2), x -> x.setSize(1, 10), x -> x.clear(1), x -> x.restore()};
    for (Call act : acts) {
      busy();
      with(x -> x.undo());
      due(3, x -> x.count(6));
      backAgain(act);
      fresh();
    }
    String[] commands = {"merge 2 1", "copy 3 0", "size 1 2", "size 0 7", "clear 1"};
    for (String command : commands) {
      busy();
      text(command);
      with(x -> x.undo());
      backAgain(x -> x.perform());
      fresh();
    }
  }

  /** The act records one state, and undo() brings back all that was told before. */
  private static void backAgain(Call act) {
    List<int[]> before = everything(run);
    with(act);
    due(4, x -> x.count(6));
    due(3, x -> x.undo());
    List<Call> calls = new ArrayList<>(run);
    // What count() and undo() told is no change.
    compare(before, everything(calls));
  }

  static void promise13_whatIsNoAct() {
    says("Each call of a method that is described as an act", "`int keep()`: Takes a snapshot of the state, in place of the one that was.");
    with(x -> x.arrive(0, 'a', 1));
    with(x -> x.arrive(0, 'a', 1));
    with(x -> x.undo());
    due(1, x -> x.count(6));
    with(x -> x.type('a'));
    with(x -> x.clearText());
    with(x -> x.keep());
    for (Call look : LOOKS.subList(0, 200)) {
      with(look);
    }
    due(1, x -> x.count(6));
    due(0, x -> x.undo());
    due(0, x -> x.summary(0, 3));
    still(NONE, x -> x.undo());
  }

  static void promise13_whatIsTakenBack() {
    says("A state is everything but the text, the history and the snapshot.");
    with(x -> x.setSize(0, 2));
    flow("a,b,c,d,a,b,c,d");
    with(x -> x.keep());
    flow("e,f,g,h,i");
    with(x -> x.merge(0, 1));
    feed(0, "a,b,c");
    due(13 + 3, x -> x.count(0));
    due(2, x -> x.count(3));
    due(2, x -> x.count(1));
    due(1, x -> x.count(2));
    due(3, x -> x.undo());
    due(13, x -> x.count(0));
    due(1, x -> x.event(0, 0));
    due(2, x -> x.undo());
    due(0, x -> x.count(2));
    due(0, x -> x.event(0, 0));
    due(2, x -> x.event(1, 0));
    due(1, x -> x.undo());
    due(8, x -> x.count(0));
    due(1, x -> x.count(3));
    due(0, x -> x.count(1));
    due(8, x -> x.count(5));
    still(NONE, x -> x.event(0, 0));
    due(UNKNOWN, x -> x.block(1, 0));
    due(0, x -> x.undo());
    due(0, x -> x.count(0));
    due(2, x -> x.summary(0, 0));
    due(5, x -> x.count(7));
    due(8, x -> x.restore());
  }

  static void promise13_droppedBlockComesBack() {
    says("undo() removes and restores the latest one");
    flow("a,a,a,a,a,a,a,a,b,b,b,b,b,b,b,b2");
    flow("c,c,c,c,c,c,c,c3,d,d,d,d,d,d,d,d4");
    List<int[]> before = everything(run);
    due(1, x -> x.flow('e', 1));
    due(0, x -> x.bound(4, 'a', 2));
    due(2, x -> x.undo());
    due(8, x -> x.bound(4, 'a', 2));
    due(8, x -> x.block(3, 0));
    due(4, x -> x.count(3));
    // In their order, too.
    for (int i = 0; i < 4; i++) {
      int block = i;
      due(8 + i, x -> x.block(block, 1));
    }
    compare(before, everything(run));
    // As the fifth begins again, the same one is dropped.
    due(1, x -> x.flow('e', 1));
    due(9, x -> x.block(0, 1));
    due(1, x -> x.block(3, 1));
  }

  static void promise13_droppedEventComesBack() {
    says("undo() removes and restores the latest one", "The latest 8 events are known.");
    with(x -> x.arrive(0, 'a', 1));
    for (int i = 0; i < 8; i++) {
      with(x -> x.merge(1, 2));
    }
    with(x -> x.merge(3, 2));
    due(NONE, x -> x.event(8, 0));
    due(3, x -> x.event(0, 1));
    due(3, x -> x.undo());
    due(1, x -> x.event(0, 1));
    due(1, x -> x.event(7, 1));
    due(NONE, x -> x.event(8, 0));
    due(2, x -> x.undo());
    due(1, x -> x.event(6, 0));
    due(NONE, x -> x.event(7, 0));
  }

  // ---- promise 14: keep

  static void promise14_time() {
    says("Takes a snapshot of the state, in place of the one that was.", "Returns the time.");
    due(0, x -> x.keep());
    feed(0, "a,b,c");
    due(3, x -> x.keep());
    due(3, x -> x.keep());
    due(1, x -> x.count(6));
    with(x -> x.undo());
    due(0, x -> x.keep());
    due(0, x -> x.count(6));
  }

  static void promise14_inPlaceOfTheOther() {
    says("Takes a snapshot of the state, in place of the one that was.");
    with(x -> x.arrive(0, 'a', 1));
    with(x -> x.keep());
    with(x -> x.arrive(0, 'b', 2));
    with(x -> x.keep());
    with(x -> x.arrive(0, 'c', 4));
    due(2, x -> x.restore());
    due(3, x -> x.summary(0, 3));
    due(2, x -> x.restore());
    due(3, x -> x.summary(0, 3));
  }

  static void promise14_snapshotOfANewObject() {
    says("There is one snapshot, empty at first.", "Takes a snapshot of the state");
    still(NONE, x -> x.restore());
    due(0, x -> x.keep());
    feed(0, "a,b");
    with(x -> x.setSize(1, 9));
    flow("a,b,c");
    due(0, x -> x.restore());
    due(0, x -> x.summary(0, 3));
    due(4, x -> x.summary(1, 0));
    due(0, x -> x.summary(4, 3));
    due(4, x -> x.count(6));
  }

  static void promise14_nothingElse() {
    says("There is one snapshot", "Each call of a method that is described as an act");
    busy();
    List<int[]> before = everything(run);
    with(x -> x.keep());
    List<int[]> after = everything(run);
    // All but what restore() brings.
    before.remove(6);
    after.remove(6);
    compare(before, after);
  }

  // ---- promise 15: restore

  static void promise15_noSnapshot() {
    says("Returns the time then; NONE if there is no snapshot.");
    still(NONE, x -> x.restore());
    with(x -> x.arrive(0, 'a', 1));
    still(NONE, x -> x.restore());
    due(1, x -> x.count(6));
    with(x -> x.keep());
    due(1, x -> x.restore());
    due(2, x -> x.count(6));
  }

  static void promise15_stays() {
    says("Restores the state of the snapshot, which stays. This is an act.");
    feed(0, "a,b");
    due(2, x -> x.keep());
    for (int i = 0; i < 6; i++) {
      with(x -> x.arrive(0, 'c', 9));
      due(2, x -> x.restore());
      due(2, x -> x.summary(0, 3));
      due(2, x -> x.count(0));
      due(NONE, x -> x.bound(0, 'c', 4));
    }
    due(4, x -> x.count(6));
    due(3, x -> x.undo());
    due(11, x -> x.summary(0, 3));
    due(3, x -> x.count(0));
    due(2, x -> x.undo());
    due(2, x -> x.summary(0, 3));
    // undo() takes the snapshot neither away nor back.
    with(x -> x.undo());
    with(x -> x.undo());
    due(2, x -> x.restore());
  }

  static void promise15_whatIsRestored() {
    says("A state is everything but the text, the history and the snapshot.");
    busy();
    text("q,r,s");
    due(4, x -> x.count(6));
    due(8, x -> x.restore());
    due(4, x -> x.count(6));
    due(5, x -> x.count(7));
    due(0, x -> x.summary(4, 3));
    due(1, x -> x.count(3));
    due(0, x -> x.count(2));
    due(2, x -> x.count(1));
    due(0, x -> x.event(0, 0));
    due(1, x -> x.event(0, 1));
    due(NONE, x -> x.event(2, 0));
    due(bits("ac"), x -> x.summary(0, 6));
    due(0, x -> x.summary(2, 3));
    due(3, x -> x.undo());
    due(2, x -> x.count(3));
    due(bits("xz"), x -> x.summary(0, 6));
    due(3, x -> x.feed(3));
  }

  static void promise15_droppedBlockComesBack() {
    says("Restores the state of the snapshot, which stays.");
    flow("a,a,a,a,a,a,a,a,b,b,b,b,b,b,b,b2");
    flow("c,c,c,c,c,c,c,c3,d,d,d,d,d,d,d,d4");
    with(x -> x.keep());
    flow("e,e,e,e,e,e,e,e,f");
    due(32 + 9, x -> x.count(0));
    due(10, x -> x.block(0, 1));
    due(32, x -> x.restore());
    for (int i = 0; i < 4; i++) {
      int block = i;
      due(8 + i, x -> x.block(block, 1));
    }
    due(8, x -> x.count(5));
    due(4, x -> x.count(3));
    due(1, x -> x.flow('e', 1));
    due(9, x -> x.block(0, 1));
    due(3, x -> x.undo());
    due(2, x -> x.undo());
    due(10, x -> x.block(0, 1));
    due(1, x -> x.block(3, 1));
  }

  // ---- promise 16: summary, and the whole of the window

  static void promise16_summaries() {
    says("for all of these, the summary 4 is the whole of the window", "- `summary`: 0 to 4");
    feed(0, "a2");
    feed(3, "b3");
    flow("c4");
    due(2, x -> x.summary(0, 3));
    due(3, x -> x.summary(3, 3));
    due(4, x -> x.summary(4, 3));
    for (int s : NOT_TOLD) {
      still(UNKNOWN, x -> x.summary(s, 0));
      still(UNKNOWN, x -> x.summary(s, 7));
    }
  }

  static void promise16_what() {
    says("- `what`: 0 for its size, 1 for its counters, 2 for its floor, 3 for its sum", "Returns the number; UNKNOWN; BAD_VALUE.");
    with(x -> x.setSize(0, 2));
    feed(0, "a5,b2,z1");
    int[] wanted = {2, 2, 2, 8, 2, bits("abz"), bits("az")};
    for (int what = 0; what <= 6; what++) {
      int w = what;
      still(wanted[w], x -> x.summary(0, w));
    }
    for (int what : new int[] {-1, 7, 8, MIN, MAX}) {
      still(BAD, x -> x.summary(0, what));
      still(BAD, x -> x.summary(4, what));
    }
    still(UNKNOWN, x -> x.summary(5, -1));
  }

  static void promise16_greatestSlack() {
    says("4 for the greatest slack of a counter (0 without counters)");
    due(0, x -> x.summary(0, 4));
    with(x -> x.setSize(0, 2));
    feed(0, "a5,b6");
    due(0, x -> x.summary(0, 4));
    with(x -> x.arrive(0, 'c', 9));
    due(5, x -> x.summary(0, 4));
    with(x -> x.arrive(0, 'd', 99));
    due(6, x -> x.summary(0, 4));
    // d 105 (6) and e (14): the greatest goes with its counter.
    with(x -> x.arrive(0, 'e', 1));
    due(14, x -> x.summary(0, 4));
    with(x -> x.setSize(0, 3));
    with(x -> x.clear(0));
    due(0, x -> x.summary(0, 4));
    // The first letter and the last one count as any other.
    with(x -> x.setSize(1, 2));
    feed(1, "q5,r9,a1");
    due(5, x -> x.summary(1, 4));
    with(x -> x.setSize(2, 2));
    feed(2, "q4,r9,z1");
    due(4, x -> x.summary(2, 4));
  }

  static void promise16_bits() {
    says("Sets of letters are told as bits: 1 for a, 2 for b, 4 for c, and so on.", "5 for the letters that have come (as bits), 6 for the letters with a counter (as bits)");
    with(x -> x.arrive(0, 'a', 1));
    due(1, x -> x.summary(0, 5));
    due(1, x -> x.summary(0, 6));
    with(x -> x.arrive(0, 'b', 1));
    due(3, x -> x.summary(0, 5));
    with(x -> x.arrive(0, 'c', 1));
    due(7, x -> x.summary(0, 5));
    with(x -> x.arrive(0, 'z', 1));
    due(7 + (1 << 25), x -> x.summary(0, 6));
    with(x -> x.arrive(0, 'y', 1));
    due(7 + (3 << 24), x -> x.summary(0, 5));
    due(6 + (3 << 24), x -> x.summary(0, 6));
  }

  static void promise16_oneBlock() {
    says("of one block it is this block, with its times");
    flow("a5,b2,c,d3,e,a");
    for (int what = 0; what <= 3; what++) {
      int[] block = {6, 13, 4, 1};
      int w = what;
      due(block[w], x -> x.block(0, w));
    }
    due(4, x -> x.summary(4, 1));
    due(1, x -> x.summary(4, 2));
    due(13, x -> x.summary(4, 3));
    due(6, x -> x.bound(4, 'a', 4));
    due(2, x -> x.bound(4, 'b', 4));
    due(5, x -> x.bound(4, 'e', 4));
    due(1, x -> x.bound(4, 'e', 3));
    due(bits("abde"), x -> x.summary(4, 6));
    with(x -> x.arrive(0, 'x', 1));
    due(6, x -> x.bound(4, 'a', 4));
    due(2, x -> x.bound(4, 'b', 4));
  }

  static void promise16_twoBlocks() {
    says("The whole of the window is what comes about if the kept blocks are merged, from the oldest one to the present one",
        "The times of all counters are the present time");
    flow("a5,b2,c3,d4,a,a,a,a,e");
    due(9, x -> x.bound(4, 'a', 4));
    due(9, x -> x.bound(4, 'd', 4));
    due(NONE, x -> x.bound(4, 'e', 4));
    due(4, x -> x.summary(4, 0));
    due(4, x -> x.summary(4, 1));
    due(1, x -> x.summary(4, 2));
    due(19, x -> x.summary(4, 3));
    due(bits("abcde"), x -> x.summary(4, 5));
    // The present time, also if it goes on elsewhere.
    with(x -> x.arrive(0, 'x', 1));
    due(10, x -> x.bound(4, 'a', 4));
  }

  static void promise16_oneAfterTheOther() {
    says("the oldest is merged with the next one, the result (of the size 4) with the one behind it, and so on");
    flow("a9,b8,c7,d6,a,b,c,d,e5,f5,e,f,e,f,e,f");
    // a 10, b 9, c 8, d 7 with e 8, f 8: d 7 is left out, then f 8.
    due(bits("abce"), x -> x.summary(4, 6));
    due(8, x -> x.summary(4, 2));
    flow("f9,d,f,d,f,d,f,d");
    // f 12 gets 8 + 12, d 8 + 4 = 12; c 8 is left out, then e 8.
    due(bits("abdf"), x -> x.summary(4, 6));
    due(20, x -> x.bound(4, 'f', 0));
    due(8, x -> x.bound(4, 'f', 3));
    due(12, x -> x.bound(4, 'd', 0));
    due(8, x -> x.summary(4, 2));
    flow("c20");
    // c 8 + 20; b 9 is left out.
    due(4, x -> x.count(4));
    due(28, x -> x.bound(4, 'c', 0));
    due(bits("acdf"), x -> x.summary(4, 6));
    due(9, x -> x.summary(4, 2));
    due(9, x -> x.bound(4, 'b', 0));
    due(9, x -> x.bound(4, 'b', 2));
  }

  static void promise16_lookingChangesNothing() {
    says("(Nothing is changed by looking at it.)", "What happens as the whole of the window is looked at is no event.");
    flow("a,b,c,d,e,f,g,h,i,j,k,l,m");
    int evictions = object.count(1);
    for (int what = 0; what <= 6; what++) {
      int w = what;
      int first = object.summary(4, w);
      still(first, x -> x.summary(4, w));
    }
    still(object.top(4, 0, 0), x -> x.top(4, 0, 0));
    still(object.alike(4, 0), x -> x.alike(4, 0));
    still(26, x -> x.alike(4, 4));
    still(object.first(4, 3, true), x -> x.first(4, 3, true));
    still(object.above(4, 3, true), x -> x.above(4, 3, true));
    still(object.rank(4, 'a', true), x -> x.rank(4, 'a', true));
    still(object.bound(4, 'a', 0), x -> x.bound(4, 'a', 0));
    due(evictions, x -> x.count(1));
    due(0, x -> x.count(2));
  }

  // ---- promise 17: bound

  static void promise17_summaries() {
    says("UNKNOWN (summary or letter); BAD_VALUE.");
    feed(0, "a2");
    feed(3, "a3");
    flow("a4");
    due(2, x -> x.bound(0, 'a', 0));
    due(3, x -> x.bound(3, 'a', 0));
    due(4, x -> x.bound(4, 'a', 0));
    for (int s : NOT_TOLD) {
      still(UNKNOWN, x -> x.bound(s, 'a', 0));
      still(UNKNOWN, x -> x.bound(s, 'A', 9));
    }
  }

  static void promise17_letters() {
    says("- `letter`: a to z");
    feed(0, "a2,z3");
    due(2, x -> x.bound(0, 'a', 2));
    due(3, x -> x.bound(0, 'z', 2));
    for (char c : NO_LETTER) {
      still(UNKNOWN, x -> x.bound(0, c, 0));
      still(UNKNOWN, x -> x.bound(4, c, 5));
    }
  }

  static void promise17_what() {
    says("0 for its upper bound, 1 for its lower bound, 2 for what came of it, 3 for its slack (NONE without a counter), 4 for the time of its counter (NONE without one)");
    with(x -> x.setSize(0, 2));
    feed(0, "a5,b2,c1,c1");
    int[][] wanted = {{5, 5, 5, 0, 1}, {2, 0, 2, NONE, NONE}, {4, 2, 2, 2, 4}, {2, 0, 0, NONE, NONE}};
    for (int i = 0; i < wanted.length; i++) {
      char letter = (char) ('a' + i);
      for (int what = 0; what <= 4; what++) {
        int w = what;
        still(wanted[i][w], x -> x.bound(0, letter, w));
      }
      for (int what : new int[] {-1, 5, MIN, MAX}) {
        still(BAD, x -> x.bound(0, letter, what));
      }
    }
  }

  static void promise17_noneOnlyIfNoErrorApplies() {
    says("NONE is no error; it is returned only if no error applies.");
    // Each of these has nothing to tell or to do, too.
    still(UNKNOWN, x -> x.bound(5, 'a', 3));
    still(UNKNOWN, x -> x.bound(0, 'A', 4));
    still(UNKNOWN, x -> x.top(5, 9, 0));
    still(BAD, x -> x.top(0, 9, 2));
    still(UNKNOWN, x -> x.wouldEvict(4, 'a'));
    still(UNKNOWN, x -> x.wouldEvict(0, '{'));
    still(BAD, x -> x.event(9, 4));
    still(UNKNOWN, x -> x.setSize(4, 4));
    still(UNKNOWN, x -> x.clear(4));
    text("clear 0,");
    still(-107, x -> x.perform());
    text("size 0 4 ");
    still(-108, x -> x.perform());
    text("size 5 4");
    still(UNKNOWN, x -> x.perform());
    text("size 0 4");
    still(NONE, x -> x.perform());
  }

  // ---- promise 18: top

  static void promise18_places() {
    says("- `place`: a place in this order, from 0", "- `what`: 0 for the code of its letter, 1 for its count", "BAD_VALUE (place is negative, or what); NONE if there are not so many.");
    with(x -> x.setSize(0, 10));
    still(NONE, x -> x.top(0, 0, 0));
    feed(0, "a,b2,c3,d4,e5,f6,g7,h8,i9,j10");
    due('j', x -> x.top(0, 0, 0));
    due(10, x -> x.top(0, 0, 1));
    due('a', x -> x.top(0, 9, 0));
    due(1, x -> x.top(0, 9, 1));
    still(NONE, x -> x.top(0, 10, 0));
    still(NONE, x -> x.top(0, 10, 1));
    still(NONE, x -> x.top(0, MAX, 0));
    still(BAD, x -> x.top(0, -1, 0));
    still(BAD, x -> x.top(0, MIN, 1));
    for (int what : new int[] {-1, 2, MIN, MAX}) {
      still(BAD, x -> x.top(0, 0, what));
      still(BAD, x -> x.top(0, 10, what));
    }
  }

  static void promise18_notSoManyAsTheSize() {
    says("NONE if there are not so many");
    feed(0, "a,b");
    due('b', x -> x.top(0, 1, 0));
    still(NONE, x -> x.top(0, 2, 0));
    still(NONE, x -> x.top(0, 3, 0));
    still(NONE, x -> x.top(4, 0, 0));
    still(NONE, x -> x.top(1, 0, 1));
  }

  static void promise18_byTheAlphabet() {
    says("Tells the counters from the greatest count on; those of one count by the alphabet.");
    feed(0, "z3,m5,a3,n5");
    String order = "mnaz";
    for (int i = 0; i < 4; i++) {
      int place = i;
      due(order.charAt(i), x -> x.top(0, place, 0));
      due(i < 2 ? 5 : 3, x -> x.top(0, place, 1));
    }
    // By the count, not by what came or the lower bound: c gets 3 + 1, of which 3 are slack.
    feed(0, "c");
    due('c', x -> x.top(0, 2, 0));
    due(4, x -> x.top(0, 2, 1));
    due('a', x -> x.top(0, 3, 0));
  }

  static void promise18_summaries() {
    says("Returns the number; UNKNOWN; BAD_VALUE (place is negative, or what)");
    feed(3, "q2");
    flow("w3");
    due('q', x -> x.top(3, 0, 0));
    due('w', x -> x.top(4, 0, 0));
    for (int s : NOT_TOLD) {
      still(UNKNOWN, x -> x.top(s, 0, 0));
      still(UNKNOWN, x -> x.top(s, -1, 2));
    }
  }

  // ---- promise 19: first

  static void promise19_many() {
    says("- `many`: 1 to 25", "Returns the letters as bits; UNKNOWN; BAD_VALUE.");
    feed(0, "a3,b2");
    due(bits("a"), x -> x.first(0, 1, true));
    due(bits("ab"), x -> x.first(0, 2, true));
    due(ALL, x -> x.first(0, 25, true));
    due(bits("a"), x -> x.first(0, 1, false));
    due(ALL, x -> x.first(0, 25, false));
    for (int many : new int[] {0, 26, -1, 27, MIN, MAX}) {
      still(BAD, x -> x.first(0, many, true));
      still(BAD, x -> x.first(4, many, false));
    }
    for (int s : NOT_TOLD) {
      still(UNKNOWN, x -> x.first(s, 1, true));
      still(UNKNOWN, x -> x.first(s, 0, false));
    }
  }

  static void promise19_certainly() {
    says("a letter is so certainly if fewer than many other letters have an upper bound that is greater than its lower bound",
        "- `sure`: whether those are told that are so certainly, otherwise those that are so possibly");
    with(x -> x.setSize(0, 3));
    feed(0, "a9,b4,c3,d1");
    // a [9,9], b [4,4], d [1,4], the others [0,3]: b's 4 isn't greater than 4, but d's 1 is beaten by 24.
    due(bits("a"), x -> x.first(0, 1, true));
    due(bits("ab"), x -> x.first(0, 2, true));
    due(bits("ab"), x -> x.first(0, 24, true));
    due(bits("ab"), x -> x.first(0, 25, true));
    fresh();
    with(x -> x.setSize(0, 3));
    feed(0, "a9,b4,c3,d3");
    // d [3,6]: a alone and b are above its lower bound; the others' 3 isn't greater.
    due(bits("a"), x -> x.first(0, 2, true));
    due(bits("abd"), x -> x.first(0, 3, true));
  }

  static void promise19_allAreEqual() {
    says("a letter is so certainly if fewer than many other letters have an upper bound that is greater than its lower bound");
    // Nothing came: no upper bound is greater than any lower bound.
    due(ALL, x -> x.first(0, 1, true));
    due(ALL, x -> x.first(0, 1, false));
    due(ALL, x -> x.first(4, 1, true));
    feed(0, "a2,b2,c2");
    due(bits("abc"), x -> x.first(0, 1, true));
    due(bits("abc"), x -> x.first(0, 1, false));
    due(bits("abc"), x -> x.first(0, 3, true));
    due(ALL, x -> x.first(0, 4, true));
  }

  static void promise19_possibly() {
    says("it is so possibly if fewer than many other letters have a lower bound that is greater than its upper bound",
        "- `sure`: whether those are told that are so certainly, otherwise those that are so possibly");
    with(x -> x.setSize(0, 3));
    feed(0, "a9,b4,c3,d1");
    // a [9,9], b [4,4], d [1,4], the others [0,3]
    due(bits("a"), x -> x.first(0, 1, false));
    due(bits("abd"), x -> x.first(0, 2, false));
    due(ALL, x -> x.first(0, 3, false));
    fresh();
    with(x -> x.setSize(0, 2));
    feed(0, "a3,b3,c3");
    // b [3,3], c [3,6], the others [0,3]: no lower bound is greater than 3.
    due(ALL, x -> x.first(0, 1, false));
    due(bits("c"), x -> x.first(0, 1, true));
  }

  static void promise19_otherLetters() {
    says("fewer than many other letters have an upper bound");
    with(x -> x.setSize(0, 2));
    feed(0, "a3,b3,c5");
    // c [5,8]: its own upper bound is greater than its lower bound, but it is no other letter.
    due(bits("c"), x -> x.first(0, 1, true));
  }

  // ---- promise 20: above

  static void promise20_percent() {
    says("- `percent`: 1 to 99", "Returns the letters as bits; UNKNOWN; BAD_VALUE.");
    feed(0, "a98,b2");
    due(bits("ab"), x -> x.above(0, 1, true));
    due(0, x -> x.above(0, 99, true));
    due(bits("a"), x -> x.above(0, 97, true));
    with(x -> x.arrive(1, 'a', 1));
    due(bits("a"), x -> x.above(1, 99, true));
    for (int percent : new int[] {0, 100, -1, 101, MIN, MAX}) {
      still(BAD, x -> x.above(0, percent, true));
      still(BAD, x -> x.above(4, percent, false));
    }
    for (int s : NOT_TOLD) {
      still(UNKNOWN, x -> x.above(s, 1, true));
      still(UNKNOWN, x -> x.above(s, 0, false));
    }
  }

  static void promise20_greaterNotEqual() {
    says("certainly if lower bound * 100 is greater than percent * sum, possibly if upper bound * 100 is",
        "- `sure`: whether those are told that are so certainly, otherwise those that are so possibly");
    with(x -> x.setSize(0, 3));
    feed(0, "a50,b25,c10,d15");
    // sum 100: a [50,50], b [25,25], d [15,25], the others [0,10]
    due(0, x -> x.above(0, 50, true));
    due(0, x -> x.above(0, 50, false));
    due(bits("a"), x -> x.above(0, 49, true));
    due(bits("a"), x -> x.above(0, 25, true));
    due(bits("ab"), x -> x.above(0, 24, true));
    due(bits("abd"), x -> x.above(0, 24, false));
    due(bits("a"), x -> x.above(0, 25, false));
    due(bits("ab"), x -> x.above(0, 15, true));
    due(bits("abd"), x -> x.above(0, 14, true));
    due(bits("abd"), x -> x.above(0, 10, false));
    due(ALL, x -> x.above(0, 9, false));
    due(bits("abd"), x -> x.above(0, 9, true));
  }

  static void promise20_noSum() {
    says("Tells which letters are above a share of the sum");
    due(0, x -> x.above(0, 1, true));
    due(0, x -> x.above(0, 1, false));
    due(0, x -> x.above(0, 99, false));
    due(0, x -> x.above(4, 1, false));
  }

  static void promise20_greatestSum() {
    says("certainly if lower bound * 100 is greater than percent * sum");
    fill(0, 999999);
    due(bits("a"), x -> x.above(0, 99, true));
    with(x -> x.arrive(0, 'b', 1));
    due(bits("a"), x -> x.above(0, 99, true));
    due(bits("a"), x -> x.above(0, 1, false));
    // a has 990000 and b 10000: neither is greater than its own share.
    fresh();
    fill(0, 990000);
    for (int i = 0; i < 101; i++) {
      with(x -> x.arrive(0, 'b', 99));
    }
    due(10000, x -> x.arrive(0, 'b', 1));
    due(1000000, x -> x.summary(0, 3));
    due(0, x -> x.above(0, 99, true));
    due(bits("a"), x -> x.above(0, 98, true));
    due(bits("a"), x -> x.above(0, 1, true));
  }

  // ---- promise 21: rank

  static void promise21_ends() {
    says("Tells the rank of a letter from one side.", "- `greatest`: whether the greatest rank that it can have is told (1 more than the other letters whose upper bound is greater than its lower bound), "
        + "otherwise the least one (1 more than the other letters whose lower bound is greater than its upper bound)");
    due(1, x -> x.rank(0, 'a', true));
    due(1, x -> x.rank(0, 'z', false));
    with(x -> x.setSize(0, 3));
    feed(0, "a9,b4,c3,d1");
    // a [9,9], b [4,4], d [1,4], the others [0,3]
    due(1, x -> x.rank(0, 'a', true));
    due(1, x -> x.rank(0, 'a', false));
    due(2, x -> x.rank(0, 'b', true));
    due(2, x -> x.rank(0, 'b', false));
    due(26, x -> x.rank(0, 'd', true));
    due(2, x -> x.rank(0, 'd', false));
    due(26, x -> x.rank(0, 'c', true));
    due(3, x -> x.rank(0, 'c', false));
    due(26, x -> x.rank(0, 'z', true));
    due(3, x -> x.rank(0, 'z', false));
  }

  static void promise21_greaterNotEqual() {
    says("1 more than the other letters whose upper bound is greater than its lower bound");
    feed(0, "a2,b2,c2,d");
    due(1, x -> x.rank(0, 'b', true));
    due(1, x -> x.rank(0, 'b', false));
    due(4, x -> x.rank(0, 'd', true));
    due(4, x -> x.rank(0, 'd', false));
    due(5, x -> x.rank(0, 'e', true));
    due(5, x -> x.rank(0, 'e', false));
  }

  static void promise21_wrong() {
    says("Returns the rank; UNKNOWN (summary or letter).");
    feed(3, "q");
    flow("w");
    due(1, x -> x.rank(3, 'q', true));
    due(2, x -> x.rank(3, 'a', true));
    due(1, x -> x.rank(4, 'w', true));
    due(2, x -> x.rank(4, 'z', false));
    for (int s : NOT_TOLD) {
      still(UNKNOWN, x -> x.rank(s, 'a', true));
      still(UNKNOWN, x -> x.rank(s, '{', false));
    }
    for (char c : NO_LETTER) {
      still(UNKNOWN, x -> x.rank(0, c, true));
      still(UNKNOWN, x -> x.rank(4, c, false));
    }
  }

  // ---- promise 22: alike

  static void promise22_ends() {
    says("Compares two summaries.", "Returns how many of the 26 letters can have come as often at both (the ranges from lower to upper bound meet); UNKNOWN.");
    due(26, x -> x.alike(0, 1));
    due(26, x -> x.alike(0, 0));
    due(26, x -> x.alike(4, 4));
    due(26, x -> x.alike(3, 4));
    with(x -> x.setSize(0, 10));
    with(x -> x.setSize(1, 10));
    feed(0, "a,b,c,d,e,f,g,h,i,j");
    feed(1, "k,l,m,n,o,p,q,r,s,t");
    due(6, x -> x.alike(0, 1));
    due(6, x -> x.alike(1, 0));
    due(26, x -> x.alike(0, 0));
  }

  static void promise22_rangesThatTouch() {
    says("(the ranges from lower to upper bound meet)");
    with(x -> x.setSize(0, 2));
    feed(0, "a5,b2,c3");
    // 0: a [5,5], c [3,5], the others [0,2]
    feed(1, "c2,b2,a5");
    // 1: c [2,2], b [2,2], a [5,5]: c is one apart
    due(25, x -> x.alike(0, 1));
    due(25, x -> x.alike(1, 0));
    with(x -> x.arrive(1, 'c', 1));
    due(26, x -> x.alike(0, 1));
    with(x -> x.arrive(1, 'c', 2));
    due(26, x -> x.alike(0, 1));
    with(x -> x.arrive(1, 'c', 1));
    due(25, x -> x.alike(0, 1));
    with(x -> x.arrive(1, 'b', 1));
    due(24, x -> x.alike(1, 0));
  }

  static void promise22_wrong() {
    says("- `other`: 0 to 4");
    flow("a");
    due(25, x -> x.alike(0, 4));
    due(25, x -> x.alike(4, 0));
    for (int s : NOT_TOLD) {
      still(UNKNOWN, x -> x.alike(s, 0));
      still(UNKNOWN, x -> x.alike(0, s));
      still(UNKNOWN, x -> x.alike(4, s));
      still(UNKNOWN, x -> x.alike(s, 4));
      still(UNKNOWN, x -> x.alike(s, s));
    }
  }

  // ---- promise 23: wouldEvict

  static void promise23_none() {
    says("Returns the code of the letter whose counter would be evicted; UNKNOWN (summary or letter); NONE if none would be.");
    still(NONE, x -> x.wouldEvict(0, 'a'));
    feed(0, "b,c,d");
    still(NONE, x -> x.wouldEvict(0, 'e'));
    feed(0, "a");
    still('b', x -> x.wouldEvict(0, 'e'));
    still('b', x -> x.wouldEvict(0, 'z'));
    for (char c = 'a'; c <= 'd'; c++) {
      char letter = c;
      still(NONE, x -> x.wouldEvict(0, letter));
    }
    with(x -> x.setSize(0, 5));
    still(NONE, x -> x.wouldEvict(0, 'e'));
    still(NONE, x -> x.wouldEvict(3, 'e'));
  }

  static void promise23_whichOne() {
    says("Tells what would be evicted if a letter arrived with the weight 1.", "The counter that is evicted is the one with the least count");
    feed(0, "d2,c,b,a,c");
    still('b', x -> x.wouldEvict(0, 'z'));
    with(x -> x.arrive(0, 'b', 1));
    still('a', x -> x.wouldEvict(0, 'z'));
    with(x -> x.arrive(0, 'a', 1));
    still('d', x -> x.wouldEvict(0, 'z'));
    with(x -> x.merge(0, 1));
    still('a', x -> x.wouldEvict(0, 'z'));
    with(x -> x.arrive(0, 'z', 1));
    due('a', x -> x.event(0, 2));
  }

  static void promise23_wrong() {
    says("`int wouldEvict(int summary, char letter)`: Tells what would be evicted");
    feed(3, "a,b,c,d");
    flow("a,b,c,d");
    due('a', x -> x.wouldEvict(3, 'e'));
    for (int s : NO_SUMMARY) {
      still(UNKNOWN, x -> x.wouldEvict(s, 'e'));
      still(UNKNOWN, x -> x.wouldEvict(s, '{'));
    }
    for (char c : NO_LETTER) {
      still(UNKNOWN, x -> x.wouldEvict(3, c));
    }
  }

  // ---- promise 24: block

  static void promise24_blocks() {
    says("- `block`: a block of the window, from the oldest one that is kept, from 0", "Returns the number; UNKNOWN; BAD_VALUE.");
    for (int begun = 1; begun <= 6; begun++) {
      int kept = Math.min(begun, 4);
      for (int i = 0; i < 8; i++) {
        int weight = begun;
        with(x -> x.flow('a', weight));
      }
      for (int i = 0; i < kept; i++) {
        int block = i;
        int weight = begun - kept + 1 + i;
        due(weight * 8, x -> x.block(block, 1));
        due(8, x -> x.block(block, 0));
      }
      still(UNKNOWN, x -> x.block(kept, 0));
      still(UNKNOWN, x -> x.block(kept, 4));
      still(UNKNOWN, x -> x.block(-1, 0));
      still(UNKNOWN, x -> x.block(4, 0));
    }
    still(UNKNOWN, x -> x.block(MIN, 0));
    still(UNKNOWN, x -> x.block(MAX, 0));
    still(UNKNOWN, x -> x.block(5, -1));
  }

  static void promise24_what() {
    says("- `what`: 0 for its arrivals, 1 for its sum, 2 for its counters, 3 for its floor");
    flow("a5,b2,c2,d3,e,a,a,a,z9,y3,z");
    int[][] wanted = {{8, 16, 4, 2}, {3, 13, 2, 0}};
    for (int i = 0; i < 2; i++) {
      int block = i;
      for (int what = 0; what <= 3; what++) {
        int w = what;
        due(wanted[i][w], x -> x.block(block, w));
      }
      for (int what : new int[] {-1, 4, MIN, MAX}) {
        still(BAD, x -> x.block(block, what));
      }
    }
  }

  // ---- promise 25: event

  static void promise25_back() {
    says("Looks back at the log.", "- `back`: 0 for the latest event, 1 for the one before, and so on", "Returns the number; BAD_VALUE (back is negative, or what); NONE if there is none.");
    still(NONE, x -> x.event(0, 0));
    with(x -> x.merge(1, 2));
    due(1, x -> x.event(0, 1));
    still(NONE, x -> x.event(1, 0));
    with(x -> x.merge(2, 1));
    due(2, x -> x.event(0, 1));
    due(1, x -> x.event(1, 1));
    still(NONE, x -> x.event(2, 0));
    still(NONE, x -> x.event(MAX, 0));
    still(BAD, x -> x.event(-1, 0));
    still(BAD, x -> x.event(MIN, 0));
    for (int what : new int[] {-1, 4, MIN, MAX}) {
      still(BAD, x -> x.event(0, what));
      still(BAD, x -> x.event(2, what));
    }
    still(BAD, x -> x.event(-1, 4));
  }

  static void promise25_latestEight() {
    says("The latest 8 events are known.");
    with(x -> x.setSize(0, 2));
    feed(0, "a,b");
    for (int i = 1; i <= 12; i++) {
      char letter = (char) ('b' + i);
      int known = Math.min(i, 8);
      with(x -> x.arrive(0, letter, 1));
      due(i + 2, x -> x.event(0, 3));
      char last = (char) ('a' + i - known);
      due(last, x -> x.event(known - 1, 2));
      due(NONE, x -> x.event(known, 2));
      due(NONE, x -> x.event(8, 0));
      due(i, x -> x.count(1));
    }
  }

  static void promise25_evictions() {
    says("The kinds of events are: 0 a counter is evicted (by an arrival, at the time of the arrival; also as a size becomes smaller)",
        "- `what`: 0 for its kind, 1 for its summary (4 for a block of the window; of 1 the first one), 2 for the code of the letter (0)",
        ", 3 for its time");
    with(x -> x.setSize(3, 2));
    feed(3, "y,z,a");
    int[] byArrival = {0, 3, 'y', 3};
    feed(0, "a,b,c9,d9");
    with(x -> x.arrive(1, 'q', 1));
    due(2, x -> x.setSize(0, 2));
    int[] bySizeLast = {0, 0, 'b', 8};
    int[] bySizeFirst = {0, 0, 'a', 8};
    flow("a,b,c,d,z");
    int[] byFlow = {0, 4, 'a', 13};
    int[][] wanted = {byFlow, bySizeLast, bySizeFirst, byArrival};
    for (int i = 0; i < 4; i++) {
      int back = i;
      for (int what = 0; what <= 3; what++) {
        int w = what;
        due(wanted[back][w], x -> x.event(back, w));
      }
    }
    due(NONE, x -> x.event(4, 0));
  }

  static void promise25_merges() {
    says("1 summaries are merged", "of 1 the first one", "the counters that are left out (1)");
    feed(0, "a,b,c");
    feed(1, "d,e,f");
    with(x -> x.merge(3, 1));
    with(x -> x.merge(3, 0));
    int[][] wanted = {{1, 3, 2, 6}, {1, 3, 0, 6}};
    for (int i = 0; i < 2; i++) {
      int back = i;
      for (int what = 0; what <= 3; what++) {
        int w = what;
        due(wanted[back][w], x -> x.event(back, w));
      }
    }
    due(NONE, x -> x.event(2, 0));
    text("merge 0 3");
    with(x -> x.perform());
    due(1, x -> x.event(0, 0));
    due(0, x -> x.event(0, 1));
  }

  static void promise25_blocks() {
    says("2 a block of the window begins (at the time ahead of the arrival by which it begins)", "how many blocks have begun so far (2)");
    flow("a,a,a,a,a,a,a,a");
    still(NONE, x -> x.event(0, 0));
    with(x -> x.arrive(0, 'q', 1));
    with(x -> x.flow('b', 1));
    int[] wanted = {2, 4, 2, 9};
    for (int what = 0; what <= 3; what++) {
      int w = what;
      due(wanted[w], x -> x.event(0, w));
    }
    due(NONE, x -> x.event(1, 0));
    flow("c,d,e,f,g,h,i,j,k,l");
    // b c d e: f goes in b's place, g in c's, h in d's, i in e's; the third block begins with j.
    due(2, x -> x.event(0, 0));
    due(3, x -> x.event(0, 2));
    due(17, x -> x.event(0, 3));
    due(3, x -> x.count(3));
    due(0, x -> x.event(1, 0));
    due('e', x -> x.event(1, 2));
    due(17, x -> x.event(1, 3));
  }

  static void promise25_blockAheadOfEviction() {
    says("2 a block of the window begins (at the time ahead of the arrival by which it begins)");
    // Four kept blocks, and a fifth: dropping is no event.
    flow("a,a,a,a,a,a,a,a,b,b,b,b,b,b,b,b");
    flow("c,c,c,c,c,c,c,c,d,d,d,d,d,d,d,d");
    flow("e,f,g,h,i");
    due(0, x -> x.event(0, 0));
    due('e', x -> x.event(0, 2));
    due(37, x -> x.event(0, 3));
    due(2, x -> x.event(1, 0));
    due(5, x -> x.event(1, 2));
    due(32, x -> x.event(1, 3));
    due(4, x -> x.event(2, 2));
    due(3, x -> x.event(3, 2));
    due(2, x -> x.event(4, 2));
    due(NONE, x -> x.event(5, 0));
  }

  static void promise25_whatIsNoEvent() {
    says("The kinds of events are: 0 a counter is evicted", "What happens as the whole of the window is looked at is no event.");
    with(x -> x.setSize(0, 9));
    feed(0, "a,b,c,d,e");
    with(x -> x.copy(1, 0));
    with(x -> x.clear(0));
    with(x -> x.keep());
    with(x -> x.restore());
    with(x -> x.undo());
    with(x -> x.setSize(1, 5));
    flow("a,b,c,d");
    with(x -> x.summary(4, 1));
    still(NONE, x -> x.event(0, 0));
  }

  // ---- promise 26: count

  static void promise26_what() {
    says("- `what`: 0 for the time, 1 for evictions so far", "2 for merges so far", "6 for the states in the history, 7 for the length of the text",
        "Returns the number; BAD_VALUE.");
    busy();
    // Evicted: b by c in 0, g by h in 1, four in the first block, y by z in 0.
    int[] wanted = {8 + 9 + 3, 1 + 1 + 4 + 1, 1, 2, 2, 1, 4, 4};
    for (int what = 0; what <= 7; what++) {
      int w = what;
      still(wanted[w], x -> x.count(w));
    }
    for (int what : new int[] {-1, 8, 9, MIN, MAX}) {
      still(BAD, x -> x.count(what));
    }
  }

  static void promise26_evictions() {
    says("1 for evictions so far (those of blocks of the window, too; not what merging left out)");
    with(x -> x.setSize(0, 2));
    feed(0, "a,b");
    due(0, x -> x.count(1));
    with(x -> x.arrive(0, 'c', 1));
    due(1, x -> x.count(1));
    flow("a,b,c,d,e");
    due(2, x -> x.count(1));
    with(x -> x.merge(0, 1));
    feed(1, "p,q,r,s");
    with(x -> x.merge(0, 1));
    due(2, x -> x.count(1));
    feed(1, "p,q,r,s");
    with(x -> x.setSize(1, 2));
    due(4, x -> x.count(1));
    with(x -> x.undo());
    due(2, x -> x.count(1));
  }

  static void promise26_blocks() {
    says("3 for blocks that have begun so far (the first one counted), 4 for blocks that are kept, 5 for arrivals in the present block");
    for (int i = 0; i <= 48; i++) {
      int begun = i == 0 ? 1 : (i - 1) / 8 + 1;
      due(begun, x -> x.count(3));
      due(Math.min(begun, 4), x -> x.count(4));
      due(i - (begun - 1) * 8, x -> x.count(5));
      with(x -> x.flow('a', 1));
    }
  }

  // ---- running

  private static void readDocument() {
    Path path = Path.of("../shared/DOC.md");
    try {
      if (Files.exists(path)) {
        String text = Files.readString(path, StandardCharsets.UTF_8);
        document = plain(text);
        lines = text.substring(text.indexOf("## Terms"), text.indexOf("## Not promised")).lines().toList();
      }
    } catch (java.io.IOException e) {
      System.out.println("the document can't be read: the quotes are not compared");
    }
  }

  /** What each sentence asks is quoted by a test, in part at least; FloorTopsFace has the rest. */
  private static void eachSentence() {
    for (String line : lines) {
      boolean heading = line.startsWith("#") || line.equals(line.toUpperCase()) || line.equals("The constants:");
      if (!heading && !line.startsWith("Ahead of the calls")) {
        for (String sentence : plain(line.replaceFirst("^`[^`]+`: ", "")).split("(?<=\\.) ")) {
          if (quotes.stream().noneMatch(quote -> sentence.contains(quote) || quote.contains(sentence))) {
            fail("no test quotes: " + sentence);
          }
        }
      }
    }
  }

  public static void main(String[] args) throws Exception {
    readDocument();
    boolean[] promises = new boolean[27];
    int tests = 0;
    Method[] methods = FloorTopsEdges.class.getDeclaredMethods();
    Arrays.sort(methods, (a, b) -> a.getName().compareTo(b.getName()));
    for (Method method : methods) {
      if (method.getName().startsWith("promise")) {
        test = method.getName();
        quoted = false;
        promises[Integer.parseInt(test.substring(7, 9))] = true;
        method.invoke(null);
        tests++;
        if (!quoted) {
          fail("quotes no sentence");
        }
      }
    }
    test = "all tests";
    eachSentence();
    for (int i = 1; i <= 26; i++) {
      if (!promises[i]) {
        fail("promise " + i + " has no test");
      }
    }
    System.out.println(wrong == 0 ? tests + " tests of boundary cases hold" : wrong + " answers are not as due");
    if (wrong != 0) {
      System.exit(1);
    }
  }
}
