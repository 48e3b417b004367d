/** For each promise: ordinary inputs, the edges that the document names, and wrong inputs. */
public final class FloorTopsPromises {
  private static final int UNKNOWN = -1;
  private static final int BAD = -2;
  private static final int FULL = -3;
  private static final int NONE = -5;
  private static final int ALL = (1 << 26) - 1;
  private static final int[] WRONG_SUMMARIES = {-1, 4, 5, Integer.MIN_VALUE, Integer.MAX_VALUE};
  private static final int[] WRONG_TOLD = {-1, 5, 6, Integer.MIN_VALUE, Integer.MAX_VALUE};
  private static final char[] WRONG_LETTERS = {'`', '{', 'A', 'Z', '0', ' ', (char) 0, (char) 233, (char) 0xffff};

  private static int promise = 0;
  private static int row = 0;
  private static int wrong = 0;

  private static void promise(int number) {
    promise = number;
    row = 0;
  }

  private static void due(int got, int want) {
    row++;
    if (got != want) {
      wrong++;
      System.out.println("promise " + promise + ", row " + row + ", line "
          + Thread.currentThread().getStackTrace()[2].getLineNumber()
          + ": answered " + got + ", due is " + want);
    }
  }

  private static void type(FloorTops x, String text) {
    x.clearText();
    for (int i = 0; i < text.length(); i++) {
      x.type(text.charAt(i));
    }
  }

  private static int perform(FloorTops x, String text) {
    type(x, text);
    return x.perform();
  }

  private static int feed(FloorTops x, int summary, String text) {
    type(x, text);
    return x.feed(summary);
  }

  private static int flowAll(FloorTops x, String text) {
    type(x, text);
    return x.flowAll();
  }

  private static int bits(String letters) {
    int bits = 0;
    for (int i = 0; i < letters.length(); i++) {
      bits |= 1 << letters.charAt(i) - 'a';
    }
    return bits;
  }

  /** Makes the sum of the summary 0 what is wanted, with the letter a alone. */
  private static void fillTo(FloorTops x, int sum) {
    int doubled = sum;
    int steps = 0;
    while (doubled > 99) {
      doubled /= 2;
      steps++;
    }
    x.arrive(0, 'a', doubled);
    for (int i = steps - 1; i >= 0; i--) {
      x.copy(1, 0);
      x.merge(0, 1);
      if ((sum >> i & 1) != 0) {
        x.arrive(0, 'a', 1);
      }
    }
  }

  private static void newObject() {
    promise(1);
    FloorTops x = new FloorTops();
    for (int s = 0; s <= 4; s++) {
      due(x.summary(s, 0), 4);
      for (int what = 1; what <= 6; what++) {
        due(x.summary(s, what), 0);
      }
      for (char c = 'a'; c <= 'z'; c++) {
        due(x.bound(s, c, 0), 0);
        due(x.bound(s, c, 1), 0);
        due(x.bound(s, c, 2), 0);
        due(x.bound(s, c, 3), NONE);
        due(x.bound(s, c, 4), NONE);
      }
      due(x.top(s, 0, 0), NONE);
      due(x.first(s, 1, true), ALL);
      due(x.first(s, 1, false), ALL);
      due(x.above(s, 1, false), 0);
      due(x.rank(s, 'q', true), 1);
    }
    for (int what = 0; what <= 3; what++) {
      due(x.block(0, what), 0);
      due(x.event(0, what), NONE);
    }
    due(x.block(1, 0), UNKNOWN);
    int[] counts = {0, 0, 0, 1, 1, 0, 0, 0};
    for (int what = 0; what < counts.length; what++) {
      due(x.count(what), counts[what]);
    }
    due(x.undo(), NONE);
    due(x.restore(), NONE);
    due(x.clearText(), 0);
    FloorTops y = new FloorTops();
    y.arrive(0, 'a', 1);
    due(x.summary(0, 3), 0);
  }

  private static void arrive() {
    promise(2);
    FloorTops x = new FloorTops();
    due(x.arrive(0, 'a', 1), 1);
    due(x.arrive(0, 'z', 99), 99);
    due(x.arrive(0, 'a', 2), 3);
    due(x.summary(0, 3), 102);
    due(x.arrive(3, 'a', 7), 7);
    due(x.count(0), 4);
    due(x.count(6), 4);
    for (int s : WRONG_SUMMARIES) {
      due(x.arrive(s, 'a', 1), UNKNOWN);
      due(x.arrive(s, 'a', 0), UNKNOWN);
    }
    for (char c : WRONG_LETTERS) {
      due(x.arrive(0, c, 1), UNKNOWN);
      due(x.arrive(0, c, 100), UNKNOWN);
    }
    due(x.arrive(0, 'a', 0), BAD);
    due(x.arrive(0, 'a', 100), BAD);
    due(x.arrive(0, 'a', -1), BAD);
    due(x.arrive(0, 'a', Integer.MIN_VALUE), BAD);
    due(x.arrive(0, 'a', Integer.MAX_VALUE), BAD);
    due(x.count(0), 4);
    due(x.summary(0, 3), 102);
    evictedByArrivals();
    arriveAtTheBrim();
  }

  private static void evictedByArrivals() {
    FloorTops x = new FloorTops();
    x.setSize(0, 3);
    x.arrive(0, 'c', 2);
    x.arrive(0, 'b', 1);
    x.arrive(0, 'b', 1);
    x.arrive(0, 'a', 5);
    // c and b have the count 2; the time of c is earlier, though c came first alone.
    due(x.arrive(0, 'd', 1), 3);
    due(x.summary(0, 6), bits("abd"));
    due(x.summary(0, 2), 2);
    due(x.bound(0, 'd', 1), 1);
    due(x.bound(0, 'd', 3), 2);
    // b (2) goes: the floor stays 2.
    due(x.arrive(0, 'c', 1), 3);
    due(x.summary(0, 2), 2);
    due(x.bound(0, 'c', 2), 3);
    // d (3, time 5) goes ahead of c (3, time 6).
    due(x.arrive(0, 'e', 9), 12);
    due(x.summary(0, 6), bits("ace"));
    due(x.summary(0, 2), 3);
    due(x.event(0, 2), 'd');
    // A later arrival makes the time later: x is older than y, but came again.
    FloorTops y = new FloorTops();
    y.setSize(1, 2);
    y.arrive(1, 'x', 1);
    y.arrive(1, 'y', 2);
    y.arrive(1, 'x', 1);
    due(y.arrive(1, 'z', 1), 3);
    due(y.summary(1, 6), bits("xz"));
    // Of one count and one time (merging made it), the first letter goes.
    FloorTops z = new FloorTops();
    z.setSize(0, 2);
    z.arrive(0, 'q', 4);
    z.arrive(0, 'p', 4);
    z.merge(0, 1);
    due(z.arrive(0, 'a', 1), 5);
    due(z.event(0, 2), 'p');
    // With room again, a letter still gets the floor as its slack.
    z.setSize(0, 3);
    due(z.arrive(0, 'b', 2), 6);
    due(z.bound(0, 'b', 3), 4);
    due(z.count(1), 1);
    // The floor stays where it is if the count that goes is less.
    FloorTops f = new FloorTops();
    f.setSize(0, 2);
    f.setSize(1, 2);
    f.arrive(0, 'a', 9);
    f.arrive(0, 'b', 8);
    f.arrive(0, 'c', 1);
    due(f.summary(0, 2), 8);
    due(f.bound(0, 'c', 0), 9);
    due(f.arrive(0, 'd', 1), 10);
    due(f.event(0, 2), 'a');
    due(f.summary(0, 2), 9);
  }

  private static void arriveAtTheBrim() {
    FloorTops x = new FloorTops();
    fillTo(x, 999999);
    due(x.summary(0, 3), 999999);
    due(x.arrive(0, 'b', 2), FULL);
    due(x.arrive(0, 'b', 100), BAD);
    due(x.summary(0, 3), 999999);
    due(x.arrive(0, 'b', 1), 1);
    due(x.summary(0, 3), 1000000);
    due(x.arrive(0, 'b', 1), FULL);
    due(x.arrive(1, 'b', 1), 1);
    due(x.above(0, 99, true), bits("a"));
    due(x.above(0, 1, false), bits("a"));
  }

  private static void feed() {
    promise(3);
    FloorTops x = new FloorTops();
    due(feed(x, 0, "a,b2,c34,a"), 4);
    due(x.summary(0, 3), 38);
    due(x.bound(0, 'a', 0), 2);
    due(x.bound(0, 'c', 0), 34);
    due(x.bound(0, 'a', 4), 4);
    due(x.count(0), 4);
    due(x.count(6), 1);
    due(x.count(7), 10);
    due(x.feed(1), 4);
    due(x.summary(1, 3), 38);
    due(x.undo(), 1);
    due(x.undo(), 0);
    due(x.summary(0, 3), 0);
    due(x.count(7), 10);
    due(feed(x, 2, "z99"), 1);
    due(x.bound(2, 'z', 0), 99);
    due(feed(x, 0, "a1,b2,c3,d4,e5,f6,g7,h8,i9,j10,k11,l12,m13,n14,o15,p16"), 16);
    due(x.count(1), 12);
    due(feed(x, 1, "a,b,c,d,e,f,g,h,i,j,k,l,m,n,o,p,q,r,s,t,u,v,w,x,y,z,a,b,c,d5"), 30);
    due(x.summary(1, 3), 34);
    due(x.summary(1, 5), ALL);
    String[] faulty = {"", ",", "a,", "A", "a0", "a01", "a123", "ab", "a,,b", "a ,b", "a, b", " a", "a1b",
        "a99,b1,c00", "1", "a-1", "a,b,\u0000", "\u0000", "a\u00e9", "a\u0132", "a1,b2;"};
    int[] faults = {0, 0, 2, 0, 1, 1, 3, 1, 2, 1, 2, 0, 2, 8, 0, 1, 4, 0, 1, 1, 5};
    for (int i = 0; i < faulty.length; i++) {
      due(feed(x, 3, faulty[i]), -100 - faults[i]);
      due(flowAll(x, faulty[i]), -100 - faults[i]);
    }
    due(feed(x, 3, "a,a,a,a,a,a,a,a,a,a,a,a,a,a,a,a,a,a,a,a,a,a,a,a,a,a,a,a,a,a,"), -160);
    due(x.summary(3, 3), 0);
    due(x.count(5), 0);
    for (int s : WRONG_SUMMARIES) {
      due(feed(x, s, "a"), UNKNOWN);
      due(feed(x, s, "?"), UNKNOWN);
    }
    fillTo(x = new FloorTops(), 999990);
    due(feed(x, 0, "a5,b5,c1"), FULL);
    due(x.summary(0, 3), 999990);
    due(feed(x, 0, "a5,b5,?"), -106);
    due(feed(x, 0, "a5,b5"), 2);
    due(feed(x, 0, "a"), FULL);
    due(feed(x, 1, "a"), 1);
  }

  private static void flow() {
    promise(4);
    FloorTops x = new FloorTops();
    for (int i = 1; i <= 8; i++) {
      due(x.flow('a', i), i);
    }
    due(x.count(4), 1);
    due(x.count(6), 4);
    due(x.flow('b', 99), 1);
    due(x.count(3), 2);
    due(x.count(4), 2);
    due(x.block(0, 1), 36);
    due(x.block(1, 1), 99);
    due(x.bound(4, 'b', 0), 99);
    due(x.undo(), 3);
    due(x.count(3), 1);
    due(x.count(5), 8);
    due(x.event(0, 0), NONE);
    due(x.flow('b', 1), 1);
    for (char c : WRONG_LETTERS) {
      due(x.flow(c, 1), UNKNOWN);
      due(x.flow(c, 0), UNKNOWN);
    }
    due(x.flow('a', 0), BAD);
    due(x.flow('a', 100), BAD);
    due(x.flow('a', -1), BAD);
    due(x.flow('a', Integer.MIN_VALUE), BAD);
    due(x.count(5), 1);
    due(x.count(0), 9);
    // Summaries and the window know nothing of each other.
    due(x.summary(0, 3), 0);
    x.arrive(0, 'c', 3);
    due(x.bound(4, 'c', 2), 0);
    // A block has the size 4, and starts empty: the floor of the one before stays there.
    FloorTops y = new FloorTops();
    flowAll(y, "a,b,c,d,e,f,g,h");
    due(y.block(0, 3), 1);
    due(y.flow('z', 1), 1);
    due(y.block(1, 3), 0);
    due(y.block(1, 2), 1);
    // The oldest block is dropped as the fifth begins, and its place is empty again.
    for (int i = 0; i < 23; i++) {
      y.flow('y', 1);
    }
    due(y.count(4), 4);
    due(y.bound(4, 'e', 2), 1);
    due(y.flow('x', 1), 1);
    due(y.count(4), 4);
    due(y.count(3), 5);
    due(y.bound(4, 'e', 2), 0);
    due(y.block(3, 1), 1);
    due(y.block(3, 2), 1);
    due(y.block(3, 3), 0);
    due(y.summary(4, 3), 25);
  }

  private static void flowAll() {
    promise(5);
    FloorTops x = new FloorTops();
    due(flowAll(x, "a,b2,a3"), 3);
    due(x.count(5), 3);
    due(x.block(0, 1), 6);
    due(x.count(6), 1);
    due(x.count(7), 7);
    due(x.flowAll(), 3);
    due(x.flowAll(), 3);
    due(x.count(5), 1);
    due(x.count(3), 2);
    due(x.event(0, 0), 2);
    due(x.event(0, 3), 8);
    due(x.undo(), 2);
    due(x.count(5), 6);
    due(flowAll(x, "a,a,a,a,a,a,a,a,a,a,a,a,a,a,a,a,a,a,a,a,a,a,a,a,a,a,a,a,a,a"), 30);
    due(x.count(3), 5);
    due(x.count(4), 4);
    due(x.count(5), 4);
    due(x.summary(4, 3), 28);
    due(flowAll(x, "b,"), -102);
    due(flowAll(x, ""), -100);
    due(flowAll(x, "merge 0 1"), -101);
    due(x.count(6), 3);
  }

  private static void merge() {
    promise(6);
    FloorTops x = new FloorTops();
    feed(x, 0, "a5,b3");
    feed(x, 1, "b4,c2");
    due(x.merge(0, 1), 0);
    due(x.summary(0, 1), 3);
    due(x.bound(0, 'b', 0), 7);
    due(x.bound(0, 'b', 2), 7);
    due(x.bound(0, 'a', 4), 4);
    due(x.bound(0, 'c', 4), 4);
    due(x.count(0), 4);
    due(x.summary(0, 3), 14);
    due(x.summary(1, 3), 0);
    due(x.summary(1, 1), 0);
    due(x.summary(1, 5), 0);
    due(x.summary(1, 0), 4);
    due(x.count(2), 1);
    due(x.count(1), 0);
    due(x.undo(), 2);
    due(x.summary(1, 3), 6);
    due(x.bound(0, 'b', 0), 3);
    mergedWithFloors();
    leftOutOfOneCount();
    // Merging with an empty one is a merge, too: the times become the present one.
    FloorTops y = new FloorTops();
    feed(y, 2, "a,b");
    due(y.merge(2, 3), 0);
    due(y.bound(2, 'a', 4), 2);
    due(y.merge(0, 1), 0);
    due(y.count(2), 2);
    due(y.count(6), 3);
    for (int s : WRONG_SUMMARIES) {
      due(y.merge(s, 0), UNKNOWN);
      due(y.merge(0, s), UNKNOWN);
      due(y.merge(s, s), UNKNOWN);
    }
    due(y.merge(0, 0), BAD);
    due(y.merge(3, 3), BAD);
    due(y.count(2), 2);
    fillTo(y = new FloorTops(), 999991);
    feed(y, 1, "b9");
    feed(y, 2, "b9,c");
    due(y.merge(0, 2), FULL);
    due(y.merge(2, 0), FULL);
    due(y.merge(0, 0), BAD);
    due(y.summary(2, 3), 10);
    due(y.merge(0, 1), 0);
    due(y.summary(0, 3), 1000000);
    due(y.merge(0, 1), 0);
    due(y.merge(1, 0), 0);
    due(y.merge(1, 2), FULL);
  }

  private static void mergedWithFloors() {
    FloorTops x = new FloorTops();
    x.setSize(0, 2);
    x.setSize(1, 3);
    feed(x, 0, "a5,b2,c1");
    // 0: a 5, c 3 (slack 2), floor 2
    feed(x, 1, "d1,e4,c6,f9");
    // 1: e 4, c 6, f 10 (slack 1), floor 1
    due(x.merge(0, 1), 2);
    // a 6/1, c 9/2, e 6/2, f 12/3; floor 3; e is left out ahead of a, then a.
    due(x.summary(0, 6), bits("cf"));
    due(x.summary(0, 2), 6);
    due(x.bound(0, 'c', 0), 9);
    due(x.bound(0, 'c', 3), 2);
    due(x.bound(0, 'f', 0), 12);
    due(x.bound(0, 'f', 3), 3);
    due(x.bound(0, 'e', 2), 4);
    due(x.summary(0, 3), 28);
    due(x.summary(0, 0), 2);
    due(x.summary(1, 0), 3);
    due(x.summary(1, 2), 0);
    due(x.event(0, 2), 2);
    due(x.count(1), 2);
    // The floor stays the sum of both if nothing greater is left out.
    FloorTops y = new FloorTops();
    y.setSize(0, 2);
    y.setSize(1, 2);
    feed(y, 0, "a,b,c");
    feed(y, 1, "a,b,c");
    y.setSize(0, 10);
    due(y.merge(0, 1), 0);
    due(y.summary(0, 2), 2);
    due(y.bound(0, 'b', 0), 2);
    due(y.bound(0, 'b', 1), 2);
    due(y.bound(0, 'c', 0), 4);
    due(y.bound(0, 'c', 1), 2);
  }

  private static void leftOutOfOneCount() {
    FloorTops x = new FloorTops();
    feed(x, 0, "d3,a3,c3");
    feed(x, 1, "b3,z3,y4");
    due(x.merge(0, 1), 2);
    due(x.summary(0, 6), bits("abcy"));
    due(x.summary(0, 2), 3);
    FloorTops y = new FloorTops();
    y.setSize(1, 10);
    feed(y, 0, "a,b2,c3,d4");
    feed(y, 1, "e5,f6,g7,h8,i9,j10,k11,l12,m13,n14");
    due(y.merge(1, 0), 4);
    due(y.summary(1, 2), 4);
    due(y.undo(), 3);
    due(y.merge(0, 1), 10);
    due(y.summary(0, 6), bits("klmn"));
    due(y.summary(0, 2), 10);
    due(y.summary(1, 0), 10);
  }

  private static void copy() {
    promise(7);
    FloorTops x = new FloorTops();
    x.setSize(0, 3);
    feed(x, 0, "a5,b2,c1,d9");
    due(x.copy(2, 0), 3);
    for (int what = 0; what <= 6; what++) {
      due(x.summary(2, what), x.summary(0, what));
    }
    for (char c = 'a'; c <= 'z'; c++) {
      for (int what = 0; what <= 4; what++) {
        due(x.bound(2, c, what), x.bound(0, c, what));
      }
    }
    due(x.summary(2, 0), 3);
    due(x.bound(2, 'd', 4), 4);
    x.arrive(2, 'd', 1);
    due(x.bound(0, 'd', 0), 10);
    x.arrive(0, 'a', 1);
    due(x.bound(2, 'a', 0), 5);
    due(x.copy(0, 1), 0);
    due(x.summary(0, 0), 4);
    due(x.summary(0, 5), 0);
    due(x.copy(0, 1), 0);
    due(x.count(6), 4);
    due(x.event(0, 0), 0);
    due(x.count(2), 0);
    for (int s : WRONG_SUMMARIES) {
      due(x.copy(s, 0), UNKNOWN);
      due(x.copy(0, s), UNKNOWN);
      due(x.copy(s, s), UNKNOWN);
    }
    due(x.copy(1, 1), BAD);
  }

  private static void setSize() {
    promise(8);
    FloorTops x = new FloorTops();
    due(x.setSize(0, 10), 0);
    feed(x, 0, "a5,b2,c1,d9,e2");
    due(x.setSize(0, 2), 3);
    due(x.summary(0, 6), bits("ad"));
    due(x.summary(0, 2), 2);
    due(x.count(1), 3);
    due(x.event(0, 2), 'e');
    due(x.event(1, 2), 'b');
    due(x.event(2, 2), 'c');
    due(x.event(0, 3), 5);
    due(x.event(0, 1), 0);
    due(x.bound(0, 'e', 2), 2);
    due(x.setSize(0, 2), NONE);
    due(x.setSize(0, 3), 0);
    due(x.summary(0, 0), 3);
    due(x.count(6), 4);
    due(x.undo(), 3);
    due(x.undo(), 2);
    due(x.summary(0, 6), bits("abcde"));
    due(x.event(0, 0), NONE);
    // Of one count and one time, the first letter goes.
    x.copy(1, 0);
    x.clear(0);
    feed(x, 0, "f3,e3,g3,h4");
    x.merge(0, 2);
    due(x.setSize(0, 3), 1);
    due(x.event(0, 2), 'e');
    due(x.setSize(0, 4), 0);
    due(x.setSize(0, 2), 1);
    due(x.event(0, 2), 'f');
    for (int s : WRONG_SUMMARIES) {
      due(x.setSize(s, 4), UNKNOWN);
      due(x.setSize(s, 1), UNKNOWN);
    }
    due(x.setSize(0, 1), BAD);
    due(x.setSize(0, 11), BAD);
    due(x.setSize(0, 0), BAD);
    due(x.setSize(0, -1), BAD);
    due(x.setSize(0, Integer.MIN_VALUE), BAD);
    due(x.setSize(0, Integer.MAX_VALUE), BAD);
    due(x.setSize(3, 4), NONE);
  }

  private static void clear() {
    promise(9);
    FloorTops x = new FloorTops();
    due(x.clear(0), NONE);
    x.setSize(0, 2);
    feed(x, 0, "a5,b2,c1");
    due(x.clear(0), 8);
    due(x.summary(0, 0), 2);
    for (int what = 1; what <= 6; what++) {
      due(x.summary(0, what), 0);
    }
    due(x.bound(0, 'b', 0), 0);
    due(x.bound(0, 'b', 2), 0);
    due(x.count(0), 3);
    due(x.count(1), 1);
    due(x.clear(0), NONE);
    due(x.count(6), 3);
    due(x.undo(), 2);
    due(x.summary(0, 3), 8);
    x.merge(1, 0);
    due(x.clear(0), NONE);
    due(x.clear(1), 8);
    for (int s : WRONG_SUMMARIES) {
      due(x.clear(s), UNKNOWN);
    }
  }

  private static void texts() {
    promise(10);
    FloorTops x = new FloorTops();
    for (int i = 1; i <= 60; i++) {
      due(x.type((char) (i * 1091)), i);
    }
    due(x.type('a'), FULL);
    due(x.count(7), 60);
    due(x.count(6), 0);
    promise(11);
    due(x.clearText(), 60);
    due(x.clearText(), 0);
    due(x.count(7), 0);
    due(x.type('a'), 1);
    due(x.feed(0), 1);
    due(x.clearText(), 1);
    due(x.count(6), 1);
    // The text is no part of a state.
    x.keep();
    type(x, "b,c");
    x.undo();
    due(x.count(7), 3);
    x.restore();
    due(x.clearText(), 3);
  }

  private static void perform() {
    promise(12);
    FloorTops x = new FloorTops();
    due(perform(x, "size 0 2"), 0);
    due(x.summary(0, 0), 2);
    due(x.count(7), 8);
    due(x.count(6), 1);
    due(x.perform(), NONE);
    due(x.count(6), 1);
    due(perform(x, "size 0 10"), 0);
    feed(x, 0, "a1,b2,c3,d4,e5,f6");
    due(perform(x, "copy 1 0"), 6);
    due(x.count(6), 4);
    due(perform(x, "size 1 3"), 3);
    due(perform(x, "merge 2 1"), 0);
    due(perform(x, "clear 2"), 21);
    due(perform(x, "clear 2"), NONE);
    due(x.undo(), 3);
    due(x.summary(2, 3), 21);
    due(x.undo(), 2);
    due(x.summary(1, 3), 21);
    due(perform(x, "merge 1 0"), 3);
    due(perform(x, "merge 4 0"), UNKNOWN);
    due(perform(x, "copy 0 99"), UNKNOWN);
    due(perform(x, "copy 3 3"), BAD);
    due(perform(x, "size 1 11"), BAD);
    due(perform(x, "size 1 0"), BAD);
    due(perform(x, "clear 10"), UNKNOWN);
    due(perform(x, "size 0 99"), BAD);
    String[] faulty = {"", "merg", "merges 0 1", "Merge 0 1", " merge 0 1", "merge", "merge ", "merge  0 1",
        "merge 0", "merge 0 ", "merge 0 a", "merge 0 1 ", "merge 0 12 3", "merge 0 123", "merge 00 1",
        "merge 01 1", "merge 123 1", "merge0 1", "merge-0", "clear", "clear 0 1", "clear 00", "clear a",
        "clear 0x", "copy 0,1", "copy 0 -1", "size 0 02", "size 0 0", "size\u00e9", "size\u0000", "\u0000",
        "sizes", "siz", "clears 0", "xopy 0 1", "mergesize 0 1", "copyx", "merge 0 1\u0000", "0 1 merge"};
    int[] faults = {0, 0, 0, 0, 0, 5, 6, 6,
        7, 8, 8, 9, 10, 10, 7,
        7, 8, 5, 5, 5, 7, 7, 6,
        7, 6, 7, 8, -1, 4, 4, 0,
        0, 0, 0, 0, 0, 0, 9, 0};
    for (int i = 0; i < faulty.length; i++) {
      due(perform(x, faulty[i]), faults[i] < 0 ? BAD : -100 - faults[i]);
    }
    fillTo(x = new FloorTops(), 1000000);
    feed(x, 1, "a");
    due(perform(x, "merge 0 1"), FULL);
    due(perform(x, "merge 0 0"), BAD);
  }

  private static void undo() {
    promise(13);
    FloorTops x = new FloorTops();
    due(x.undo(), NONE);
    for (int i = 1; i <= 6; i++) {
      x.arrive(0, 'a', 1);
      due(x.count(6), Math.min(i, 4));
    }
    for (int i = 3; i >= 0; i--) {
      due(x.undo(), i);
      due(x.bound(0, 'a', 0), 2 + i);
      due(x.count(0), 2 + i);
    }
    due(x.undo(), NONE);
    due(x.count(0), 2);
    // After undo() the history goes on from there.
    x.arrive(0, 'b', 5);
    x.flow('c', 6);
    due(x.undo(), 1);
    due(x.summary(4, 3), 0);
    due(x.undo(), 0);
    due(x.bound(0, 'b', 2), 0);
    due(x.bound(0, 'a', 2), 2);
    // Log, evictions, merges, blocks and sizes come back, too.
    x.setSize(0, 2);
    feed(x, 0, "b,c,d");
    x.merge(0, 1);
    due(x.count(1), 2);
    due(x.undo(), 2);
    due(x.count(2), 0);
    due(x.event(0, 0), 0);
    due(x.undo(), 1);
    due(x.event(0, 0), NONE);
    due(x.count(1), 0);
    due(x.undo(), 0);
    due(x.summary(0, 0), 4);
    // What is told, typed or kept records nothing.
    x.keep();
    x.type('a');
    x.clearText();
    x.summary(4, 0);
    x.wouldEvict(0, 'z');
    due(x.undo(), NONE);
    flowAll(x, "a,b,c,d,e,f,g,h,i");
    due(x.count(3), 2);
    due(x.undo(), 0);
    due(x.count(3), 1);
    due(x.count(4), 1);
    due(x.count(5), 0);
    due(x.count(1), 0);
    due(x.block(0, 3), 0);
    blocksAndEventsComeBack();
  }

  private static void blocksAndEventsComeBack() {
    FloorTops x = new FloorTops();
    flowAll(x, "a,b,c,d,a,b,c,d");
    x.setSize(2, 2);
    feed(x, 2, "p,q,r");
    flowAll(x, "e2,f");
    due(x.event(0, 1), 4);
    due(x.undo(), 3);
    due(x.event(0, 1), 2);
    due(x.event(0, 2), 'p');
    due(x.event(0, 3), 11);
    due(x.flow('z', 5), 1);
    due(x.block(0, 1), 8);
    due(x.block(1, 1), 5);
    due(x.flow('z', 5), 2);
    due(x.undo(), 3);
    due(x.undo(), 2);
    due(x.block(0, 0), 8);
    due(x.block(1, 0), UNKNOWN);
    // Kept, the events are those of the time of keep().
    x.keep();
    for (int i = 0; i < 9; i++) {
      x.merge(3, 1);
    }
    flowAll(x, "k,k,k,k,k,k,k,k,k");
    x.restore();
    due(x.event(0, 1), 2);
    due(x.event(1, 0), NONE);
    due(x.flow('y', 3), 1);
    due(x.block(0, 1), 8);
    due(x.block(1, 1), 3);
    due(x.bound(4, 'a', 2), 2);
    due(x.bound(4, 'k', 2), 0);
  }

  private static void snapshot() {
    promise(14);
    FloorTops x = new FloorTops();
    due(x.keep(), 0);
    x.arrive(0, 'a', 5);
    x.flow('b', 5);
    due(x.keep(), 2);
    due(x.count(6), 2);
    promise(15);
    due(new FloorTops().restore(), NONE);
    x.arrive(0, 'a', 5);
    x.flow('c', 1);
    due(x.restore(), 2);
    due(x.bound(0, 'a', 0), 5);
    due(x.bound(4, 'c', 2), 0);
    due(x.bound(4, 'b', 2), 5);
    due(x.count(6), 4);
    due(x.undo(), 3);
    due(x.bound(0, 'a', 0), 10);
    due(x.bound(4, 'c', 2), 1);
    due(x.count(0), 4);
    due(x.undo(), 2);
    due(x.undo(), 1);
    due(x.undo(), 0);
    due(x.count(0), 1);
    // The snapshot stays, whatever is undone or done.
    due(x.restore(), 2);
    due(x.restore(), 2);
    due(x.arrive(0, 'a', 1), 6);
    due(x.restore(), 2);
    due(x.bound(0, 'a', 0), 5);
    x.clear(0);
    x.setSize(0, 2);
    due(x.keep(), 2);
    x.setSize(0, 5);
    due(x.restore(), 2);
    due(x.summary(0, 0), 2);
    due(x.summary(0, 3), 0);
    FloorTops y = new FloorTops();
    y.keep();
    due(y.restore(), 0);
    due(y.count(6), 1);
  }

  private static void summary() {
    promise(16);
    FloorTops x = new FloorTops();
    x.setSize(1, 3);
    feed(x, 1, "a5,b2,c1,d9,b7");
    // a 5, b 2, c 1; d 10 for c (1); b 9: floor 1
    int[] wanted = {3, 3, 1, 24, 1, bits("abcd"), bits("abd")};
    for (int what = 0; what < wanted.length; what++) {
      due(x.summary(1, what), wanted[what]);
      due(x.summary(0, what), what == 0 ? 4 : 0);
    }
    feed(x, 1, "z");
    due(x.summary(1, 4), 5);
    due(x.summary(1, 6), bits("bdz"));
    due(x.arrive(1, 'z', 99), 105);
    due(x.summary(1, 4), 5);
    due(x.arrive(1, 'a', 1), 10);
    due(x.summary(1, 4), 9);
    for (int s : WRONG_TOLD) {
      due(x.summary(s, 0), UNKNOWN);
      due(x.summary(s, 7), UNKNOWN);
    }
    for (int s = 0; s <= 4; s++) {
      due(x.summary(s, -1), BAD);
      due(x.summary(s, 7), BAD);
      due(x.summary(s, Integer.MIN_VALUE), BAD);
    }
    wholeWindow();
  }

  private static void wholeWindow() {
    FloorTops x = new FloorTops();
    flowAll(x, "a5,b2,c,d3,a,b,c,d");
    // One block: its own times.
    due(x.bound(4, 'a', 4), 5);
    due(x.bound(4, 'd', 4), 8);
    flowAll(x, "e,b9,f2");
    // a 6, b 3, c 2, d 4 with e 1, b 9, f 2: e 1 is left out first, then f 2 ahead of c 2.
    due(x.summary(4, 1), 4);
    due(x.summary(4, 6), bits("abcd"));
    due(x.summary(4, 2), 2);
    due(x.bound(4, 'b', 0), 12);
    due(x.bound(4, 'b', 4), 11);
    due(x.bound(4, 'a', 4), 11);
    due(x.bound(4, 'f', 2), 2);
    due(x.summary(4, 3), 27);
    due(x.summary(4, 5), bits("abcdef"));
    due(x.count(2), 0);
    due(x.count(1), 0);
    due(x.event(0, 0), 2);
    due(x.block(0, 1), 15);
    due(x.block(1, 1), 12);
    due(x.block(0, 2), 4);
    // Block by block, not all at once: the floor of the first two is in the third.
    flowAll(x, "e,e,e,e,f9,f");
    due(x.count(4), 3);
    // blocks: {a6 b3 c2 d4} {e5 b9 f11} {f1}; first two: a6 b12 e5 f11, floor 4 (c 2, d 4 are out);
    // then f 12.
    due(x.summary(4, 6), bits("abef"));
    due(x.summary(4, 2), 4);
    due(x.bound(4, 'f', 0), 12);
    due(x.bound(4, 'd', 0), 4);
    due(x.bound(4, 'd', 1), 0);
    flowAll(x, "d3");
    // f 1 and d 3 in the third: d comes back with 4 + 3 and the slack 4; e 5 is left out.
    due(x.summary(4, 6), bits("abdf"));
    due(x.bound(4, 'd', 0), 7);
    due(x.bound(4, 'd', 3), 4);
    due(x.summary(4, 2), 5);
    due(x.summary(4, 0), 4);
  }

  private static void bound() {
    promise(17);
    FloorTops x = new FloorTops();
    x.setSize(0, 2);
    feed(x, 0, "a5,b2,c1,a2");
    int[][] wanted = {{7, 7, 7, 0, 4}, {2, 0, 2, NONE, NONE}, {3, 1, 1, 2, 3}, {2, 0, 0, NONE, NONE}};
    for (int i = 0; i < wanted.length; i++) {
      for (int what = 0; what <= 4; what++) {
        due(x.bound(0, (char) ('a' + i), what), wanted[i][what]);
      }
    }
    due(x.bound(0, 'z', 0), 2);
    due(x.bound(1, 'a', 0), 0);
    for (int s : WRONG_TOLD) {
      due(x.bound(s, 'a', 0), UNKNOWN);
      due(x.bound(s, 'a', 5), UNKNOWN);
    }
    for (char c : WRONG_LETTERS) {
      due(x.bound(0, c, 0), UNKNOWN);
      due(x.bound(0, c, -1), UNKNOWN);
      due(x.bound(4, c, 0), UNKNOWN);
    }
    due(x.bound(0, 'a', 5), BAD);
    due(x.bound(0, 'a', -1), BAD);
    due(x.bound(0, 'z', 5), BAD);
    due(x.bound(4, 'z', Integer.MAX_VALUE), BAD);
  }

  private static void top() {
    promise(18);
    FloorTops x = new FloorTops();
    x.setSize(0, 10);
    feed(x, 0, "m3,b7,z3,a1,c9");
    String order = "cbmza";
    int[] counts = {9, 7, 3, 3, 1};
    for (int place = 0; place < 5; place++) {
      due(x.top(0, place, 0), order.charAt(place));
      due(x.top(0, place, 1), counts[place]);
    }
    due(x.top(0, 5, 0), NONE);
    due(x.top(0, 5, 1), NONE);
    due(x.top(0, Integer.MAX_VALUE, 0), NONE);
    due(x.top(0, -1, 0), BAD);
    due(x.top(0, Integer.MIN_VALUE, 0), BAD);
    due(x.top(0, 0, 2), BAD);
    due(x.top(0, 0, -1), BAD);
    due(x.top(0, 5, 2), BAD);
    due(x.top(1, 0, 0), NONE);
    due(x.top(1, 0, 2), BAD);
    feed(x, 1, "b2,a2,z3");
    due(x.top(1, 0, 0), 'z');
    due(x.top(1, 1, 0), 'a');
    due(x.top(1, 2, 0), 'b');
    x.arrive(1, 'a', 1);
    due(x.top(1, 0, 0), 'a');
    due(x.top(1, 1, 0), 'z');
    for (int s : WRONG_TOLD) {
      due(x.top(s, 0, 0), UNKNOWN);
      due(x.top(s, -1, 0), UNKNOWN);
    }
    flowAll(x, "x2,y5");
    due(x.top(4, 0, 0), 'y');
    due(x.top(4, 1, 1), 2);
    due(x.top(4, 2, 1), NONE);
  }

  private static void first() {
    promise(19);
    FloorTops x = new FloorTops();
    x.setSize(0, 3);
    feed(x, 0, "a9,b4,c2,d3");
    // a [9,9], b [4,4], d [3,5], others [0,2]
    due(x.first(0, 1, true), bits("a"));
    due(x.first(0, 1, false), bits("a"));
    due(x.first(0, 2, true), bits("a"));
    due(x.first(0, 2, false), bits("abd"));
    due(x.first(0, 3, true), bits("abd"));
    due(x.first(0, 3, false), bits("abd"));
    due(x.first(0, 4, true), bits("abd"));
    due(x.first(0, 4, false), ALL);
    due(x.first(0, 25, true), bits("abd"));
    due(x.first(0, 25, false), ALL);
    due(x.first(0, 0, true), BAD);
    due(x.first(0, 26, true), BAD);
    due(x.first(0, -1, false), BAD);
    due(x.first(0, Integer.MAX_VALUE, false), BAD);
    for (int s : WRONG_TOLD) {
      due(x.first(s, 1, true), UNKNOWN);
      due(x.first(s, 0, true), UNKNOWN);
    }
    // Letters of one count are both first ones.
    feed(x, 1, "p4,q4,r2");
    due(x.first(1, 1, true), bits("pq"));
    due(x.first(1, 2, true), bits("pq"));
    due(x.first(1, 3, true), bits("pqr"));
    due(x.first(1, 4, true), ALL);
    due(x.first(4, 1, true), ALL);
    x.flow('k', 1);
    due(x.first(4, 1, true), bits("k"));
  }

  private static void above() {
    promise(20);
    FloorTops x = new FloorTops();
    x.setSize(0, 3);
    feed(x, 0, "a10,b5,c2,d3");
    // sum 20: a [10,10], b [5,5], d [3,5], others [0,2]
    due(x.above(0, 50, true), 0);
    due(x.above(0, 49, true), bits("a"));
    due(x.above(0, 25, true), bits("a"));
    due(x.above(0, 24, true), bits("ab"));
    due(x.above(0, 24, false), bits("abd"));
    due(x.above(0, 14, true), bits("abd"));
    due(x.above(0, 10, false), bits("abd"));
    due(x.above(0, 9, false), ALL);
    due(x.above(0, 1, true), bits("abd"));
    due(x.above(0, 99, false), 0);
    due(x.above(0, 0, true), BAD);
    due(x.above(0, 100, true), BAD);
    due(x.above(0, -1, false), BAD);
    due(x.above(0, Integer.MIN_VALUE, false), BAD);
    for (int s : WRONG_TOLD) {
      due(x.above(s, 1, true), UNKNOWN);
      due(x.above(s, 0, true), UNKNOWN);
    }
    x.flow('k', 1);
    due(x.above(4, 99, true), bits("k"));
  }

  private static void rank() {
    promise(21);
    FloorTops x = new FloorTops();
    x.setSize(0, 3);
    feed(x, 0, "a9,b4,c2,d3");
    due(x.rank(0, 'a', true), 1);
    due(x.rank(0, 'a', false), 1);
    due(x.rank(0, 'b', true), 3);
    due(x.rank(0, 'b', false), 2);
    due(x.rank(0, 'd', true), 3);
    due(x.rank(0, 'd', false), 2);
    due(x.rank(0, 'c', true), 26);
    due(x.rank(0, 'c', false), 4);
    due(x.rank(0, 'z', true), 26);
    // A letter is not among its own others, though its range is wide.
    x.setSize(1, 2);
    feed(x, 1, "a,b,c9");
    due(x.rank(1, 'c', true), 1);
    for (int s : WRONG_TOLD) {
      due(x.rank(s, 'a', true), UNKNOWN);
    }
    for (char c : WRONG_LETTERS) {
      due(x.rank(0, c, false), UNKNOWN);
    }
    x.flow('k', 1);
    due(x.rank(4, 'k', true), 1);
    due(x.rank(4, 'a', true), 2);
    due(x.rank(4, 'a', false), 2);
  }

  private static void alike() {
    promise(22);
    FloorTops x = new FloorTops();
    due(x.alike(0, 1), 26);
    x.setSize(0, 2);
    feed(x, 0, "a5,b2,c1");
    // 0: a [5,5], c [1,3], others [0,2]
    due(x.alike(0, 0), 26);
    due(x.alike(0, 1), 24);
    feed(x, 1, "a4,b2,c3,d3");
    // 1: a [4,4], b [2,2], c [3,3], d [3,3], others [0,0]
    due(x.alike(0, 1), 24);
    due(x.alike(1, 0), 24);
    due(x.alike(1, 2), 22);
    flowAll(x, "a4,b2,c3");
    due(x.alike(1, 4), 25);
    due(x.alike(4, 1), 25);
    due(x.alike(4, 4), 26);
    for (int s : WRONG_TOLD) {
      due(x.alike(s, 0), UNKNOWN);
      due(x.alike(0, s), UNKNOWN);
      due(x.alike(s, s), UNKNOWN);
    }
  }

  private static void wouldEvict() {
    promise(23);
    FloorTops x = new FloorTops();
    due(x.wouldEvict(0, 'a'), NONE);
    feed(x, 0, "d2,c1,b1,a1");
    due(x.wouldEvict(0, 'a'), NONE);
    due(x.wouldEvict(0, 'e'), 'c');
    due(x.summary(0, 6), bits("abcd"));
    due(x.count(6), 1);
    x.arrive(0, 'c', 1);
    due(x.wouldEvict(0, 'z'), 'b');
    x.merge(0, 1);
    due(x.wouldEvict(0, 'z'), 'a');
    due(x.wouldEvict(0, 'b'), NONE);
    x.setSize(0, 5);
    due(x.wouldEvict(0, 'z'), NONE);
    for (int s : WRONG_SUMMARIES) {
      due(x.wouldEvict(s, 'a'), UNKNOWN);
    }
    for (char c : WRONG_LETTERS) {
      due(x.wouldEvict(0, c), UNKNOWN);
    }
  }

  private static void block() {
    promise(24);
    FloorTops x = new FloorTops();
    flowAll(x, "a,b,c,d,e2,f,g,h,z9,y");
    // 0: a b c d; e 3 for a; f, g, h for b, c, d: 2 each, floor 1
    int[][] wanted = {{8, 9, 4, 1}, {2, 10, 2, 0}};
    for (int b = 0; b < 2; b++) {
      for (int what = 0; what <= 3; what++) {
        due(x.block(b, what), wanted[b][what]);
      }
    }
    due(x.block(2, 0), UNKNOWN);
    due(x.block(2, 4), UNKNOWN);
    due(x.block(-1, 0), UNKNOWN);
    due(x.block(Integer.MIN_VALUE, 0), UNKNOWN);
    due(x.block(Integer.MAX_VALUE, -1), UNKNOWN);
    due(x.block(0, 4), BAD);
    due(x.block(1, -1), BAD);
    for (int b = 2; b < 7; b++) {
      while (x.count(5) < 8) {
        x.flow('k', b);
      }
      x.flow('k', b);
    }
    due(x.count(3), 7);
    due(x.block(3, 0), 1);
    due(x.block(3, 1), 6);
    due(x.block(2, 0), 8);
    due(x.block(2, 1), 5 + 7 * 6);
    due(x.block(1, 1), 4 + 7 * 5);
    due(x.block(0, 1), 3 + 7 * 4);
    due(x.block(0, 2), 1);
    due(x.block(4, 0), UNKNOWN);
  }

  private static void event() {
    promise(25);
    FloorTops x = new FloorTops();
    due(x.event(0, 0), NONE);
    due(x.event(-1, 0), BAD);
    due(x.event(0, 4), BAD);
    due(x.event(0, -1), BAD);
    due(x.event(9, 4), BAD);
    due(x.event(Integer.MAX_VALUE, 0), NONE);
    due(x.event(Integer.MIN_VALUE, 0), BAD);
    x.setSize(2, 2);
    feed(x, 2, "a,b2,c");
    x.setSize(3, 3);
    feed(x, 3, "d,e,f");
    due(x.setSize(3, 2), 1);
    due(x.merge(2, 3), 2);
    flowAll(x, "a,b,c,d,a,b,c,e,f");
    // Evicted: a at 3 (of 2), d at 6 (of 3), then d at 14 in the window (4); the block at 14.
    int[][] wanted = {{2, 4, 2, 14}, {0, 4, 'd', 14}, {1, 2, 2, 6}, {0, 3, 'd', 6}, {0, 2, 'a', 3}};
    for (int back = 0; back < 5; back++) {
      for (int what = 0; what <= 3; what++) {
        due(x.event(back, what), wanted[back][what]);
      }
    }
    due(x.event(5, 0), NONE);
    for (int i = 0; i < 9; i++) {
      x.merge(0, 1);
    }
    due(x.event(7, 0), 1);
    due(x.event(7, 1), 0);
    due(x.event(8, 0), NONE);
    due(x.event(8, 4), BAD);
    due(x.undo(), 3);
    due(x.event(7, 0), 1);
    due(x.undo(), 2);
    due(x.event(7, 3), 14);
    due(x.undo(), 1);
    due(x.undo(), 0);
    due(x.event(4, 0), 1);
    due(x.event(5, 0), 2);
    due(x.event(6, 0), 0);
    due(x.event(7, 0), 1);
    due(x.event(7, 2), 2);
  }

  private static void count() {
    promise(26);
    FloorTops x = new FloorTops();
    x.setSize(0, 2);
    feed(x, 0, "a,b,c,d");
    flowAll(x, "a,b,c,d,e,f,g,h,i,j");
    x.merge(0, 1);
    type(x, "hello");
    // Evicted: a, b from 0; four in the first block.
    int[] wanted = {14, 6, 1, 2, 2, 2, 4, 5};
    for (int what = 0; what < wanted.length; what++) {
      due(x.count(what), wanted[what]);
    }
    due(x.count(8), BAD);
    due(x.count(-1), BAD);
    due(x.count(Integer.MIN_VALUE), BAD);
    due(x.count(Integer.MAX_VALUE), BAD);
  }

  public static void main(String[] args) {
    newObject();
    arrive();
    feed();
    flow();
    flowAll();
    merge();
    copy();
    setSize();
    clear();
    texts();
    perform();
    undo();
    snapshot();
    summary();
    bound();
    top();
    first();
    above();
    rank();
    alike();
    wouldEvict();
    block();
    event();
    count();
    System.out.println(wrong == 0 ? "all promises hold" : wrong + " answers are not as due");
    if (wrong != 0) {
      System.exit(1);
    }
  }
}
