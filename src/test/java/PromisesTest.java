/** Each promise by itself: ordinary inputs, edges, wrong inputs; answers reckoned by hand from the document. */
public final class PromisesTest {
  private static final int VILLAGER = 0, SMITH = 1, SHY = 2, CHILD = 3, PRIEST = 4, THIEF = 5;
  private static final int WORK = 1, PURSE = 2, NAME = 3, KEPT = 4, SLIP = 5, EARNS = 6;
  private static final int BEYOND = -1000000001, FULL = -1000000002, KIND = -1000000003, NONE = -1000000004,
      STATE = -1000000005, MISSING = -1000000006, SIZE = -1000000007;
  private static final int LOW = Integer.MIN_VALUE, HIGH = Integer.MAX_VALUE;

  private static int wrong = 0;
  private static int promise = 0;

  private static void due(String what, long got, long want) {
    if (got == want) return;
    wrong++;
    System.out.println("promise " + promise + ": " + what + " answered " + got + ", due is " + want);
  }

  private static FridaySlips with(int... kinds) {
    FridaySlips x = new FridaySlips();
    for (int kind : kinds) x.person(kind);
    return x;
  }

  private static void tell(FridaySlips x, String text) {
    for (int i = 0; i < text.length(); i++) x.feed(text.charAt(i), 1);
  }

  /** What village() answers to a text. */
  private static int told(FridaySlips x, String text) {
    tell(x, text);
    return x.village();
  }

  private static void lay(FridaySlips x, int... slips) {
    x.sheet(3, 8, slips.length);
    for (int p = 0; p < slips.length; p++) x.write(3, p, slips[p]);
    due("the test's own lot", x.lays(3) < 0 ? 1 : 0, 0);
  }

  private static void slipsDue(FridaySlips x, int... slips) {
    for (int p = 0; p < slips.length; p++) due("slip of " + p, x.of(p, SLIP), slips[p]);
  }

  public static void main(String[] args) {
    Watchdog.watch();
    newObject();
    people();
    earning();
    saying();
    setting();
    kinds();
    swapping();
    drawing();
    fridays();
    seasons();
    now();
    whoIsWho();
    on();
    itself();
    most();
    better();
    bestAsAndKind();
    oddsAndLots();
    feeding();
    texts();
    faults();
    sheets();
    copying();
    laying();
    bookAndReader();
    images();
    counting();
    statuses();
    System.out.println(wrong == 0 ? "all promises are kept" : wrong + " answers are not as due");
    if (wrong != 0) System.exit(1);
  }

  private static void newObject() {
    promise = 1;
    FridaySlips x = new FridaySlips();
    due("people", x.count(0), 0);
    due("tape", x.count(1), 0);
    due("z", x.count(2), 1);
    due("names", x.count(3), 0);
    due("friday", x.now(0), 0);
    due("status", x.status(-1), 0);
    due("tear", x.tear(), 0);
    due("undo", x.undo(), NONE);
    for (int s = 0; s < 4; s++) due("sheet " + s, x.write(s, 0, 1L), MISSING);
  }

  private static void people() {
    promise = 2;
    FridaySlips x = new FridaySlips();
    due("person(-1)", x.person(-1), BEYOND);
    due("person(6)", x.person(6), BEYOND);
    for (int p = 0; p < 8; p++) due("person", x.person(p % 6), p);
    due("a 9th", x.person(0), FULL);
    due("a 9th of no kind", x.person(6), BEYOND);
    due("a 9th of no kind", x.person(LOW), BEYOND);
    due("people", x.count(0), 8);
    promise = 3;
    int[] fresh = {0, 5, 10, 50, 0, 0, 0};
    for (int what = 0; what < 7; what++) due("of(6, " + what + ")", x.of(6, what), what == SLIP ? 6 : fresh[what]);
    due("of(5, kind)", x.of(5, 0), 5);
    due("of(8, 0)", x.of(8, 0), BEYOND);
    due("of(-1, 0)", x.of(-1, 0), BEYOND);
    due("of(0, -1)", x.of(0, -1), BEYOND);
    due("of(0, 7)", x.of(0, 7), BEYOND);
    due("of(HIGH, LOW)", x.of(HIGH, LOW), BEYOND);
  }

  private static void earning() {
    promise = 3;
    FridaySlips x = with(VILLAGER, VILLAGER);
    x.set(0, WORK, 6);
    x.set(1, WORK, 11);
    due("by itself", x.of(0, EARNS), 0);
    x.swap(0, 1);
    due("villager", x.of(0, EARNS), 8);
    x.turn(0, SMITH);
    due("smith", x.of(0, EARNS), 10);
    x.turn(0, SHY);
    due("shy, name 50", x.of(0, EARNS), 8);
    x.set(0, NAME, 49);
    due("shy, name 49", x.of(0, EARNS), 12);
    x.turn(0, THIEF);
    due("thief, name 49", x.of(0, EARNS), 24);
    x.set(0, NAME, 50);
    x.set(1, NAME, 0);
    due("thief: its own name counts", x.of(0, EARNS), 16);
    x.turn(0, PRIEST);
    due("priest", x.of(0, EARNS), 10);
    x.set(0, KEPT, 7);
    due("priest, 7 kept", x.of(0, EARNS), 9);
    x.set(0, KEPT, 40);
    due("priest, 40 kept", x.of(0, EARNS), 0);
    x.set(0, KEPT, 99);
    due("priest, 99 kept", x.of(0, EARNS), 0);
    x.turn(0, CHILD);
    due("child, in a wrong lot", x.of(0, EARNS), 1);
    FridaySlips y = with(SMITH, CHILD);
    due("a smith by itself", y.of(0, EARNS), 0);
    due("a child by itself", y.of(1, EARNS), 0);
  }

  private static void saying() {
    promise = 4;
    FridaySlips x = with(VILLAGER, VILLAGER);
    due("by itself", x.says(0), 100);
    x.swap(0, 1);
    due("villager, as much work", x.says(0), 101);
    x.set(0, WORK, 4);
    due("villager, less work", x.says(0), 99);
    x.turn(0, SMITH);
    due("smith, less work", x.says(0), 99);
    x.turn(0, PRIEST);
    due("priest, less work", x.says(0), 100);
    x.set(0, WORK, 6);
    due("priest, more work", x.says(0), 102);
    x.turn(0, SHY);
    due("shy", x.says(0), 103);
    x.turn(0, THIEF);
    due("thief", x.says(0), 98);
    x.turn(0, CHILD);
    due("child", x.says(0), 100);
    due("says(2)", x.says(2), BEYOND);
    due("says(-1)", x.says(-1), BEYOND);
    FridaySlips y = with(SHY, THIEF, PRIEST);
    for (int p = 0; p < 3; p++) due("by itself", y.says(p), 100);
  }

  private static void setting() {
    promise = 5;
    FridaySlips x = with(SMITH);
    int[] first = {0, 5, 10, 50, 0};
    int[] most = {0, 20, 99999, 99, 99};
    for (int what = 1; what <= 4; what++) {
      due("set to the most", x.set(0, what, most[what]), first[what]);
      due("set above the most", x.set(0, what, most[what] + 1), BEYOND);
      due("set below 0", x.set(0, what, -1), BEYOND);
      due("unchanged", x.of(0, what), most[what]);
      due("set to 0", x.set(0, what, 0), most[what]);
      due("is 0", x.of(0, what), 0);
    }
    due("set(0, 0, 1)", x.set(0, 0, 1), BEYOND);
    due("set(0, 5, 0)", x.set(0, 5, 0), BEYOND);
    due("set(1, 1, 1)", x.set(1, 1, 1), BEYOND);
    due("set(-1, 1, 1)", x.set(-1, 1, 1), BEYOND);
    due("kind", x.of(0, 0), SMITH);
    due("slip", x.of(0, SLIP), 0);
  }

  private static void kinds() {
    promise = 6;
    FridaySlips x = with(VILLAGER, VILLAGER);
    x.swap(0, 1);
    due("turn", x.turn(0, CHILD), VILLAGER);
    due("turn", x.turn(0, CHILD), CHILD);
    due("turn(0, 6)", x.turn(0, 6), BEYOND);
    due("turn(0, -1)", x.turn(0, -1), BEYOND);
    due("turn(2, 0)", x.turn(2, 0), BEYOND);
    due("turn(-1, 0)", x.turn(-1, 0), BEYOND);
    due("kind", x.of(0, 0), CHILD);
    slipsDue(x, 1, 0);
    promise = 7;
    String[] above = {"0", "01", "02", "03", "014", "025"};
    FridaySlips y = with(0, 1, 2, 3, 4, 5);
    for (int p = 0; p < 6; p++) {
      y.set(p, NAME, 20 + p);
      for (int k = 0; k < 6; k++) {
        due("as(" + p + ", " + k + ")", y.as(p, k), above[p].indexOf('0' + k) < 0 ? KIND : 20 + p);
      }
    }
    due("as(6, 0)", y.as(6, 0), BEYOND);
    due("as(-1, 0)", y.as(-1, 0), BEYOND);
    due("as(0, 6)", y.as(0, 6), BEYOND);
    due("as(0, -1)", y.as(0, -1), BEYOND);
  }

  private static void swapping() {
    promise = 8;
    FridaySlips x = with(VILLAGER, SMITH, CHILD, THIEF, CHILD);
    due("swap", x.swap(0, 3), 3);
    slipsDue(x, 3, 1, 2, 0, 4);
    due("swap", x.swap(4, 2), 1);
    due("swap", x.swap(1, 0), 0);
    slipsDue(x, 1, 3, 4, 0, 2);
    due("a child and a grown one", x.swap(0, 2), STATE);
    due("a grown one and a child", x.swap(4, 3), STATE);
    due("one and the same", x.swap(1, 1), BEYOND);
    due("swap(0, 5)", x.swap(0, 5), BEYOND);
    due("swap(5, 0)", x.swap(5, 0), BEYOND);
    due("swap(-1, 2)", x.swap(-1, 2), BEYOND);
    slipsDue(x, 1, 3, 4, 0, 2);
    promise = 9;
    due("home", x.home(), 5);
    slipsDue(x, 0, 1, 2, 3, 4);
    due("home", x.home(), 0);
    x.swap(0, 1);
    due("home", x.home(), 2);
    due("home, nobody there", new FridaySlips().home(), 0);
  }

  private static void drawing() {
    promise = 10;
    // z: 1, then 1103527590 (16838 by >>> 16), 2524885223 (38526), 662824084 (10113).
    FridaySlips x = with(VILLAGER, VILLAGER, VILLAGER);
    due("draw", x.draw(), 1);
    // 16838 % 3 is 2: 2 stays; 38526 % 2 is 0: 1 and 0 are swapped.
    slipsDue(x, 1, 0, 2);
    due("z", x.count(2), (int) 2524885223L);
    FridaySlips y = with(CHILD, VILLAGER, CHILD, VILLAGER);
    y.seed(1);
    // Grown 1 and 3 first: 16838 % 2 is 0: swapped; then children 0 and 2: 38526 % 2 is 0: swapped.
    due("draw", y.draw(), 0);
    slipsDue(y, 2, 3, 0, 1);
    due("z", y.count(2), (int) 2524885223L);
    FridaySlips again = with(VILLAGER, VILLAGER, VILLAGER);
    lay(again, 1, 2, 0);
    again.draw();
    slipsDue(again, 1, 0, 2);
    FridaySlips high = with(VILLAGER, VILLAGER, VILLAGER);
    high.seed((int) 2524885223L);
    // z: 662824084 (10113 % 3 is 0), then 662824084 * 1103515245 + 12345.
    int third = 662824084 * 1103515245 + 12345;
    high.draw();
    due("z", high.count(2), third);
    due("the last one has 0's slip", high.of(2, SLIP), 0);
    FridaySlips few = with(CHILD, VILLAGER);
    due("draw", few.draw(), 2);
    due("z stays", few.count(2), 1);
    due("draw, nobody there", new FridaySlips().draw(), 0);
    promise = 11;
    FridaySlips s = new FridaySlips();
    due("seed", s.seed(-1000000001), 1);
    due("seed", s.seed(LOW), -1000000001);
    due("z", s.count(2), LOW);
    due("no finding", s.status(-1), 0);
  }

  private static void fridays() {
    promise = 12;
    FridaySlips x = with(VILLAGER, SMITH, SHY);
    x.set(0, WORK, 8);
    x.set(2, NAME, 47);
    lay(x, 1, 2, 0);
    // 0 is 1: (8+5)/2 = 6 for 1; 1 is 2: 5+2 = 7 for 2; 2 is 0: (5+8)/2 + 4 = 10 for 0.
    due("fridays(1)", x.fridays(1), 53);
    int[] purses = {20, 16, 17};
    int[] names = {53, 51, 48};
    for (int p = 0; p < 3; p++) {
      due("purse of " + p, x.of(p, PURSE), purses[p]);
      due("name of " + p, x.of(p, NAME), names[p]);
      due("kept of " + p, x.of(p, KEPT), 0);
    }
    due("friday", x.now(0), 1);
    // By the names as each begins: 48, 49, then 50: 4 less for 0 from then on.
    due("fridays(3)", x.fridays(3), 53 + 23 + 23 + 19);
    due("friday", x.now(0), 4);
    due("purse of 0", x.of(0, PURSE), 20 + 10 + 10 + 6);
    slipsDue(x, 1, 2, 0);
    due("fridays(0)", x.fridays(0), BEYOND);
    due("fridays(61)", x.fridays(61), BEYOND);
    due("fridays(HIGH)", x.fridays(HIGH), BEYOND);
    due("friday", x.now(0), 4);
    insults();
    limits();
  }

  private static void insults() {
    int[] heard = {2, 2, 4, 0, 3, 4};
    for (int kind = 0; kind < 6; kind++) {
      FridaySlips x = with(VILLAGER, VILLAGER);
      x.swap(0, 1);
      x.turn(0, kind);
      x.set(1, NAME, 19);
      x.set(0, NAME, 20);
      x.fridays(1);
      due("kept by kind " + kind, x.of(0, KEPT), heard[kind]);
      due("nothing is heard from 20 on", x.of(1, KEPT), 0);
      FridaySlips y = with(kind);
      y.set(0, NAME, 0);
      y.fridays(1);
      due("by itself", y.of(0, KEPT), 0);
      due("by itself", y.of(0, PURSE), 10);
      due("by itself", y.of(0, NAME), 0);
    }
    FridaySlips x = with(PRIEST, VILLAGER);
    x.swap(0, 1);
    x.fridays(1);
    due("a priest keeps 1 always", x.of(0, KEPT), 1);
  }

  private static void limits() {
    FridaySlips x = with(VILLAGER, VILLAGER);
    x.swap(0, 1);
    x.set(0, PURSE, 99995);
    x.set(0, NAME, 99);
    x.set(1, NAME, 0);
    x.set(0, WORK, 4);
    x.set(0, KEPT, 98);
    x.fridays(1);
    due("purse held", x.of(0, PURSE), 99999);
    due("name held", x.of(0, NAME), 99);
    due("name held", x.of(1, NAME), 0);
    due("kept held", x.of(0, KEPT), 99);
    due("purse", x.of(1, PURSE), 14);
    for (int i = 0; i < 166; i++) x.fridays(60);
    due("friday", x.now(0), 9961);
    due("too far", x.fridays(39), STATE);
    due("too far and beyond", x.fridays(61), BEYOND);
    due("friday", x.now(0), 9961);
    x.fridays(38);
    due("friday", x.now(0), 9999);
    due("too far", x.fridays(1), STATE);
    promise = 13;
    due("too far", x.season(1), STATE);
    due("too far and beyond", x.season(21), BEYOND);
    FridaySlips y = with(VILLAGER, VILLAGER);
    for (int i = 0; i < 166; i++) y.fridays(60);
    y.fridays(20);
    int z = y.count(2);
    due("too far", y.season(20), STATE);
    due("z", y.count(2), z);
    due("friday", y.now(0), 9980);
    y.season(19);
    due("friday", y.now(0), 9999);
    promise = 19;
    due("on goes beyond the last friday", x.on(1, 1, 0), x.of(1, PURSE) + 4);
    promise = 12;
  }

  private static void seasons() {
    promise = 13;
    FridaySlips x = with(VILLAGER, SMITH, VILLAGER);
    // The first draw from 1: slips 1 0 2, so 5 comes in for 1 and 7 for 0.
    due("season(1)", x.season(1), 42);
    slipsDue(x, 1, 0, 2);
    due("purse of 0", x.of(0, PURSE), 17);
    due("purse of 1", x.of(1, PURSE), 15);
    due("friday", x.now(0), 1);
    FridaySlips y = with(VILLAGER, SMITH, VILLAGER);
    FridaySlips z = with(VILLAGER, SMITH, VILLAGER);
    for (int i = 0; i < 20; i++) {
      z.draw();
      z.fridays(1);
    }
    due("season(20)", y.season(20), z.now(1));
    due("z", y.count(2), z.count(2));
    due("friday", y.now(0), 20);
    due("season(0)", y.season(0), BEYOND);
    due("season(21)", y.season(21), BEYOND);
    due("season(LOW)", y.season(LOW), BEYOND);
    due("z", y.count(2), z.count(2));
  }

  private static void now() {
    promise = 14;
    FridaySlips x = with(VILLAGER, CHILD, SMITH, CHILD, VILLAGER);
    due("friday", x.now(0), 0);
    due("purses", x.now(1), 50);
    due("children", x.now(2), 2 + 8);
    due("own", x.now(3), 31);
    due("earned", x.now(4), 0);
    due("right", x.now(5), 1);
    x.set(4, KEPT, 7);
    x.set(1, KEPT, 9);
    due("kept", x.now(6), 16);
    x.swap(0, 2);
    x.swap(1, 3);
    due("own", x.now(3), 16);
    due("earned", x.now(4), 5 + 7 + 1 + 1);
    due("right", x.now(5), 1);
    x.turn(3, VILLAGER);
    due("wrong by a turn", x.now(5), 0);
    x.turn(1, VILLAGER);
    due("right again", x.now(5), 1);
    due("children", x.now(2), 0);
    due("now(-1)", x.now(-1), BEYOND);
    due("now(7)", x.now(7), BEYOND);
    due("a text makes it wrong", told(x, "child; slip 5 is 0"), 2);
    due("wrong by a text", x.now(5), 0);
  }

  private static void whoIsWho() {
    promise = 15;
    FridaySlips x = with(0, 0, 0, 0, 0, 0);
    lay(x, 2, 0, 1, 4, 3, 5);
    due("who(0)", x.who(0), 1);
    due("who(1)", x.who(1), 2);
    due("who(2)", x.who(2), 0);
    due("who(5)", x.who(5), 5);
    due("who(6)", x.who(6), BEYOND);
    due("who(-1)", x.who(-1), BEYOND);
    promise = 16;
    due("ring(0)", x.ring(0), 7);
    due("ring(2)", x.ring(2), 7);
    due("ring(3)", x.ring(3), 24);
    due("ring(5)", x.ring(5), 32);
    due("ring(6)", x.ring(6), BEYOND);
    due("ring(-1)", x.ring(-1), BEYOND);
    promise = 17;
    due("rings", x.rings(), 3);
    due("rings, nobody there", new FridaySlips().rings(), 0);
    due("rings, all at home", with(0, 3, 1).rings(), 3);
    promise = 18;
    due("pairs", x.pairs(), 1);
    due("pairs, all at home", with(0, 0).pairs(), 0);
    lay(x, 1, 0, 3, 2, 5, 4);
    due("pairs", x.pairs(), 3);
    promise = 17;
    due("rings", x.rings(), 3);
    FridaySlips all = with(0, 0, 0, 0, 0, 0, 0, 0);
    lay(all, 1, 2, 3, 4, 5, 6, 7, 0);
    due("rings", all.rings(), 1);
    promise = 16;
    due("ring(4)", all.ring(4), 255);
  }

  private static void on() {
    promise = 19;
    FridaySlips x = with(VILLAGER, SHY);
    x.swap(0, 1);
    x.set(1, NAME, 18);
    x.set(0, WORK, 4);
    // 1 earns 4 + 4 for 0; 0 earns 4 for 1; 1's name goes down, 0's up by 3; 0 keeps 2 a Friday.
    due("on 0", x.on(0, 0, 0), 10);
    due("on 2", x.on(0, 2, 0), 26);
    due("on 3", x.on(1, 3, 0), 22);
    due("name on 3", x.on(1, 3, 1), 15);
    due("name on 3", x.on(0, 3, 1), 59);
    due("kept on 3", x.on(0, 3, 2), 6);
    due("kept on 60", x.on(0, 60, 2), 99);
    due("kept on 60", x.on(1, 60, 2), 0);
    due("nothing changes", x.of(0, PURSE), 10);
    due("nothing changes", x.now(0), 0);
    due("on(0, 61, 0)", x.on(0, 61, 0), BEYOND);
    due("on(0, -1, 0)", x.on(0, -1, 0), BEYOND);
    due("on(0, 0, 3)", x.on(0, 0, 3), BEYOND);
    due("on(0, 0, -1)", x.on(0, 0, -1), BEYOND);
    due("on(2, 0, 0)", x.on(2, 0, 0), BEYOND);
    due("on(-1, 0, 0)", x.on(-1, 0, 0), BEYOND);
  }

  private static void itself() {
    promise = 20;
    FridaySlips x = with(VILLAGER, VILLAGER, VILLAGER);
    lay(x, 2, 0, 1);
    due("itself(2)", x.itself(2), 1);
    slipsDue(x, 2, 0, 1);
    due("z", x.count(2), 1);
    int[] first = {0, 0, 0};
    FridaySlips y = with(VILLAGER, VILLAGER, VILLAGER);
    for (int i = 1; i <= 60; i++) {
      y.draw();
      for (int p = 0; p < 3; p++) if (first[p] == 0 && y.of(p, SLIP) == p) first[p] = i;
    }
    for (int p = 0; p < 3; p++) due("itself(" + p + ")", x.itself(p), first[p]);
    due("itself(3)", x.itself(3), BEYOND);
    due("itself(-1)", x.itself(-1), BEYOND);
    due("the only child", with(CHILD, VILLAGER, VILLAGER).itself(0), 1);
    itselfNever();
  }

  /** Looks for a z from which one of eight is never itself in 60 lots, and for one in which it is in the 60th. */
  private static void itselfNever() {
    boolean never = false;
    boolean last = false;
    for (int z = 0; z < 20000 && !(never && last); z++) {
      int first = firstItself(z, 61);
      if (first != 60 && first != 61 && first != 0) continue;
      FridaySlips x = with(0, 0, 0, 0, 0, 0, 0, 0);
      x.seed(z);
      due("itself(0) from " + z, x.itself(0), first == 60 ? 60 : NONE);
      due("z", x.count(2), z);
      due("status(3)", x.status(3), first == 60 ? 0 : 1);
      never |= first != 60;
      last |= first == 60;
    }
    due("there is a z for both", never && last ? 1 : 0, 1);
  }

  /** In which lot of eight grown ones 0 has its own slip first; 0: in none of so many. */
  private static int firstItself(int seed, int many) {
    int z = seed;
    for (int lot = 1; lot <= many; lot++) {
      int[] slips = {0, 1, 2, 3, 4, 5, 6, 7};
      for (int i = 7; i > 0; i--) {
        z = z * 1103515245 + 12345;
        int j = (z >>> 16) % (i + 1);
        int slip = slips[i];
        slips[i] = slips[j];
        slips[j] = slip;
      }
      if (slips[0] == 0) return lot;
    }
    return 0;
  }

  private static void most() {
    promise = 21;
    due("nobody there", new FridaySlips().most(), 0);
    due("one", with(SMITH).most(), 0);
    due("a child and a grown one", with(CHILD, THIEF).most(), 0);
    due("two", with(SMITH, THIEF).most(), 7 + 10);
    FridaySlips x = with(VILLAGER, VILLAGER, THIEF, CHILD, CHILD);
    x.set(0, WORK, 20);
    x.set(1, WORK, 0);
    // 2 is 0: 2 * (5+20)/2 = 24; then 0 is 1: 10, 1 is 2: 2; or 0 is 2: 12 and 1 stays in: 0 (12 in all).
    due("most", x.most(), 24 + 10 + 2 + 2);
    slipsDue(x, 0, 1, 2, 3, 4);
    promise = 22;
    int[] least = {1, 2, 0, 4, 3};
    for (int p = 0; p < 5; p++) due("slip(" + p + ")", x.slip(p), least[p]);
    due("slip(5)", x.slip(5), BEYOND);
    due("slip(-1)", x.slip(-1), BEYOND);
    FridaySlips alike = with(0, 0, 0, 0);
    int[] pairs = {1, 0, 3, 2};
    for (int p = 0; p < 4; p++) due("the least of several: slip(" + p + ")", alike.slip(p), pairs[p]);
    FridaySlips poor = with(PRIEST, PRIEST);
    poor.set(0, KEPT, 99);
    poor.set(1, KEPT, 99);
    due("nothing comes in: at home is least", poor.slip(0), 0);
    promise = 21;
    due("nothing comes in", poor.most(), 0);
    FridaySlips odd = with(PRIEST, VILLAGER, VILLAGER);
    odd.set(0, WORK, 20);
    odd.set(0, KEPT, 99);
    // 0 earns nothing whoever it is; one of the others is 0: 12, and 5.
    due("most", odd.most(), 17);
    promise = 22;
    // 1 2 0 and 2 0 1 both let 17 come in.
    due("slip(0)", odd.slip(0), 1);
    due("slip(1)", odd.slip(1), 2);
    due("slip(2)", odd.slip(2), 0);
  }

  private static void better() {
    promise = 23;
    due("nobody there", new FridaySlips().better(), NONE);
    due("one", with(0).better(), NONE);
    due("a child and a grown one", with(CHILD, 0).better(), NONE);
    due("two", with(0, 1).better(), 1);
    due("the least of several", with(0, 0, 0, 0).better(), 1);
    FridaySlips x = with(CHILD, VILLAGER, CHILD, THIEF, SMITH);
    // At home 0 comes in: 1 and 3: 5 + 10; 1 and 4: 5 + 7; 3 and 4: 10 + 7; 0 and 2: 2.
    due("better", x.better(), 34);
    slipsDue(x, 0, 1, 2, 3, 4);
    x.swap(3, 4);
    x.swap(0, 2);
    // Now swapping 1 with 3 or 4 lets 5 more come in.
    due("better", x.better(), 13);
    x.swap(1, 3);
    due("nothing is better", x.better(), NONE);
    due("counted", x.status(3), 1);
    FridaySlips little = with(0, 0, 0, 0);
    int[] works = {2, 4, 3, 5};
    for (int p = 0; p < 4; p++) little.set(p, WORK, works[p]);
    lay(little, 2, 3, 0, 1);
    // 2 + 4 + 2 + 4 comes in. 0 as 1 and 3 as 2 earn 3 + 4, 1 as 0 and 2 as 3 likewise: 1 more.
    due("before", little.now(4), 12);
    due("better by little", little.better(), 3);
    little.swap(0, 3);
    due("after", little.now(4), 13);
  }

  private static void bestAsAndKind() {
    promise = 24;
    FridaySlips x = with(VILLAGER, THIEF, SMITH, CHILD, CHILD, CHILD);
    x.set(0, WORK, 20);
    due("for 0 the thief", x.bestAs(0), 1);
    // For the thief: 0 earns 12, the smith 7.
    due("for the thief", x.bestAs(1), 0);
    // For the smith: 0 earns 12, the thief 10.
    due("for the smith", x.bestAs(2), 0);
    due("for a child the least other one", x.bestAs(3), 4);
    due("for a child the least other one", x.bestAs(4), 3);
    due("the only child", with(CHILD, 0).bestAs(0), NONE);
    due("bestAs(6)", x.bestAs(6), BEYOND);
    due("bestAs(-1)", x.bestAs(-1), BEYOND);
    FridaySlips poor = with(PRIEST, PRIEST, PRIEST);
    for (int p = 0; p < 3; p++) poor.set(p, KEPT, 99);
    due("nothing is earned by any", poor.bestAs(0), 1);
    due("nothing is earned by any", poor.bestAs(2), 0);
    promise = 25;
    FridaySlips y = with(VILLAGER, VILLAGER);
    due("by itself", y.kind(0), VILLAGER);
    y.swap(0, 1);
    due("as a thief 10", y.kind(0), THIEF);
    y.set(0, WORK, 0);
    y.set(1, WORK, 4);
    // 2 as villager and shy, 4 as smith, priest, thief: the least.
    due("as a smith 4", y.kind(0), SMITH);
    y.set(1, WORK, 3);
    due("as a smith 3", y.kind(0), SMITH);
    y.set(0, NAME, 49);
    due("as a thief 10", y.kind(0), THIEF);
    due("kind", y.of(0, 0), VILLAGER);
    due("kind(2)", y.kind(2), BEYOND);
    due("kind(-1)", y.kind(-1), BEYOND);
  }

  private static void oddsAndLots() {
    int[][] odds = {{1, 1}, {0, 1}, {1, 2}, {1, 3}, {3, 8}, {11, 30}, {53, 144}, {103, 280}, {2119, 5760}};
    FridaySlips x = new FridaySlips();
    promise = 26;
    for (int n = 0; n <= 8; n++) {
      due(n + " above", x.odds(0), odds[n][0]);
      due(n + " below", x.odds(1), odds[n][1]);
      x.person(n % 3);
    }
    // Three children (2 of 6) and four grown ones (9 of 24).
    FridaySlips both = with(CHILD, 0, CHILD, 0, CHILD, 0, 0);
    due("above", both.odds(0), 1);
    due("below", both.odds(1), 8);
    due("odds(2)", x.odds(2), BEYOND);
    due("odds(-1)", x.odds(-1), BEYOND);
    promise = 27;
    int[] lots = {14833, 14832, 7420, 2464, 630, 112, 28, 0, 1};
    for (int k = 0; k <= 8; k++) due("lots(" + k + ")", x.lots(k), lots[k]);
    // 2 + 3 t + t^3 times 9 + 8 t + 6 t^2 + t^4.
    int[] mixed = {18, 43, 36, 27, 10, 9, 0, 1, 0};
    for (int k = 0; k <= 8; k++) due("lots(" + k + ")", both.lots(k), mixed[k]);
    due("lots(9)", x.lots(9), BEYOND);
    due("lots(-1)", x.lots(-1), BEYOND);
    due("nobody there", new FridaySlips().lots(0), 1);
    due("nobody there", new FridaySlips().lots(1), 0);
  }

  private static void feeding() {
    promise = 28;
    FridaySlips x = new FridaySlips();
    due("feed(_, 0)", x.feed(1, 0), BEYOND);
    due("feed(_, 5)", x.feed(1, 5), BEYOND);
    due("feed(_, LOW)", x.feed(1, LOW), BEYOND);
    due("feed", x.feed(0x41736879, 3), 3);
    due("the lowest, the highest first", x.village(), 1);
    due("shy", x.of(0, 0), SHY);
    due("feed", x.feed(0x20736879, 4), 4);
    due("village", x.village(), 1);
    due("feed", x.feed(0x6973, 2), 2);
    for (int i = 0; i < 29; i++) x.feed(0, 4);
    due("118", x.count(1), 118);
    due("3 more", x.feed(0, 3), FULL);
    due("5 more", x.feed(0, 5), BEYOND);
    due("118", x.count(1), 118);
    due("2 more", x.feed(0, 2), 120);
    due("1 more", x.feed(0, 1), FULL);
    promise = 29;
    due("wipe", x.wipe(), 120);
    due("wipe", x.wipe(), 0);
    due("empty", x.count(1), 0);
  }

  private static void texts() {
    promise = 30;
    FridaySlips x = new FridaySlips();
    due("all kinds", told(x, "villager;smith ; shy;  child;priest;thief"), 6);
    for (int p = 0; p < 6; p++) due("kind of " + p, x.of(p, 0), p);
    due("the tape is empty", x.count(1), 0);
    due("at first", x.of(3, PURSE), 10);
    FridaySlips y = new FridaySlips();
    due("parts", told(y, "smith work 20 purse 999 name 99;shy work0name 0; thief purse 0;child name007;villager work 020"), 5);
    int[][] parts = {{20, 999, 99}, {0, 10, 0}, {5, 0, 50}, {5, 10, 7}, {20, 10, 50}};
    for (int p = 0; p < 5; p++) {
      for (int what = 1; what <= 3; what++) due("part " + what + " of " + p, y.of(p, what), parts[p][what - 1]);
    }
    due("slips", told(y, "  slip 0 is 1;slip1is2;slip 4 is 4  "), 3);
    slipsDue(y, 1, 2, 0, 3, 4);
    due("those there by then", told(y, "shy;slip 5 is 0;slip 2 is 0"), 3);
    slipsDue(y, 1, 2, 0, 3, 4, 5);
    FridaySlips z = with(VILLAGER, CHILD);
    z.swap(0, 1);
    due("a lot may become wrong", told(z, "slip 0 is 1"), 1);
    slipsDue(z, 1, 0);
    due("wrong", z.now(5), 0);
    due("no finding but the swap's", z.status(-1), 1);
    FridaySlips full = with(0, 0, 0, 0, 0, 0, 0);
    due("an 8th, and slips", told(full, "thief;slip 7 is 0;slip 0 is 7"), 3);
    due("who(0)", full.who(0), 7);
    due("13 items", told(full, "slip0is1;slip0is1;slip0is1;slip0is1;slip0is1;slip0is1;slip0is1;slip0is1;slip0is1"
        + ";slip0is1;slip0is1;slip0is1;slip0is2"), 13);
    due("slip", full.of(0, SLIP), 2);
  }

  /** Each text on an object of its own: all of them together would be more than 512 calls. */
  private static void faultDue(int[] kinds, String text, int place) {
    FridaySlips x = with(kinds);
    int people = x.count(0);
    int slip = x.of(0, SLIP);
    int found = x.status(-1);
    due("'" + text + "'", told(x, text), -1 - place);
    due("people after '" + text + "'", x.count(0), people);
    due("slip of 0 after '" + text + "'", x.of(0, SLIP), slip);
    due("tape after '" + text + "'", x.count(1), 0);
    due("findings after '" + text + "'", x.status(-1), found);
  }

  private static void faults() {
    promise = 30;
    int[] two = {VILLAGER, VILLAGER};
    faultDue(two, "", 0);
    faultDue(two, "   ", 3);
    faultDue(two, ";", 0);
    faultDue(two, "smith;", 6);
    faultDue(two, "smith ; ", 8);
    faultDue(two, "smith;;shy", 6);
    faultDue(two, "smith shy", 6);
    faultDue(two, "smiths", 0);
    faultDue(two, "smit", 0);
    faultDue(two, "xmith", 0);
    faultDue(two, "smithz", 0);
    faultDue(two, "smitha", 0);
    faultDue(two, "smith`", 5);
    faultDue(two, "smith{", 5);
    faultDue(two, "smith/", 5);
    faultDue(two, "smith:", 5);
    faultDue(two, "smith fork 5", 6);
    faultDue(two, "smith work 5:", 12);
    faultDue(two, "smith work 5/", 12);
    faultDue(two, " Smith", 1);
    faultDue(two, "smitH", 0);
    faultDue(two, "smith work", 10);
    faultDue(two, "smith work ", 11);
    faultDue(two, "smith work 21", 11);
    faultDue(two, "smith work20 purse 1000", 19);
    faultDue(two, "smith purse 99999999999999", 12);
    faultDue(two, "smith purse 4294967297", 12);
    faultDue(two, "smith name 100", 11);
    faultDue(two, "smith name -1", 11);
    faultDue(two, "smith name 5 work 5", 13);
    faultDue(two, "smith name 5 purse 5", 13);
    faultDue(two, "smith purse 5 work 5", 14);
    faultDue(two, "smith work 5 work 5", 13);
    faultDue(two, "smith work work", 11);
    faultDue(two, "smith 5", 6);
    faultDue(two, "smith work 5 5", 13);
    faultDue(two, "smithwork 5", 0);
    faultDue(two, "5 smith", 0);
    faultDue(two, "work 5", 0);
    faultDue(two, "smith\tshy", 5);
    faultDue(two, "smith \u00ff", 6);
    faultDue(two, "smith \u0000", 6);
    faultDue(two, "slip", 4);
    faultDue(two, "slip 0", 6);
    faultDue(two, "slip 0 is", 9);
    faultDue(two, "slip 0 is 2", 10);
    faultDue(two, "slip 2 is 0", 5);
    faultDue(two, "slip 0 is 1;slip 0 in 0", 19);
    faultDue(two, "slip 0 is 1;slip is", 17);
    faultDue(two, "slip 0 0", 7);
    faultDue(two, "slip 0 is is", 10);
    faultDue(two, "slip 0 is 1 smith", 12);
    faultDue(two, "slip 2 is 0;smith", 5);
    faultDue(two, "smith;slip 2 is 3", 16);
    faultDue(two, "slip 0 is 1000", 10);
    FridaySlips none = new FridaySlips();
    due("nobody there yet", told(none, "slip 0 is 0"), -6);
    int[] six = {0, 0, 0, 0, 0, 0};
    faultDue(six, "shy;slip 0 is 1;shy ; shy work 99", 22);
    faultDue(six, "shy;shy;smit", 8);
  }

  private static void sheets() {
    promise = 31;
    FridaySlips x = new FridaySlips();
    due("no such sheet", x.sheet(4, 8, 1), BEYOND);
    due("no such sheet", x.sheet(-1, 8, -1), BEYOND);
    for (int bits : new int[] {1, 7, 9, 15, 32, 63, 65, -8, LOW, HIGH}) due("bits", x.sheet(0, bits, -1), BEYOND);
    due("below 0", x.sheet(0, 8, -1), SIZE);
    due("below 0, bits 0", x.sheet(0, 0, LOW), SIZE);
    due("above 40", x.sheet(0, 64, 41), BEYOND);
    due("above 40, bits 0", x.sheet(0, 0, 41), BEYOND);
    due("40", x.sheet(0, 16, 40), 40);
    due("0", x.sheet(1, 64, 0), 0);
    promise = 32;
    due("write(4, ..)", x.write(4, 0, 1L), BEYOND);
    due("write(-1, ..)", x.write(-1, 0, 1L), BEYOND);
    due("a missing one", x.write(2, 99, 1L), MISSING);
    due("no such number", x.write(1, 0, 1L), BEYOND);
    due("no such number", x.write(0, 40, 1L), BEYOND);
    due("no such number", x.write(0, -1, 1L), BEYOND);
    due("was 0", x.write(0, 39, 0x12345L), 0);
    due("16 bits", x.write(0, 39, 0xffffL), 0x2345);
    due("16 bits", x.write(0, 39, 0L), -1);
    x.sheet(2, 8, 2);
    due("was 0", x.write(2, 1, 0x17fL), 0);
    due("8 bits", x.write(2, 1, 128L), 127);
    due("8 bits", x.write(2, 1, 0L), -128);
    x.sheet(3, 64, 1);
    x.write(3, 0, Long.MIN_VALUE);
    due("64 bits", x.write(3, 0, (long) BEYOND), Long.MIN_VALUE);
    int found = x.status(-1);
    due("64 bits", x.write(3, 0, 1L), BEYOND);
    due("no finding, but a number", x.status(-1), found);
    promise = 31;
    due("anew", x.sheet(3, 64, 1), 1);
    due("all 0", x.write(3, 0, 1L), 0);
    due("bits 0", x.sheet(3, 0, 5), 0);
    due("missing", x.write(3, 0, 1L), MISSING);
    x.sheet(3, 8, 2);
    due("all 0", x.write(3, 0, 1L), 0);
  }

  private static void copying() {
    promise = 33;
    FridaySlips x = new FridaySlips();
    x.sheet(0, 8, 5);
    x.sheet(1, 8, 3);
    x.sheet(2, 16, 5);
    for (int i = 0; i < 5; i++) x.write(0, i, i + 1);
    due("no such sheet", x.copy(4, 0, 3, 0, -1), BEYOND);
    due("no such sheet", x.copy(3, 0, -1, 0, -1), BEYOND);
    due("one is missing", x.copy(0, 0, 3, 0, -1), MISSING);
    due("one is missing", x.copy(3, -1, 2, 0, 1), MISSING);
    due("other bits", x.copy(0, -1, 2, 0, 9), KIND);
    due("from below 0", x.copy(0, -1, 1, 0, 1), BEYOND);
    due("to below 0", x.copy(0, 0, 1, -1, 1), BEYOND);
    due("n below 0", x.copy(0, 1, 1, 1, -1), BEYOND);
    due("not so many", x.copy(0, 3, 1, 0, 3), BEYOND);
    due("not so many", x.copy(0, 0, 1, 1, 3), BEYOND);
    due("too high", x.copy(0, HIGH, 1, 0, 1), BEYOND);
    due("too high", x.copy(0, HIGH, 1, HIGH, HIGH), BEYOND);
    due("too high", x.copy(0, 1, 1, 1, HIGH), BEYOND);
    due("none from the end", x.copy(0, 5, 1, 3, 0), 0);
    due("none beyond the end", x.copy(0, 6, 1, 3, 0), BEYOND);
    due("copy", x.copy(0, 2, 1, 0, 3), 3);
    for (int i = 0; i < 3; i++) due("copied", x.write(1, i, 0L), i + 3);
    due("up in itself", x.copy(0, 0, 0, 1, 4), 4);
    int[] up = {1, 1, 2, 3, 4};
    for (int i = 0; i < 5; i++) due("as they all were", x.write(0, i, i + 1), up[i]);
    due("down in itself", x.copy(0, 1, 0, 0, 4), 4);
    int[] down = {2, 3, 4, 5, 5};
    for (int i = 0; i < 5; i++) due("as they all were", x.write(0, i, 0L), down[i]);
  }

  private static int layRow(FridaySlips x, int... slips) {
    x.sheet(0, 64, slips.length);
    for (int p = 0; p < slips.length; p++) x.write(0, p, slips[p]);
    return x.lays(0);
  }

  private static void laying() {
    promise = 34;
    FridaySlips x = with(VILLAGER, CHILD, SMITH, CHILD);
    due("no such sheet", x.lays(4), BEYOND);
    due("no such sheet", x.lays(-1), BEYOND);
    due("missing", x.lays(0), MISSING);
    due("too few", layRow(x, 0, 1, 2), SIZE);
    due("too many", layRow(x, 0, 1, 2, 3, 4), SIZE);
    due("two alike", layRow(x, 0, 1, 0, 3), STATE);
    due("a child's", layRow(x, 1, 0, 2, 3), STATE);
    due("nobody's", layRow(x, 0, 1, 4, 3), STATE);
    due("nobody's", layRow(x, 0, 1, -2, 3), STATE);
    x.write(0, 2, (1L << 32) + 2);
    due("nobody's, above an int", x.lays(0), STATE);
    slipsDue(x, 0, 1, 2, 3);
    due("right", layRow(x, 2, 1, 0, 3), 2);
    slipsDue(x, 2, 1, 0, 3);
    due("right", layRow(x, 2, 3, 0, 1), 0);
    slipsDue(x, 2, 3, 0, 1);
    due("at home", layRow(x, 0, 1, 2, 3), 4);
    due("nobody there", layRow(new FridaySlips()), 0);
  }

  private static void bookAndReader() {
    promise = 35;
    FridaySlips x = with(VILLAGER, SMITH, CHILD, VILLAGER);
    x.swap(0, 1);
    due("no such sheet", x.book(4, 9), BEYOND);
    due("no such sheet", x.book(-1, 9), BEYOND);
    due("missing", x.book(0, 9), MISSING);
    x.sheet(0, 16, 4);
    due("book(0, 4)", x.book(0, 4), BEYOND);
    due("book(0, -1)", x.book(0, -1), BEYOND);
    due("book", x.book(0, 0), 4);
    for (int i = 0; i < 4; i++) due("purse on " + i, x.write(0, i, 0L), 10 + 7 * i);
    x.set(1, PURSE, 250);
    x.sheet(1, 8, 3);
    due("book", x.book(1, 1), 3);
    int[] cut = {250 - 256, 255 - 256, 4};
    for (int i = 0; i < 3; i++) due("its lowest bits", x.write(1, i, 0L), cut[i]);
    x.sheet(2, 8, 0);
    due("no numbers", x.book(2, 0), 0);
    due("nothing changes", x.now(0), 0);
    reader();
  }

  private static void purses(FridaySlips x, int... purses) {
    x.sheet(0, 64, purses.length);
    for (int p = 0; p < purses.length; p++) x.write(0, p, purses[p]);
  }

  private static void reader() {
    promise = 36;
    FridaySlips x = with(VILLAGER, SMITH, CHILD, VILLAGER, CHILD);
    due("no such sheet", x.read(4, 9), BEYOND);
    due("no such sheet", x.read(-1, 9), BEYOND);
    due("missing", x.read(0, 9), MISSING);
    purses(x);
    due("read(0, 5)", x.read(0, 5), BEYOND);
    due("read(0, -1)", x.read(0, -1), BEYOND);
    due("none is asked: all slips of grown ones", x.read(0, 0), 3);
    due("none is asked: all slips of children", x.read(0, 4), 2);
    purses(x, 10, 10, 10, 10, 10);
    due("all stay in: that which it has", x.read(0, 0), 1);
    purses(x, 17, 15, 10, 10, 10);
    due("0 and 1 swapped", x.read(0, 0), 1);
    due("0 and 1 swapped", x.read(0, 1), 1);
    due("not by 3", x.read(0, 3), 0);
    purses(x, 15);
    due("only 0's is asked: 0 and 3 swapped", x.read(0, 0), 1);
    purses(x, 10, 10);
    due("0's and 1's: a child's slip, either", x.read(0, 2), 2);
    purses(x, 10, 10, 11, 10, 11, 77, -5);
    due("numbers beyond people", x.read(0, 2), 1);
    x.swap(0, 1);
    x.swap(1, 3);
    // 0 is 1 (5 for 1), 1 is 3 (7 for 3), 3 is 0 (5 for 0).
    purses(x, 15, 15, 10, 17, 10);
    due("that which it has", x.read(0, 0), 1);
    // 0 has 3's slip and 1 that of 1: 15 for 3, 1 stays in.
    purses(x, 15, 10, 10, 15, 10);
    due("swapped with whoever has it", x.read(0, 0), 1);
    due("swapped with whoever has it", x.read(0, 1), 1);
    due("not by 3", x.read(0, 3), 0);
    slipsDue(x, 1, 3, 2, 0, 4);
    due("nothing changes", x.now(1), 50);
  }

  private static void images() {
    promise = 37;
    FridaySlips x = with(VILLAGER, SMITH);
    x.swap(0, 1);
    x.set(0, KEPT, 5);
    x.seed(77);
    x.fridays(2);
    x.feed(0, 3);
    x.sheet(0, 8, 2);
    due("image", x.image(), 1);
    x.feed(0, 2);
    x.sheet(0, 16, 3);
    x.turn(0, THIEF);
    for (int what = 1; what <= 4; what++) x.set(1, what, 0);
    x.person(CHILD);
    x.season(9);
    x.home();
    promise = 38;
    due("undo", x.undo(), 2);
    due("kind", x.of(0, 0), VILLAGER);
    due("work", x.of(1, WORK), 5);
    due("purse", x.of(0, PURSE), 24);
    due("purse", x.of(1, PURSE), 20);
    due("name", x.of(1, NAME), 52);
    due("kept", x.of(0, KEPT), 5);
    slipsDue(x, 1, 0);
    due("z", x.count(2), 77);
    due("friday", x.now(0), 2);
    due("the tape isn't kept", x.count(1), 5);
    due("sheets aren't kept", x.write(0, 2, 0L), 0);
    x.person(0);
    x.turn(0, PRIEST);
    due("it stays", x.undo(), 2);
    due("kind", x.of(0, 0), VILLAGER);
    x.person(0);
    due("a later image", x.image(), 1);
    x.person(0);
    due("what was kept latest", x.undo(), 3);
    due("again", x.undo(), 3);
    promise = 39;
    due("tear", x.tear(), 1);
    due("undo", x.undo(), NONE);
    due("tear", x.tear(), 0);
    due("people", x.count(0), 3);
  }

  private static void counting() {
    promise = 40;
    FridaySlips x = with(0, 3, 1);
    x.set(1, NAME, 7);
    x.feed(0, 4);
    x.seed(-5);
    due("people", x.count(0), 3);
    due("bytes", x.count(1), 4);
    due("z", x.count(2), -5);
    due("names", x.count(3), 107);
    due("count(4)", x.count(4), BEYOND);
    due("count(-1)", x.count(-1), BEYOND);
  }

  private static void statuses() {
    promise = 41;
    FridaySlips x = with(0, CHILD);
    x.image();
    x.swap(0, 0);
    x.who(9);
    for (int i = 0; i < 6; i++) x.person(0);
    for (int i = 0; i < 3; i++) x.person(0);
    x.as(0, 1);
    for (int i = 0; i < 4; i++) x.bestAs(1);
    for (int i = 0; i < 5; i++) x.swap(0, 1);
    for (int i = 0; i < 6; i++) x.write(0, 0, 0L);
    for (int i = 0; i < 7; i++) x.sheet(0, 8, -1);
    x.undo();
    int[] found = {2, 3, 1, 4, 5, 6, 7};
    for (int which = 0; which < 7; which++) due("status(" + which + ")", x.status(which), found[which]);
    due("all", x.status(-1), 28);
    due("status(7)", x.status(7), BEYOND);
    due("counted from then on", x.status(0), 3);
    due("status(-2)", x.status(-2), BEYOND);
    due("status(LOW)", x.status(LOW), BEYOND);
    due("status(HIGH)", x.status(HIGH), BEYOND);
    due("all", x.status(-1), 32);
  }
}
