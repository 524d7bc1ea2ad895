import java.util.function.Supplier;
import java.util.function.ToIntFunction;

/**
 * "Refusals .. change nothing (but THE TAPE, where told)": each refusal of each promise, with all that can be asked held
 * against an object that was not asked. And the last of 512 calls.
 */
final class BoundsOfRefusalsTest {
  private static final int MIN = Integer.MIN_VALUE, MAX = Integer.MAX_VALUE;

  public static void main(String[] args) {
    Due.runAll(BoundsOfRefusalsTest.class);
  }

  /** Something of everything; three bytes on THE TAPE, that are a STEM. */
  private static PhraseMoods some() {
    PhraseMoods x = Due.small();
    Due.frame(x, "n00v0");
    Due.frame(x, "f01n01p0");
    x.desk(0, 1);
    x.choose(0, 2);
    Due.text(x, "gat cani");
    x.image();
    Due.word(x, "zo", 1, 0, 2);
    x.desk(0, 2);
    x.choose(1, 6);
    x.number(0, 1);
    Due.text(x, "lopes podee");
    x.tray(0, 1, 3);
    x.lays(0, 1, 4);
    x.tray(1, 0, 2);
    x.sheet(0, 0, 2);
    x.put(0, 0, 5);
    x.put(0, 1, 5);
    x.sheet(1, 1, 3);
    x.sheet(2, 0, 7);
    Due.feed(x, "tip");
    return x;
  }

  /** Nothing but a WORD of each KIND, and a FRAME. */
  private static PhraseMoods noDesk() {
    PhraseMoods x = Due.small();
    Due.frame(x, "n00v0");
    x.sheet(0, 0, 2);
    return x;
  }

  private static PhraseMoods noFrame() {
    PhraseMoods x = Due.small();
    x.sheet(0, 0, 2);
    return x;
  }

  private static PhraseMoods crowded() {
    PhraseMoods x = new PhraseMoods();
    for (int i = 0; i < 20; i++) {
      Due.word(x, "" + (char) ('a' + i), i % 6, 0, i % 3);
    }
    for (int i = 0; i < 5; i++) {
      Due.frame(x, i == 0 ? "n00v0" : "p0");
    }
    x.desk(0, 0);
    return x;
  }

  private static void refuses(Supplier<PhraseMoods> state, String call, int due, ToIntFunction<PhraseMoods> asked) {
    PhraseMoods x = state.get();
    Due.due(call, asked.applyAsInt(x), due);
    Due.dueText("all behind " + call, all(x), all(state.get()));
  }

  private static void refuses(String call, int due, ToIntFunction<PhraseMoods> asked) {
    refuses(BoundsOfRefusalsTest::some, call, due, asked);
  }

  /** By these THE TAPE is empty, as where the text was never fed. */
  private static void refusesTape(Supplier<PhraseMoods> state, String text, String call, int due, ToIntFunction<PhraseMoods> asked) {
    PhraseMoods x = state.get();
    Due.feed(x, text);
    Due.due(call + " of \"" + text + "\"", asked.applyAsInt(x), due);
    Due.due("count(4) behind " + call, x.count(4), 0);
    Due.dueText("all behind " + call, all(x), all(state.get()));
  }

  // ---- all that can be asked: it changes the object, but each in the same way

  private static String all(PhraseMoods x) {
    StringBuilder s = new StringBuilder();
    now(x, s);
    tape(x, s);
    trays(x, s);
    sheets(x, s);
    desk(x, s);
    s.append(" back ").append(x.back());
    now(x, s);
    desk(x, s);
    s.append(" endings");
    for (int i = 0; i < 32; i++) {
      s.append(' ').append(x.ending(i / 8, i / 2 % 4, i % 2));
    }
    return s.toString();
  }

  private static void now(PhraseMoods x, StringBuilder s) {
    s.append(" counts");
    for (int what = 0; what < 5; what++) {
      s.append(' ').append(x.count(what));
    }
    s.append(" words");
    for (int w = 0; x.told(w, 0) >= 0; w++) {
      s.append(' ').append(x.told(w, 0)).append(x.form(w, 29, -1)).append((char) x.form(w, 0, 0));
    }
    s.append(" frames");
    for (int f = 0; x.hole(f, 0, 0) >= 0; f++) {
      for (int i = 0; x.hole(f, i, 0) >= 0; i++) {
        s.append(' ').append(x.hole(f, i, 0)).append(x.hole(f, i, 1)).append(x.hole(f, i, 2)).append(x.hole(f, i, 3));
      }
    }
    s.append(" readings ").append(x.readings(0)).append(' ').append(x.readings(1)).append(' ').append(x.readings(2));
    s.append(" near ").append(x.near(0)).append(' ').append(x.near(1));
    s.append(" said ").append(Due.said(x));
  }

  private static void tape(PhraseMoods x, StringBuilder s) {
    int word = x.word(0, 0, 0);
    s.append(" tape ").append(word).append(' ').append(word < 0 ? "" : Due.form(x, word, 0));
  }

  private static void trays(PhraseMoods x, StringBuilder s) {
    s.append(" trays");
    for (int t = 0; t < 4; t++) {
      for (int i = 0; i < 4; i++) {
        s.append(' ').append(x.laid(t, i));
      }
      // How it is made shows by what it takes.
      s.append(' ').append(x.lays(t, 0, 1)).append(' ').append(x.lays(t, 0, 2));
    }
  }

  private static void sheets(PhraseMoods x, StringBuilder s) {
    s.append(" sheets");
    for (int i = 0; i < 4; i++) {
      s.append(' ').append(x.tells(i, 0)).append(' ').append(x.tells(i, 1)).append(' ').append(x.tells(i, 2));
      for (int n = 2; n <= 8; n++) {
        s.append(' ').append(x.copy(i, 0, i, 0, n));
      }
      s.append(' ').append(x.copy(0, 0, i, 0, 0));
    }
  }

  private static void desk(PhraseMoods x, StringBuilder s) {
    s.append(" desk");
    for (int group = 0; group < 3; group++) {
      s.append(' ').append(x.number(group, 0));
    }
    s.append(' ').append(x.choose(0, 1)).append(' ').append(x.choose(1, 3)).append(' ').append(x.choose(2, 0));
  }

  // ---- the refusals, promise by promise

  static void p02FeedRefusedChangesNothing() {
    refuses("feed of 0", -2, x -> x.feed(0, 97, 97, 97, 97, 97));
    refuses("feed of 6", -2, x -> x.feed(6, 97, 97, 97, 97, 97));
    refuses("feed of byte 256", -2, x -> x.feed(3, 97, 97, 256, 97, 97));
    refuses("feed of byte -1", -2, x -> x.feed(3, 97, 97, 97, 97, -1));
    PhraseMoods x = new PhraseMoods();
    Due.feed(x, "k".repeat(48));
    Due.due("full", x.feed(3, 97, 97, 97, 0, 0), -4);
    Due.due("count(4)", x.count(4), 48);
    Due.due("room", x.feed(2, 97, 97, 0, 0, 0), 50);
  }

  static void p03WordRefusedChangesNothing() {
    refuses("word of kind 6", -2, x -> x.word(6, 0, 0));
    refuses("word of table 4", -2, x -> x.word(0, 4, 0));
    refuses("word of gender 3", -2, x -> x.word(0, 0, 3));
    for (String text : new String[] {"", "kloubra", "k1", " "}) {
      refusesTape(BoundsOfRefusalsTest::noDesk, text, "word", -3, x -> x.word(1, 1, 1));
    }
    refusesTape(BoundsOfRefusalsTest::crowded, "klo", "word", -4, x -> x.word(1, 1, 1));
  }

  static void p04EndingRefusedChangesNothing() {
    refuses("ending of table 4", -2, x -> x.ending(4, 0, 0));
    refuses("ending of row 4", -2, x -> x.ending(0, 4, 0));
    refuses("ending of number 2", -2, x -> x.ending(0, 0, 2));
    for (String text : new String[] {"rstv", "s1", " "}) {
      refusesTape(BoundsOfRefusalsTest::noDesk, text, "ending", -3, x -> x.ending(0, 0, 1));
    }
  }

  static void p05FrameRefusedChangesNothing() {
    refusesTape(BoundsOfRefusalsTest::noDesk, "", "frame", -100, x -> x.frame());
    refusesTape(BoundsOfRefusalsTest::noDesk, "n00v0x", "frame", -105, x -> x.frame());
    refusesTape(BoundsOfRefusalsTest::noDesk, "n00v1", "frame", -105, x -> x.frame());
    refusesTape(BoundsOfRefusalsTest::noDesk, "p0p1", "frame", -103, x -> x.frame());
    refusesTape(BoundsOfRefusalsTest::crowded, "n00v0", "frame", -4, x -> x.frame());
    refusesTape(BoundsOfRefusalsTest::crowded, "n00v1", "frame", -105, x -> x.frame());
  }

  static void p06ToldRefusedChangesNothing() {
    refuses("told of no word", -2, x -> x.told(8, 0));
    refuses("told of what 4", -2, x -> x.told(0, 4));
  }

  static void p07TakenRefusedChangesNothing() {
    refuses("taken of no word", -2, x -> x.taken(8, 0));
    refuses("taken for kind 6", -2, x -> x.taken(0, 6));
    refuses("taken for another", -13, x -> x.taken(0, 1));
  }

  static void p08FormRefusedChangesNothing() {
    refuses("form of no word", -2, x -> x.form(8, 0, 0));
    refuses("form by 96", -2, x -> x.form(0, 96, 0));
    refuses("form outside", -12, x -> x.form(0, 0, 3));
  }

  static void p09HoleRefusedChangesNothing() {
    refuses("hole of no frame", -2, x -> x.hole(2, 0, 0));
    refuses("hole of what 5", -2, x -> x.hole(0, 0, 5));
    refuses("hole outside", -12, x -> x.hole(0, 2, 0));
  }

  static void p10DeskRefusedChangesNothing() {
    refuses("desk of no frame", -2, x -> x.desk(2, 0));
    refuses("desk of mood 4", -2, x -> x.desk(1, 4));
    refuses(BoundsOfRefusalsTest::noDesk, "desk of mood -1", -2, x -> x.desk(0, -1));
  }

  static void p11ChooseRefusedChangesNothing() {
    refuses("choose of no word", -2, x -> x.choose(0, 8));
    refuses("choose of NONE", -2, x -> x.choose(0, -1));
    refuses("choose outside", -12, x -> x.choose(2, 1));
    refuses("choose of one that can't be there", -13, x -> x.choose(0, 3));
    refuses(BoundsOfRefusalsTest::noDesk, "choose without a frame", -3, x -> x.choose(0, 1));
  }

  static void p12NumberRefusedChangesNothing() {
    refuses("number of group 3", -2, x -> x.number(3, 0));
    refuses("number of group 32", -2, x -> x.number(32, 0));
    refuses("number 2", -2, x -> x.number(0, 2));
    refuses("number -1", -2, x -> x.number(0, -1));
    refuses(BoundsOfRefusalsTest::noDesk, "number without a frame", -3, x -> x.number(0, 1));
  }

  static void p13SaidRefusedChangesNothing() {
    refuses("said outside", -12, x -> x.said(99));
    refuses("said of -2", -12, x -> x.said(-2));
  }

  static void p14SpokenRefusedChangesNothing() {
    refuses("spoken at 0", -2, x -> x.spoken(0));
    refuses("spoken at 100", -2, x -> x.spoken(100));
  }

  static void p15TextRefusedChangesNothing() {
    for (String text : new String[] {"", " ", "gat  cana", "gat ", "gat1"}) {
      refusesTape(BoundsOfRefusalsTest::noDesk, text, "text", -3, x -> x.text());
    }
    refuses(() -> {
      PhraseMoods x = some();
      x.text();
      return x;
    }, "text of none", -3, x -> x.text());
  }

  static void p16ReadingsRefusedChangesNothing() {
    refuses("readings of what 3", -2, x -> x.readings(3));
  }

  static void p17NearRefusedChangesNothing() {
    refuses("near of what 2", -2, x -> x.near(2));
  }

  static void p18DrawnRefusedChangesNothing() {
    refuses("drawn of what 2", -2, x -> x.drawn(0, 2));
    refuses(BoundsOfRefusalsTest::noFrame, "drawn without a frame", -3, x -> x.drawn(0, 0));
  }

  static void p19ChanceRefusedChangesNothing() {
    refuses("chance of 9", -2, x -> x.chance(0, 9, 0));
    refuses("chance of part 2", -2, x -> x.chance(0, 1, 2));
    refuses(BoundsOfRefusalsTest::noFrame, "chance without a frame", -3, x -> x.chance(0, 1, 0));
  }

  static void p20TrayRefusedChangesNothing() {
    refuses("tray 4", -2, x -> x.tray(4, 0, 0));
    refuses("tray of kind 6", -2, x -> x.tray(0, 6, 0));
    refuses("tray of 21", -2, x -> x.tray(0, 0, 21));
    refuses("tray of -1", -14, x -> x.tray(0, 0, -1));
    refuses("a missing tray of -1", -14, x -> x.tray(3, 0, -1));
  }

  static void p21LaysRefusedChangesNothing() {
    refuses("lays in tray 4", -2, x -> x.lays(4, 0, 0));
    refuses("lays of no word", -2, x -> x.lays(0, 1, 8));
    refuses("lays in a missing one", -11, x -> x.lays(2, 0, 1));
    refuses("lays outside", -12, x -> x.lays(0, 3, 1));
    refuses("lays of what it isn't made for", -16, x -> x.lays(0, 1, 3));
  }

  static void p22LaidRefusedChangesNothing() {
    refuses("laid in tray 4", -2, x -> x.laid(4, 0));
    refuses("laid in a missing one", -11, x -> x.laid(2, 0));
    refuses("laid outside", -12, x -> x.laid(0, 3));
  }

  static void p23LikeRefusedChangesNothing() {
    refuses("like tray 4", -2, x -> x.like(0, 4));
    refuses("tray 4 like", -2, x -> x.like(4, 0));
    refuses("like a missing one", -11, x -> x.like(0, 2));
  }

  static void p24TellsRefusedChangesNothing() {
    refuses("tells of sheet 4", -2, x -> x.tells(4, 0));
    refuses("tells of what 3", -2, x -> x.tells(0, 3));
    refuses("tells of a missing one", -11, x -> x.tells(3, 0));
    refuses("tells of 7", -2, x -> x.tells(2, 1));
    refuses(BoundsOfRefusalsTest::noDesk, "tells without a frame", -3, x -> x.tells(0, 1));
  }

  static void p26BackRefusedChangesNothing() {
    refuses(BoundsOfRefusalsTest::noDesk, "back", -3, x -> x.back());
    refuses(BoundsOfRefusalsTest::crowded, "back", -3, x -> x.back());
  }

  static void p27CountRefusedChangesNothing() {
    refuses("count of what 5", -2, x -> x.count(5));
  }

  static void p28SheetRefusedChangesNothing() {
    refuses("sheet 4", -2, x -> x.sheet(4, 0, 1));
    refuses("sheet of sort 2", -2, x -> x.sheet(0, 2, 1));
    refuses("sheet of 41", -2, x -> x.sheet(0, 0, 41));
    refuses("sheet of -1", -14, x -> x.sheet(0, 1, -1));
    refuses("a missing sheet of -1", -14, x -> x.sheet(3, 1, -1));
  }

  static void p29PutRefusedChangesNothing() {
    refuses("put in sheet 4", -2, x -> x.put(4, 0, 9));
    refuses("put in a missing one", -11, x -> x.put(3, 0, 9));
    refuses("put outside", -12, x -> x.put(0, 2, 9));
    refuses("put at -1", -12, x -> x.put(0, -1, 9));
  }

  static void p30CopyRefusedChangesNothing() {
    refuses("copy of sheet 4", -2, x -> x.copy(4, 0, 0, 0, 1));
    refuses("copy of a missing one", -11, x -> x.copy(3, 0, 0, 0, 1));
    refuses("copy to a missing one", -11, x -> x.copy(0, 0, 3, 0, 1));
    refuses("copy of unlike sorts", -13, x -> x.copy(1, 0, 0, 0, 1));
    refuses("copy outside", -12, x -> x.copy(2, 6, 0, 0, 2));
    refuses("copy of -1", -12, x -> x.copy(2, 0, 0, 0, -1));
  }

  // ---- "An object is used for at most 512 calls"

  static void p02Feeds512() {
    PhraseMoods x = new PhraseMoods();
    for (int i = 0; i < 256; i++) {
      Due.due("feed", x.feed(1, 'a' + i % 26, 0, 0, 0, 0), 1);
      int answer = i % 2 == 0 ? x.word(i % 6, 0, 0) : x.ending(0, 0, 0);
      Due.due("call " + (2 * i + 2), answer, i == 1 ? 0 : i % 2 == 1 ? 1 : i / 2 < 20 ? i / 2 : -4);
    }
  }

  static void p25Images512() {
    PhraseMoods x = some();
    // some() makes under 60 calls, so these stay within the 512.
    for (int i = 0; i < 225; i++) {
      Due.due("image", x.image(), 8);
      Due.due("back", x.back(), 8);
    }
    Due.due("the tape stays", x.count(4), 3);
  }

  static void p28Sheets512() {
    PhraseMoods x = new PhraseMoods();
    for (int i = 0; i < 512; i++) {
      Due.due("sheet", x.sheet(i % 4, i % 2, 40), 1);
    }
  }

  static void p20Trays512() {
    PhraseMoods x = new PhraseMoods();
    for (int i = 0; i < 256; i++) {
      Due.due("tray", x.tray(i % 4, i % 6, 20), 1);
      Due.due("like", x.like((i + 1) % 4, i % 4), 20);
    }
  }

  // ---- numbers as far out as an int goes: each place of each call, the others as they should be

  static void p02FarOutIntsAreBad() {
    for (int far : new int[] {MIN, MAX}) {
      refuses("feed n", -2, x -> x.feed(far, 97, 97, 97, 97, 97));
      refuses("word kind", -2, x -> x.word(far, 0, 0));
      refuses("word table", -2, x -> x.word(0, far, 0));
      refuses("word gender", -2, x -> x.word(0, 0, far));
      refuses("ending table", -2, x -> x.ending(far, 0, 0));
      refuses("ending row", -2, x -> x.ending(0, far, 0));
      refuses("ending number", -2, x -> x.ending(0, 0, far));
      refuses("desk frame", -2, x -> x.desk(far, 0));
      refuses("desk mood", -2, x -> x.desk(0, far));
      refuses("number group", -2, x -> x.number(far, 0));
      refuses("number n", -2, x -> x.number(0, far));
      refuses("tray", -2, x -> x.tray(far, 0, 1));
      refuses("tray kind", -2, x -> x.tray(0, far, 1));
      refuses("tray n", far < 0 ? -14 : -2, x -> x.tray(0, 0, far));
      refuses("sheet", -2, x -> x.sheet(far, 0, 1));
      refuses("sheet sort", -2, x -> x.sheet(0, far, 1));
      refuses("sheet n", far < 0 ? -14 : -2, x -> x.sheet(0, 0, far));
      refuses("put i", -12, x -> x.put(0, far, 1));
      refuses("copy n", -12, x -> x.copy(0, 0, 2, 0, far));
    }
  }
}
