/** Promises 28 to 30: the host's SHEETS. What lies in them is seen by tells(). */
final class HostTest {
  public static void main(String[] args) {
    sheets();
    puts();
    copies();
    copiesOntoItself();
    Due.end();
  }

  private static void sheets() {
    PhraseMoods x = new PhraseMoods();
    Due.due("sheet -1", x.sheet(-1, 0, 1), -2);
    Due.due("sheet 4", x.sheet(4, 0, 1), -2);
    Due.due("sort -2", x.sheet(0, -2, 1), -2);
    Due.due("sort 2", x.sheet(0, 2, -1), -2);
    Due.due("n 41", x.sheet(0, 0, 41), -2);
    Due.due("n most", x.sheet(0, 1, Integer.MAX_VALUE), -2);
    Due.due("n -1", x.sheet(0, 0, -1), -14);
    Due.due("n least", x.sheet(0, 1, Integer.MIN_VALUE), -14);
    Due.due("still missing", x.put(0, 0, 1), -11);
    Due.due("n 40", x.sheet(0, 0, 40), 1);
    Due.due("last", x.put(0, 39, 1), 1);
    Due.due("behind", x.put(0, 40, 1), -12);
    Due.due("refused", x.sheet(0, 0, -1), -14);
    Due.due("stays", x.put(0, 39, 1), 1);
    Due.due("n 0", x.sheet(1, 1, 0), 1);
    Due.due("nothing there", x.put(1, 0, 1), -12);
    Due.due("missing", x.sheet(0, -1, 99), 1);
    Due.due("it is missing", x.put(0, 0, 1), -11);
    Due.due("missing, n least", x.sheet(0, -1, Integer.MIN_VALUE), 1);
  }

  private static void puts() {
    PhraseMoods x = said();
    Due.due("put sheet -1", x.put(-1, 0, 1), -2);
    Due.due("put sheet 4", x.put(4, 0, 1), -2);
    Due.due("put missing", x.put(3, 99, 1), -11);
    x.sheet(0, 0, 3);
    x.sheet(1, 1, 3);
    Due.due("all 0", x.tells(0, 0), 0);
    Due.due("put -1", x.put(0, -1, 1), -12);
    Due.due("put 3", x.put(0, 3, 1), -12);
    Due.due("put least", x.put(0, Integer.MIN_VALUE, 1), -12);
    for (int i = 0; i < 3; i++) {
      Due.due("put", x.put(0, i, i + 1), 1);
      Due.due("put int", x.put(1, i, i + 1), 1);
      Due.due("one more is so", x.tells(0, 0), i == 2 ? -1 : i + 1);
    }
    x.put(0, 1, 2 - 65536);
    Due.due("the lowest 16 bits", x.tells(0, 0), -1);
    x.put(0, 1, 2 + 32768);
    Due.due("the 16th bit too", x.tells(0, 0), 1);
    x.put(1, 1, 2 - 65536);
    Due.due("all bits of an int", x.tells(1, 0), 1);
    x.sheet(0, 0, 3);
    Due.due("all 0 anew", x.tells(0, 0), 0);
  }

  /** Says words of 1, 2 and 3 letters: a ab abc. */
  private static PhraseMoods said() {
    PhraseMoods x = new PhraseMoods();
    Due.word(x, "a", 0, 0, 0);
    Due.word(x, "ab", 0, 0, 0);
    Due.word(x, "abc", 0, 0, 0);
    Due.frame(x, "p0p1p2");
    x.desk(0, 0);
    return x;
  }

  private static void copies() {
    PhraseMoods x = said();
    x.sheet(0, 0, 5);
    x.sheet(1, 0, 3);
    x.sheet(2, 1, 5);
    Due.due("copy sheet 4", x.copy(4, 0, 0, 0, 1), -2);
    Due.due("copy sheet -1", x.copy(-1, 0, 0, 0, 1), -2);
    Due.due("copy other 4", x.copy(0, 0, 4, 0, 1), -2);
    Due.due("copy other -1", x.copy(0, 0, -1, 0, 1), -2);
    Due.due("copy from a missing one", x.copy(3, 0, 0, 0, 1), -11);
    Due.due("copy to a missing one", x.copy(0, 0, 3, 0, 1), -11);
    Due.due("copy unlike", x.copy(0, 9, 2, 9, -1), -13);
    Due.due("copy n -1", x.copy(0, 0, 1, 0, -1), -12);
    Due.due("copy i -1", x.copy(0, -1, 1, 0, 1), -12);
    Due.due("copy j -1", x.copy(0, 0, 1, -1, 1), -12);
    Due.due("copy behind the first", x.copy(0, 3, 1, 0, 3), -12);
    Due.due("copy behind the other", x.copy(0, 0, 1, 1, 3), -12);
    Due.due("copy most", x.copy(0, 1, 1, 0, Integer.MAX_VALUE), -12);
    Due.due("copy i most", x.copy(0, Integer.MAX_VALUE, 1, 0, 1), -12);
    Due.due("copy j most", x.copy(0, 0, 1, Integer.MAX_VALUE, 1), -12);
    Due.due("copy none behind", x.copy(0, 5, 1, 3, 0), 0);
    Due.due("copy none further behind", x.copy(0, 6, 1, 3, 0), -12);
    for (int i = 0; i < 5; i++) {
      x.put(0, i, i);
    }
    Due.due("copy", x.copy(0, 1, 1, 0, 3), 3);
    Due.due("copied 1, 2, 3", x.tells(1, 0), -1);
    x.put(0, 1, 9);
    Due.due("its own", x.tells(1, 0), -1);
    Due.due("copy to one place", x.copy(0, 1, 1, 1, 1), 1);
    Due.due("the second is otherwise", x.tells(1, 0), 1);
  }

  private static void copiesOntoItself() {
    PhraseMoods x = said();
    x.sheet(0, 1, 4);
    x.sheet(1, 1, 3);
    for (int i = 0; i < 4; i++) {
      x.put(0, i, i + 1);
    }
    Due.due("to behind", x.copy(0, 0, 0, 1, 3), 3);
    x.copy(0, 1, 1, 0, 3);
    Due.due("as they were, 1 2 3", x.tells(1, 0), -1);
    Due.due("to ahead", x.copy(0, 1, 0, 0, 3), 3);
    x.copy(0, 0, 1, 0, 3);
    Due.due("as they were, 1 2 3 again", x.tells(1, 0), -1);
  }
}
