/** Promises 20 to 23: trays for a KIND of words. */
final class TraysTest {
  public static void main(String[] args) {
    makes();
    lays();
    likes();
    Due.end();
  }

  private static void makes() {
    PhraseMoods x = Due.small();
    Due.due("tray -1", x.tray(-1, 0, 0), -2);
    Due.due("tray 4", x.tray(4, 0, 0), -2);
    Due.due("kind -1", x.tray(0, -1, 0), -2);
    Due.due("kind 6", x.tray(0, 6, -1), -2);
    Due.due("n 21", x.tray(0, 0, 21), -2);
    Due.due("n most", x.tray(0, 0, Integer.MAX_VALUE), -2);
    Due.due("n -1", x.tray(0, 0, -1), -14);
    Due.due("n least", x.tray(0, 0, Integer.MIN_VALUE), -14);
    Due.due("refused, so missing", x.laid(0, 0), -11);
    Due.due("n 20", x.tray(0, 0, 20), 1);
    for (int i = 0; i < 20; i++) {
      Due.due("all empty", x.laid(0, i), -1);
    }
    Due.due("behind", x.laid(0, 20), -12);
    Due.due("ahead", x.laid(0, -1), -12);
    x.lays(0, 0, 0);
    Due.due("refused again", x.tray(0, 0, -1), -14);
    Due.due("the one that was stays", x.laid(0, 0), 0);
    Due.due("made anew", x.tray(0, 1, 2), 1);
    Due.due("empty again", x.laid(0, 0), -1);
    Due.due("smaller", x.laid(0, 2), -12);
    Due.due("n 0", x.tray(1, 0, 0), 1);
    Due.due("no place", x.laid(1, 0), -12);
    Due.due("laid tray -1", x.laid(-1, 0), -2);
    Due.due("laid tray 4", x.laid(4, 0), -2);
    Due.due("laid missing", x.laid(3, 99), -11);
  }

  private static void lays() {
    PhraseMoods x = Due.small();
    Due.due("lays missing", x.lays(0, 9, 0), -11);
    Due.due("lays missing, bad word", x.lays(0, 9, 7), -2);
    Due.due("lays tray 4", x.lays(4, 0, 0), -2);
    Due.due("lays tray -1", x.lays(-1, 0, 0), -2);
    String[] kindsOf = {"0", "01", "01", "02", "013", "014", "025"};
    for (int kind = 0; kind < 6; kind++) {
      x.tray(0, kind, 2);
      for (int w = 0; w < 7; w++) {
        boolean fits = kindsOf[w].indexOf((char) ('0' + kind)) >= 0;
        int before = x.laid(0, 1);
        Due.due("lays word " + w + " in kind " + kind, x.lays(0, 1, w), fits ? 1 : -16);
        Due.due("lies there", x.laid(0, 1), fits ? w : before);
      }
    }
    Due.due("nothing", x.lays(0, 1, -1), 1);
    Due.due("nothing lies there", x.laid(0, 1), -1);
    Due.due("outside ahead of made for", x.lays(0, 2, 0), -12);
    Due.due("outside below", x.lays(0, -1, 6), -12);
    Due.due("bad word -2", x.lays(0, 0, -2), -2);
    Due.due("bad word 7", x.lays(0, 9, 7), -2);
  }

  private static void likes() {
    PhraseMoods x = Due.small();
    Due.due("like of a missing one", x.like(0, 1), -11);
    Due.due("like tray 4", x.like(4, 0), -2);
    Due.due("like other 4", x.like(0, 4), -2);
    Due.due("like -1", x.like(-1, 0), -2);
    Due.due("like other -1", x.like(0, -1), -2);
    x.tray(1, 1, 3);
    x.lays(1, 2, 5);
    Due.due("like", x.like(0, 1), 3);
    Due.due("what lay", x.laid(0, 2), 5);
    Due.due("its size", x.laid(0, 3), -12);
    x.lays(1, 2, 4);
    Due.due("as it was then", x.laid(0, 2), 5);
    x.lays(0, 0, 1);
    Due.due("the other stays", x.laid(1, 0), -1);
    Due.due("made for the same", x.lays(0, 0, 3), -16);
    Due.due("made for the same, a name", x.lays(0, 0, 4), 1);
    Due.due("like itself", x.like(0, 0), 3);
    Due.due("what lay still", x.laid(0, 2), 5);
    x.tray(2, 5, 20);
    Due.due("like a missing one, refused", x.like(2, 3), -11);
    Due.due("stays", x.laid(2, 19), -1);
    Due.due("a larger one by a smaller", x.like(2, 0), 3);
    Due.due("smaller now", x.laid(2, 3), -12);
  }
}
