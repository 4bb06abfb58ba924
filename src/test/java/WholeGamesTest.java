import java.util.List;

/**
 * Promises 1 to 5 together: whole games, each played to the full board and
 * compared after every call with PlainBoard.
 */
public final class WholeGamesTest {
  private static final int GAMES = 20000;

  // Whether line i was once the only line of player p when p's answer first
  // turned to 2: then no other line can have hidden that it goes unseen.
  private static final boolean[][] aloneFirst = new boolean[3][PlainBoard.LINES.size()];

  private static long state = 1;

  public static void main(String[] args) {
    Due.is("number of lines", PlainBoard.LINES.size(), 69);
    for (int i = 0; i < GAMES; i++) {
      playOne("game " + i);
    }
    for (int player = 1; player <= 2; player++) {
      for (int line = 0; line < PlainBoard.LINES.size(); line++) {
        Due.holds("player " + player + " had line " + line + " alone", aloneFirst[player][line]);
      }
    }
    Due.end();
  }

  // A fixed sequence of numbers: every run of this test plays the same games.
  private static int next(int bound) {
    state = state * 6364136223846793005L + 1442695040888963407L;
    return (int) ((state >>> 33) % bound);
  }

  private static void playOne(String name) {
    ConnectFour game = new ConnectFour();
    PlainBoard board = new PlainBoard();
    StringBuilder calls = new StringBuilder(name).append(':');
    boolean[] hadLine = new boolean[3];
    compare(calls, game, board);
    while (board.moves() < 42) {
      int col = next(9) - 1;
      int mover = board.toMove();
      calls.append(' ').append(col);
      int due = board.drop(col);
      Due.is(calls + " <- drop", game.drop(col), due);
      compare(calls, game, board);
      if (due == 2 && !hadLine[mover]) {
        hadLine[mover] = true;
        noteLine(mover, board.linesOf(mover));
      }
    }
    for (int col = -1; col <= 7; col++) {
      Due.is(calls + ", full: drop(" + col + ")", game.drop(col), 0);
    }
    compare(calls, game, board);
  }

  private static void noteLine(int mover, List<Integer> held) {
    if (held.size() == 1) {
      aloneFirst[mover][held.get(0)] = true;
    }
  }

  private static void compare(StringBuilder calls, ConnectFour game, PlainBoard board) {
    String name = calls.toString();
    Due.is(name + " <- moves", game.moves(), board.moves());
    Due.is(name + " <- key", game.key(), board.key());
    Due.holds(name + " <- key is not negative", game.key() >= 0);
    for (int col = -1; col <= 7; col++) {
      Due.is(name + " <- height(" + col + ")", game.height(col), board.height(col));
    }
  }
}
