/** Promise 2: dropping a stone, told in runs written by hand. */
public final class DropTest {
  public static void main(String[] args) {
    fours();
    notFours();
    oldLinesCount();
    linesOfTheOtherPlayerDoNot();
    moreThanFour();
    refusedForColumn();
    refusedForFullColumn();
    fullBoard();
    Due.end();
  }

  /** Plays the columns; every answer but the last is due to be 1. */
  private static ConnectFour play(String name, String columns, int lastDue) {
    ConnectFour game = new ConnectFour();
    for (int i = 0; i < columns.length(); i++) {
      int due = i == columns.length() - 1 ? lastDue : 1;
      String call = name + ", call " + (i + 1) + ": drop(" + columns.charAt(i) + ")";
      Due.is(call, game.drop(columns.charAt(i) - '0'), due);
      Due.is(call + ", then moves()", game.moves(), i + 1);
    }
    return game;
  }

  private static void fours() {
    play("vertical, first player", "0101010", 2);
    play("vertical, second player", "01213141", 2);
    play("vertical up to the top", "000101010", 2);
    play("horizontal at the left edge", "0011223", 2);
    play("horizontal at the right edge", "3344556", 2);
    play("horizontal closed in the middle", "0011332", 2);
    play("rising", "01122323363", 2);
    play("falling", "65544343303", 2);
  }

  private static void notFours() {
    play("three vertical", "01010", 1);
    play("three horizontal", "00112", 1);
    play("four with a gap", "0011334", 1);
    play("three at a column's top, one at the next one's bottom", "00600606051", 1);
  }

  private static void oldLinesCount() {
    ConnectFour game = play("old line", "0101010", 2);
    Due.is("second player after it", game.drop(6), 1);
    Due.is("first player elsewhere", game.drop(3), 2);
    Due.is("second player again", game.drop(6), 1);
    Due.is("first player again", game.drop(5), 2);
    Due.is("second player's own line is not yet", game.drop(4), 1);
    Due.is("first player again", game.drop(4), 2);
    Due.is("second player's own line", game.drop(1), 2);
    Due.is("first player still", game.drop(2), 2);
    Due.is("second player still", game.drop(2), 2);
  }

  private static void linesOfTheOtherPlayerDoNot() {
    ConnectFour game = play("other's line", "01213141", 2);
    Due.is("first player does not have it", game.drop(6), 1);
    Due.is("second player has it", game.drop(6), 2);
  }

  private static void moreThanFour() {
    play("five in a row", "001133442", 2);
    play("seven in a row", "0011224455663", 2);
  }

  private static void refusedForColumn() {
    int[] wrong = {-1, 7, 8, -7, 14, 42, 64, 128, 256, 65536, -64,
        1 << 30, Integer.MIN_VALUE, Integer.MIN_VALUE + 1, Integer.MAX_VALUE};
    ConnectFour game = new ConnectFour();
    for (int i = 0; i <= 7; i++) {
      for (int col : wrong) {
        refuses(game, col);
      }
      // Had a refused call passed the turn, the last of these would answer 1.
      int due = i == 6 ? 2 : 1;
      if (i < 7) {
        Due.is("drop between refused calls " + i, game.drop(i % 2), due);
      }
    }
  }

  private static void refusedForFullColumn() {
    for (int col = 0; col < 7; col++) {
      ConnectFour game = new ConnectFour();
      for (int row = 0; row < 6; row++) {
        Due.is("filling column " + col, game.drop(col), 1);
      }
      refuses(game, col);
      refuses(game, col);
      Due.is("drop beside the full column", game.drop((col + 1) % 7), 1);
      refuses(game, col);
    }
  }

  private static void fullBoard() {
    ConnectFour game = new ConnectFour();
    for (int col = 0; col < 7; col++) {
      for (int row = 0; row < 6; row++) {
        Due.holds("drop(" + col + ") is accepted up to the end", game.drop(col) != 0);
      }
    }
    Due.is("moves() of the full board", game.moves(), 42);
    for (int col = -1; col <= 7; col++) {
      refuses(game, col);
    }
  }

  /** The call answers 0, also after a line, and nothing is seen to change. */
  private static void refuses(ConnectFour game, int col) {
    int moves = game.moves();
    long key = game.key();
    int[] heights = heights(game);
    Due.is("drop(" + col + ")", game.drop(col), 0);
    Due.is("moves() after refused drop(" + col + ")", game.moves(), moves);
    Due.is("key() after refused drop(" + col + ")", game.key(), key);
    int[] after = heights(game);
    for (int i = 0; i < 7; i++) {
      Due.is("height(" + i + ") after refused drop(" + col + ")", after[i], heights[i]);
    }
  }

  private static int[] heights(ConnectFour game) {
    int[] heights = new int[7];
    for (int col = 0; col < 7; col++) {
      heights[col] = game.height(col);
    }
    return heights;
  }
}
