/** Promise 3: the height of a column. */
public final class HeightTest {
  public static void main(String[] args) {
    ConnectFour game = new ConnectFour();
    wrongColumns(game);
    for (int col = 0; col < 7; col++) {
      for (int row = 0; row < 6; row++) {
        game.drop(col);
        heightsAre(game, col, row + 1);
      }
      game.drop(col);
      heightsAre(game, col, 6);
      wrongColumns(game);
    }
    changesNothing();
    Due.end();
  }

  /** Columns below col are full, col has the given height, the rest is empty. */
  private static void heightsAre(ConnectFour game, int col, int height) {
    for (int c = 0; c < 7; c++) {
      int due = c < col ? 6 : c == col ? height : 0;
      Due.is("height(" + c + ")", game.height(c), due);
    }
  }

  private static void wrongColumns(ConnectFour game) {
    int[] wrong = {-1, -2, -7, 7, 8, 13, 14, 42, 256, 65536, -65536,
        1 << 30, Integer.MIN_VALUE, Integer.MIN_VALUE + 1, Integer.MAX_VALUE};
    for (int col : wrong) {
      Due.is("height(" + col + ")", game.height(col), -1);
    }
  }

  private static void changesNothing() {
    ConnectFour game = new ConnectFour();
    game.drop(3);
    for (int i = 0; i < 3; i++) {
      for (int col = -2; col <= 8; col++) {
        game.height(col);
        Due.is("key() after height(" + col + ")", game.key(), 2097152L);
        Due.is("moves() after height(" + col + ")", game.moves(), 1);
        Due.is("height(3) after height(" + col + ")", game.height(3), 1);
      }
    }
  }
}
