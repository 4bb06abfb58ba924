/** The edges that promise 3 names. */
public final class HeightEdgesTest {
  public static void main(String[] args) {
    everyWrongColumn();
    stonesOfBothPlayers();
    emptyColumn();
    fullColumn();
    changesNothing();
    Due.end();
  }

  private static void everyWrongColumn() {
    Due.sentence("If `col < 0` or `col > 6`, the answer is -1, for every such `int`,"
        + " including the smallest and the largest.");
    ConnectFour game = new ConnectFour();
    game.drop(0);
    game.drop(6);
    game.drop(6);
    Due.is("height of the smallest int", game.height(Integer.MIN_VALUE), -1);
    Due.is("height of the largest int", game.height(Integer.MAX_VALUE), -1);
    Due.is("height(-1)", game.height(-1), -1);
    Due.is("height(7)", game.height(7), -1);
    int wrong = 0;
    for (int col = Integer.MIN_VALUE; col < 0 && wrong < 9; col++) {
      wrong += isNoColumn(game, col) ? 0 : 1;
    }
    for (int col = Integer.MAX_VALUE; col > 6 && wrong < 9; col--) {
      wrong += isNoColumn(game, col) ? 0 : 1;
    }
  }

  // Apart from Due.is, which would build a text for each of the ints.
  private static boolean isNoColumn(ConnectFour game, int col) {
    int answer = game.height(col);
    if (answer == -1) {
      return true;
    }
    Due.is("height(" + col + ")", answer, -1);
    return false;
  }

  private static void stonesOfBothPlayers() {
    Due.sentence("Otherwise the answer is the number of stones in column `col`, of both players together");
    for (int col = 0; col < 7; col++) {
      int beside = (col + 1) % 7;
      ConnectFour apart = new ConnectFour();
      ConnectFour mixed = new ConnectFour();
      for (int row = 0; row < 6; row++) {
        // The first player's stones alone, the second's alone, and both in turn.
        apart.drop(col);
        apart.drop(beside);
        mixed.drop(col);
        Due.is("height(" + col + "), the first player's", apart.height(col), row + 1);
        Due.is("height(" + beside + "), the second player's", apart.height(beside), row + 1);
        Due.is("height(" + col + "), of both", mixed.height(col), row + 1);
      }
    }
  }

  private static void emptyColumn() {
    Due.sentence("0 for an empty column");
    for (int empty = 0; empty < 7; empty++) {
      ConnectFour game = new ConnectFour();
      Due.is("new game, height(" + empty + ")", game.height(empty), 0);
      for (int i = 0; i < 42; i++) {
        if (i % 7 != empty) {
          game.drop(i % 7);
        }
        Due.is("height(" + empty + ") beside others", game.height(empty), 0);
      }
    }
  }

  private static void fullColumn() {
    Due.sentence("up to 6 for a full one.");
    for (int full = 0; full < 7; full++) {
      ConnectFour game = new ConnectFour();
      for (int i = 1; i <= 300; i++) {
        game.drop(full);
        Due.is("height(" + full + ") after " + i + " drops", game.height(full), i < 6 ? i : 6);
      }
    }
  }

  private static void changesNothing() {
    Due.sentence("The call changes nothing.");
    Twins.stayAlike("height() of each column", game -> {
      for (int col = -1; col <= 7; col++) {
        game.height(col);
      }
      game.height(Integer.MIN_VALUE);
      game.height(Integer.MAX_VALUE);
    });
    // An odd number of calls on one column: two might undo each other.
    for (int col = -1; col <= 7; col++) {
      int asked = col;
      Twins.stayAlike("height(" + col + ")", game -> game.height(asked));
    }
  }
}
