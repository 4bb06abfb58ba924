/** Promise 5: the number of moves. */
public final class MovesTest {
  public static void main(String[] args) {
    ConnectFour game = new ConnectFour();
    Due.is("moves() of a new game", game.moves(), 0);
    for (int i = 0; i < 42; i++) {
      game.drop(-1);
      game.drop(7);
      movesAre(game, i);
      game.drop(i % 7);
      movesAre(game, i + 1);
    }
    for (int col = -1; col <= 7; col++) {
      game.drop(col);
      movesAre(game, 42);
    }
    refusedAtAFullColumn();
    changesNothing();
    Due.end();
  }

  private static void movesAre(ConnectFour game, int due) {
    Due.is("moves()", game.moves(), due);
    int sum = 0;
    for (int col = 0; col < 7; col++) {
      sum += game.height(col);
    }
    Due.is("sum of the heights", sum, due);
  }

  private static void refusedAtAFullColumn() {
    ConnectFour game = new ConnectFour();
    for (int i = 0; i < 10; i++) {
      game.drop(4);
      movesAre(game, i < 6 ? i + 1 : 6);
    }
  }

  private static void changesNothing() {
    ConnectFour game = new ConnectFour();
    game.drop(1);
    for (int i = 0; i < 5; i++) {
      Due.is("moves() again", game.moves(), 1);
      Due.is("key() after moves()", game.key(), 128L);
      Due.is("height(1) after moves()", game.height(1), 1);
    }
  }
}
