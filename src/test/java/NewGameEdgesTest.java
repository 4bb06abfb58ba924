/** The edges that promise 1 names and NewGameTest leaves open. */
public final class NewGameEdgesTest {
  public static void main(String[] args) {
    firstAcceptedDrop();
    objectsInTurn();
    Due.end();
  }

  private static void firstAcceptedDrop() {
    Due.sentence("`moves()` answers 0, so the first player is the mover of the first accepted drop.");
    for (int col = 0; col < 7; col++) {
      ConnectFour game = new ConnectFour();
      // An odd number of refused drops: were they counted, the second player would move.
      for (int wrong : new int[] {-1, 7, Integer.MIN_VALUE}) {
        game.drop(wrong);
        Due.is("moves() after drop(" + wrong + ")", game.moves(), 0);
      }
      game.drop(col);
      Seen seen = new Seen(game);
      Due.is("first player's word after drop(" + col + ")", seen.first, 1L << (col * 7));
      Due.is("second player's word after drop(" + col + ")", seen.second, 0);
    }
  }

  /** NewGameTest has two objects; here are many, each in another state at every call. */
  private static void objectsInTurn() {
    Due.sentence("Each object is its own game; calls on one object do not change another.");
    Numbers numbers = new Numbers();
    ConnectFour[] games = new ConnectFour[20];
    Seen[] seen = new Seen[games.length];
    for (int i = 0; i < games.length; i++) {
      games[i] = new ConnectFour();
      seen[i] = new Seen(games[i]);
    }
    for (int call = 0; call < 3000; call++) {
      int i = numbers.next(games.length);
      int col = numbers.next(9) - 1;
      games[i].drop(col);
      seen[i] = new Seen(games[i]);
      for (int other = 0; other < games.length; other++) {
        if (other != i) {
          seen[other].isStillSo("drop(" + col + ") on another object", games[other]);
        }
      }
    }
  }
}
