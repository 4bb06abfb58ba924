/** Promise 1: a new game is empty, and each object is its own game. */
public final class NewGameTest {
  public static void main(String[] args) {
    newGameIsEmpty("new", new ConnectFour());
    firstPlayerStarts();
    objectsAreApart();
    Due.end();
  }

  private static void newGameIsEmpty(String name, ConnectFour game) {
    Due.is(name + ": moves()", game.moves(), 0);
    Due.is(name + ": key()", game.key(), 0);
    for (int col = 0; col < 7; col++) {
      Due.is(name + ": height(" + col + ")", game.height(col), 0);
    }
  }

  private static void firstPlayerStarts() {
    for (int col = 0; col < 7; col++) {
      ConnectFour game = new ConnectFour();
      Due.is("first drop(" + col + ")", game.drop(col), 1);
      // The second player moves next and has no stone: each bit counts once.
      Due.is("key() after drop(" + col + ")", game.key(), 1L << (col * 7));
    }
  }

  private static void objectsAreApart() {
    ConnectFour one = new ConnectFour();
    ConnectFour other = new ConnectFour();
    for (int i = 0; i < 3; i++) {
      one.drop(0);
      one.drop(1);
    }
    newGameIsEmpty("other", other);
    newGameIsEmpty("made after the drops", new ConnectFour());
    long key = one.key();
    other.drop(0);
    other.drop(6);
    Due.is("one: key()", one.key(), key);
    Due.is("one: moves()", one.moves(), 6);
    Due.is("one: height(0)", one.height(0), 3);
    Due.is("one: height(6)", one.height(6), 0);
    Due.is("one: drop(0), four of its own", one.drop(0), 2);
    Due.is("other: drop(0)", other.drop(0), 1);
  }
}
