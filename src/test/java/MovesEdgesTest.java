/** The edges that promise 5 names. */
public final class MovesEdgesTest {
  private static final int GAMES = 300;

  public static void main(String[] args) {
    fromNewGameToFullBoard();
    refusedDropsAreNotCounted();
    theSumOfTheHeights();
    changesNothing();
    Due.end();
  }

  private static void fromNewGameToFullBoard() {
    Due.sentence("`moves()` answers the number of stones placed so far,"
        + " from 0 (new game) to 42 (full board).");
    ConnectFour game = new ConnectFour();
    Due.is("moves() of a new game", game.moves(), 0);
    for (int i = 1; i <= 42; i++) {
      game.drop((i - 1) / 6);
      Due.is("moves() after " + i + " accepted drops", game.moves(), i);
    }
    for (int i = 0; i < 1000; i++) {
      game.drop(i % 9 - 1);
      Due.is("moves() of the full board", game.moves(), 42);
    }
  }

  private static void refusedDropsAreNotCounted() {
    Due.sentence("This is the number of accepted drops; refused drops are not counted.");
    Numbers numbers = new Numbers();
    for (int i = 0; i < GAMES; i++) {
      ConnectFour game = new ConnectFour();
      int accepted = 0;
      int refusedByFull = 0;
      for (int calls = 0; calls < 120; calls++) {
        int col = numbers.next(7);
        if (game.drop(col) == 0) {
          refusedByFull++;
        } else {
          accepted++;
        }
        Due.is("moves() after drop(" + col + ")", game.moves(), accepted);
        int wrong = Columns.WRONG.get(numbers.next(Columns.WRONG.size()));
        game.drop(wrong);
        Due.is("moves() after drop(" + wrong + ")", game.moves(), accepted);
      }
      Due.holds("some drops were into a full column", refusedByFull > 0);
    }
  }

  private static void theSumOfTheHeights() {
    Due.sentence("It always equals the sum of the heights of columns 0..6.");
    Numbers numbers = new Numbers();
    for (int i = 0; i < GAMES; i++) {
      ConnectFour game = new ConnectFour();
      isTheSum("a new game", game);
      for (int calls = 0; calls < 120; calls++) {
        int col = numbers.next(9) - 1;
        game.drop(col);
        isTheSum("drop(" + col + ")", game);
      }
    }
  }

  private static void isTheSum(String after, ConnectFour game) {
    int sum = 0;
    for (int col = 0; col < 7; col++) {
      sum += game.height(col);
    }
    Due.is("moves() after " + after, game.moves(), sum);
  }

  private static void changesNothing() {
    Due.sentence("The call changes nothing.");
    Twins.stayAlike("moves()", game -> game.moves());
  }
}
