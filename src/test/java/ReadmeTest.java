/** The calls that README.md shows, with the answers that it tells. */
public final class ReadmeTest {
    public static void main(String[] args) {
        theFactorial();
        theTargetBeyondTheEnd();
        Check.end("ReadmeTest");
    }

    private static void theFactorial() {
        BundleAssembler x = new BundleAssembler();
        Check.due("emit ADDI", x.emit(6, 1, 0, 5), 0);
        Check.due("emit ADDI", x.emit(6, 2, 0, 1), 1);
        Check.due("emit MUL", x.emit(4, 2, 2, 1), 2);
        Check.due("emit ADDI", x.emit(6, 1, 1, -1), 3);
        Check.due("emit BNZ", x.emit(9, 0, 1, 2), 4);
        Check.due("run 3", x.run(3), 3);
        Check.due("place", x.place(), 3);
        Check.due("run 400", x.run(400), 14);
        Check.due("over", x.over(), 1);
        Check.due("register 2", x.register(2), 120);
        Check.due("jumps", x.jumps(), 4);
    }

    private static void theTargetBeyondTheEnd() {
        BundleAssembler x = new BundleAssembler();
        x.emit(10, 0, 0, 5);
        x.emit(0, 0, 0, 0);
        Check.due("JUMP 5 of two, shown", x.fieldOf(0, 2), 2);
        x.run(1);
        Check.due("JUMP 5 of two goes to the end", x.over(), 1);
        for (int i = 2; i < 6; i++) {
            x.emit(0, 0, 0, 0);
        }
        Check.due("JUMP 5 of six, shown", x.fieldOf(0, 2), 5);
        x.run(1);
        Check.due("JUMP 5 of six goes to operation 5", x.place(), 5);
        Check.due("and the run is not over", x.over(), 0);
    }
}
