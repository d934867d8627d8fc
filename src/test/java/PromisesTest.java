/** Placeholder main, filled in below. */
public final class PromisesTest {
    public static void main(String[] args) {
        System.out.println("0");
    }
}
