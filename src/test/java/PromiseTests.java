public final class PromiseTests {
    public static void main(String[] args) {
        System.out.println("PASS new object " + new HemLine().count(0));
    }
}
